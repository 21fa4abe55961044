section joinN
variable {wt : Nat → Nat → Nat} {q n : Nat}
def dgJ (p f : Nat) : Nat := (8 - f) * 9 ^ (7 - p)
/-- what is added up: pairs and what they cost, then which FIND -/
def gnJ (wt : Nat → Nat → Nat) (sk : Nat → Bool) (p f : Nat) : Nat := if sk p = false ∧ 0 < wt p f then wt p f * 43046721 + dgJ p f else 0
theorem dgJ_sum (a : Nat → Nat) : ∀ (k p : Nat), p + k ≤ 8 → sB (fun p => dgJ p (a p)) p k + 9 ^ (8 - p - k) ≤ 9 ^ (8 - p)
  | 0, p, _ => by rw [sB, Nat.sub_zero, Nat.zero_add]; exact Nat.le_refl _
  | k + 1, p, h => by
    have ih := dgJ_sum a k (p + 1) (by omega)
    have e1 : 8 - (p + 1) - k = 8 - p - (k + 1) := by omega
    have e2 : 8 - p = 7 - p + 1 := by omega
    have e3 : 8 - (p + 1) = 7 - p := by omega
    rw [e1] at ih
    rw [e3] at ih
    have e4 : 9 ^ (8 - p) = 9 ^ (7 - p) * 9 := by rw [e2, Nat.pow_succ]
    have h1 : dgJ p (a p) ≤ 8 * 9 ^ (7 - p) := by unfold dgJ; exact Nat.mul_le_mul (by omega) (Nat.le_refl _)
    rw [sB, e4]
    show dgJ p (a p) + sB (fun p => dgJ p (a p)) (p + 1) k + 9 ^ (8 - p - (k + 1)) ≤ _
    omega
theorem gn_pos {sk : Nat → Bool} {p f : Nat} : 0 < gnJ wt sk p f ↔ sk p = false ∧ 0 < wt p f := by
  unfold gnJ
  by_cases c : sk p = false ∧ 0 < wt p f
  · rw [if_pos c]
    exact ⟨fun _ => c, fun _ => by have := c.2; omega⟩
  · rw [if_neg c]
    exact ⟨fun z => absurd z (by omega), fun z => absurd z c⟩
theorem gn_sum {sk : Nat → Bool} {fr : Nat → Prop} {a : Nat → Nat} (h8 : ∀ p, wt p 8 = 0) (ok : okA (fun p f => f = 8 ∨ 0 < gnJ wt sk p f) q 0 n fr a) : sB (fun p => gnJ wt sk p (a p)) 0 n = sB (fun p => if sk p = true then 0 else wt p (a p)) 0 n * 43046721 + sB (fun p => dgJ p (a p)) 0 n := by
  rw [← sB_mul, ← sB_add]
  refine sB_cong n 0 (fun j hj => ?_)
  show gnJ wt sk (0 + j) (a (0 + j)) = (if sk (0 + j) = true then 0 else wt (0 + j) (a (0 + j))) * 43046721 + dgJ (0 + j) (a (0 + j))
  obtain ⟨h1, -⟩ := ok.1 j hj
  rcases h1 with e | e
  · rw [e]
    unfold gnJ dgJ
    rw [h8, if_neg (by omega)]
    simp
  · have c := gn_pos.mp e
    unfold gnJ
    rw [if_pos c, if_neg (by rw [c.1]; decide)]
theorem wt_sum (hw : ∀ p f, wt p f ≤ 1000) (a : Nat → Nat) : ∀ k p, sB (fun p => wt p (a p)) p k ≤ 1000 * k
  | 0, p => by rw [sB]; omega
  | k + 1, p => by
    have h1 := wt_sum hw a k (p + 1)
    have h2 := hw p (a p)
    rw [sB]
    show wt p (a p) + sB (fun p => wt p (a p)) (p + 1) k ≤ _
    omega
theorem all_bit (q f : Nat) : (2 ^ q - 1).testBit f = decide (f < q) := Nat.testBit_two_pow_sub_one q f
/-- the best of all, both ways -/
abbrev Opt (wt : Nat → Nat → Nat) (q n : Nat) (a : Nat → Nat) : Prop :=
  (okA (alJ wt (fun _ => true)) q 0 n (fun _ => True) a) ∧
  (bst (gnJ wt (fun _ => false)) q n (2 ^ q - 1) = sB (fun p => wt p (a p)) 0 n * 43046721 + sB (fun p => dgJ p (a p)) 0 n) ∧
  (jn wt (fun _ => true) q n n 0 = - (sB (fun p => wt p (a p)) 0 n : Int))
theorem Opt.ok {wt : Nat → Nat → Nat} {q n : Nat} {a : Nat → Nat} (h : Opt wt q n a) : okA (alJ wt (fun _ => true)) q 0 n (fun _ => True) a := h.1
theorem Opt.val {wt : Nat → Nat → Nat} {q n : Nat} {a : Nat → Nat} (h : Opt wt q n a) : bst (gnJ wt (fun _ => false)) q n (2 ^ q - 1) = sB (fun p => wt p (a p)) 0 n * 43046721 + sB (fun p => dgJ p (a p)) 0 n := h.2.1
theorem Opt.least {wt : Nat → Nat → Nat} {q n : Nat} {a : Nat → Nat} (h : Opt wt q n a) : jn wt (fun _ => true) q n n 0 = - (sB (fun p => wt p (a p)) 0 n : Int) := h.2.2
theorem al_to {p f : Nat} (h8 : ∀ p, wt p 8 = 0) : (f = 8 ∨ 0 < gnJ wt (fun _ => false) p f) ↔ alJ wt (fun _ => true) p f := by
  rw [gn_pos]
  unfold alJ
  constructor
  · rintro (e | e)
    · exact Or.inl ⟨e, rfl⟩
    · by_cases c : f = 8
      · exact Or.inl ⟨c, rfl⟩
      · exact Or.inr ⟨c, e.2⟩
  · rintro (e | e)
    · exact Or.inl e.1
    · exact Or.inr ⟨rfl, e.2⟩
theorem okA_al {al al2 : Nat → Nat → Prop} {p k : Nat} {fr fr2 : Nat → Prop} {a : Nat → Nat} (h : ∀ p f, al p f → al2 p f) (hf : ∀ f, f < q → fr f → fr2 f) (ok : okA al q p k fr a) : okA al2 q p k fr2 a :=
  okA_cong hf (fun _ _ => rfl) ⟨fun j hj => ⟨h _ _ (ok.1 j hj).1, (ok.1 j hj).2⟩, ok.2⟩
theorem bst_lt (hq : q ≤ 8) (hn : n ≤ 8) (h8 : ∀ p, wt p 8 = 0) {a : Nat → Nat} (ok : okA (alJ wt (fun _ => true)) q 0 n (fun _ => True) a) : sB (fun p => wt p (a p)) 0 n * 43046721 + sB (fun p => dgJ p (a p)) 0 n ≤ bst (gnJ wt (fun _ => false)) q n (2 ^ q - 1) := by
  have g8 : ∀ p, gnJ wt (fun _ => false) p 8 = 0 := fun p => by unfold gnJ; rw [h8, if_neg (by omega)]
  have ok2 : okA (fun p f => f = 8 ∨ 0 < gnJ wt (fun _ => false) p f) q 0 n (fun f => (2 ^ q - 1).testBit f = true) a := okA_al (fun p f => (al_to h8).mpr) (fun f hf _ => by
    show (2 ^ q - 1).testBit f = true
    rw [all_bit]; simpa using hf) ok
  have := bst_ub hq g8 n (2 ^ q - 1) a ok2
  rw [gn_sum h8 ok2] at this
  simpa using this
theorem opt_ex (hq : q ≤ 8) (hn : n ≤ 8) (h8 : ∀ p, wt p 8 = 0) (hw : ∀ p f, wt p f ≤ 1000) : ∃ a, Opt wt q n a := by
  have g8 : ∀ p, gnJ wt (fun _ => false) p 8 = 0 := fun p => by unfold gnJ; rw [h8, if_neg (by omega)]
  obtain ⟨a, ok, e⟩ := bst_at (gn := gnJ wt (fun _ => false)) hq g8 n (2 ^ q - 1)
  rw [gn_sum h8 ok] at e
  simp only [Bool.false_eq_true, if_false] at e
  have ok2 : okA (alJ wt (fun _ => true)) q 0 n (fun _ => True) a := okA_al (fun p f => (al_to h8).mp) (fun _ _ _ => trivial) ok
  refine ⟨a, ok2, e.symm, ?_⟩
  have z : ∀ f, (0 : Nat).testBit f = false := fun f => Nat.zero_testBit f
  have ub := jn_ub (n := n) hq h8 n 0 a (Nat.le_refl _) (by rw [Nat.sub_self]; exact okA_al (fun _ _ w => w) (fun f _ _ => z f) ok2)
  rw [Nat.sub_self] at ub
  rcases jn_at (nn := fun _ => true) (n := n) hq h8 hw n 0 (Nat.le_refl _) with w | ⟨b, okb, eb⟩
  · omega
  · rw [Nat.sub_self] at okb eb
    have lb := bst_lt hq hn h8 (okA_al (fun _ _ w => w) (fun _ _ _ => trivial) okb)
    rw [← e] at lb
    have d := dgJ_sum a n 0 (by omega)
    have p1 : 1 ≤ 9 ^ (8 - 0 - n) := Nat.pow_pos (by decide)
    have p2 : 9 ^ (8 - 0) = 43046721 := by decide
    rw [p2] at d
    omega
/-- the reference's choice for PIECE p -/
def gpk (wt : Nat → Nat → Nat) (q n p U : Nat) (f : Nat) : Bool := !(U.testBit f) && decide (0 < wt p f) && decide (- (wt p f : Int) + jn wt (fun _ => true) q n (n - p - 1) (U ||| 2 ^ f) = jn wt (fun _ => true) q n (n - p) U)
theorem gpk_iff {p U f : Nat} : gpk wt q n p U f = true ↔ U.testBit f = false ∧ 0 < wt p f ∧ - (wt p f : Int) + jn wt (fun _ => true) q n (n - p - 1) (U ||| 2 ^ f) = jn wt (fun _ => true) q n (n - p) U := by
  unfold gpk
  simp only [Bool.and_eq_true, Bool.not_eq_true', decide_eq_true_eq]
  exact ⟨fun ⟨⟨a, b⟩, c⟩ => ⟨a, b, c⟩, fun ⟨a, b, c⟩ => ⟨⟨a, b⟩, c⟩⟩
/-- the FINDS that the first p PIECES have -/
def usedJ (a : Nat → Nat) : Nat → Nat
  | 0 => 0
  | p + 1 => if a p = 8 then usedJ a p else usedJ a p ||| 2 ^ a p
theorem used_bit (a : Nat → Nat) (f : Nat) (hf : f ≠ 8) : ∀ p, (usedJ a p).testBit f = true ↔ ∃ j, j < p ∧ a j = f
  | 0 => by
    rw [usedJ, Nat.zero_testBit]
    exact ⟨fun z => absurd z (by decide), fun ⟨j, hj, _⟩ => absurd hj (by omega)⟩
  | p + 1 => by
    rw [usedJ]
    have ih := used_bit a f hf p
    by_cases c : a p = 8
    · rw [if_pos c, ih]
      constructor
      · rintro ⟨j, hj, e⟩; exact ⟨j, by omega, e⟩
      · rintro ⟨j, hj, e⟩
        by_cases ej : j = p
        · subst ej; omega
        · exact ⟨j, by omega, e⟩
    · rw [if_neg c, or_bit]
      by_cases e : f = a p
      · rw [if_pos e]; exact ⟨fun _ => ⟨p, by omega, e.symm⟩, fun _ => rfl⟩
      · rw [if_neg e, ih]
        constructor
        · rintro ⟨j, hj, e2⟩; exact ⟨j, by omega, e2⟩
        · rintro ⟨j, hj, e2⟩
          by_cases ej : j = p
          · subst ej; omega
          · exact ⟨j, by omega, e2⟩
theorem ok_rest {a : Nat → Nat} {p : Nat} (hq : q ≤ 8) (hp : p ≤ n) (ok : okA (alJ wt (fun _ => true)) q 0 n (fun _ => True) a) : okA (alJ wt (fun _ => true)) q p (n - p) (fun f => (usedJ a p).testBit f = false) a := by
  refine ⟨fun j hj => ?_, fun i j hi hj e => ?_⟩
  · have := ok.1 (p + j) (by omega)
    rw [Nat.zero_add] at this
    refine ⟨this.1, ?_⟩
    rcases this.2 with w | w
    · exact Or.inl w
    · refine Or.inr ⟨w.1, ?_⟩
      by_cases c : (usedJ a p).testBit (a (p + j)) = true
      · obtain ⟨i, hi, e⟩ := (used_bit a (a (p + j)) (by omega) p).mp c
        have := ok.2 i (p + j) (by omega) (by omega) (by rw [Nat.zero_add, Nat.zero_add]; exact e)
        rw [Nat.zero_add] at this
        omega
      · simpa using c
  · have := ok.2 (p + i) (p + j) (by omega) (by omega)
    rw [Nat.zero_add, Nat.zero_add] at this
    exact this e
theorem opt_rest (hq : q ≤ 8) (hn : n ≤ 8) (h8 : ∀ p, wt p 8 = 0) {a : Nat → Nat} (o : Opt wt q n a) : ∀ p, p ≤ n → jn wt (fun _ => true) q n (n - p) (usedJ a p) = - (sB (fun p => wt p (a p)) p (n - p) : Int)
  | 0, _ => by rw [Nat.sub_zero, usedJ]; exact o.least
  | p + 1, hp => by
    have ih := opt_rest hq hn h8 o p (by omega)
    have ek : n - p = (n - (p + 1)) + 1 := by omega
    have ep : n - (n - (p + 1) + 1) = p := by omega
    have ep2 : n - (n - (p + 1)) = p + 1 := by omega
    have ub := jn_ub (nn := fun _ => true) (n := n) hq h8 (n - (p + 1)) (usedJ a (p + 1)) a (by omega) (by rw [ep2]; exact ok_rest hq hp o.ok)
    rw [ep2] at ub
    have hok := o.ok.1 p (by omega)
    rw [Nat.zero_add] at hok
    have hr := (ok_rest (p := p) hq (by omega) o.ok).1 0 (by omega)
    rw [Nat.add_zero] at hr
    have step : jn wt (fun _ => true) q n (n - p) (usedJ a p) ≤ - (wt p (a p) : Int) + jn wt (fun _ => true) q n (n - (p + 1)) (usedJ a (p + 1)) := by
      rw [ek, jn, ep, if_pos rfl, usedJ]
      by_cases c : a p = 8
      · rw [if_pos c, c, h8]
        have := mnZ_b (jn wt (fun _ => true) q n (n - (p + 1)) (usedJ a p)) (fun f => if (usedJ a p).testBit f = false ∧ 0 < wt p f then - (wt p f : Int) + jn wt (fun _ => true) q n (n - (p + 1)) (usedJ a p ||| 2 ^ f) else 1000000) q
        omega
      · rw [if_neg c]
        have h1 : a p < q ∧ (usedJ a p).testBit (a p) = false := by
          rcases hr.2 with w | w
          · exact absurd w c
          · exact w
        have h2 : 0 < wt p (a p) := by
          rcases hok.1 with w | w
          · exact absurd w.1 c
          · exact w.2
        have := mnZ_le (jn wt (fun _ => true) q n (n - (p + 1)) (usedJ a p)) (fun f => if (usedJ a p).testBit f = false ∧ 0 < wt p f then - (wt p f : Int) + jn wt (fun _ => true) q n (n - (p + 1)) (usedJ a p ||| 2 ^ f) else 1000000) q (a p) h1.1
        simp only [if_pos (And.intro h1.2 h2)] at this
        exact this
    rw [ih, ek, sB] at step
    omega
/-- one choice is the other -/
theorem opt_pick (hq : q ≤ 8) (hn : n ≤ 8) (h8 : ∀ p, wt p 8 = 0) (hw : ∀ p f, wt p f ≤ 1000) {a : Nat → Nat} (o : Opt wt q n a) {p : Nat} (hp : p < n) : (a p ≠ 8 → gpk wt q n p (usedJ a p) (a p) = true) ∧ ∀ f, f < q → f < a p → ¬ gpk wt q n p (usedJ a p) f = true := by
  have r0 := opt_rest hq hn h8 o p (by omega)
  have r1 := opt_rest hq hn h8 o (p + 1) (by omega)
  have ek : n - p = (n - p - 1) + 1 := by omega
  have e1 : n - (p + 1) = n - p - 1 := by omega
  rw [e1] at r1
  have hr := (ok_rest (p := p) hq (by omega) o.ok).1 0 (by omega)
  rw [Nat.add_zero] at hr
  have s0 : sB (fun p => wt p (a p)) p (n - p) = wt p (a p) + sB (fun p => wt p (a p)) (p + 1) (n - p - 1) := by rw [ek, sB]; rfl
  refine ⟨fun c => gpk_iff.mpr ?_, fun f hf hlt g => ?_⟩
  · have h1 : a p < q ∧ (usedJ a p).testBit (a p) = false := by
      rcases hr.2 with w | w
      · exact absurd w c
      · exact w
    have h2 : 0 < wt p (a p) := by
      rcases hr.1 with w | w
      · exact absurd w.1 c
      · exact w.2
    refine ⟨h1.2, h2, ?_⟩
    rw [usedJ, if_neg c] at r1
    rw [r1, r0, s0]
    omega
  · obtain ⟨g1, g2, g3⟩ := gpk_iff.mp g
    have ep2 : n - (n - p - 1) = p + 1 := by omega
    rcases jn_at (nn := fun _ => true) (n := n) hq h8 hw (n - p - 1) (usedJ a p ||| 2 ^ f) (by omega) with w | ⟨c, okc, ec⟩
    · have := hw p f
      omega
    · rw [ep2] at okc ec
      -- the other way to join
      obtain ⟨b, b1, b2, b3⟩ : ∃ b : Nat → Nat, (∀ j, j < p → b j = a j) ∧ b p = f ∧ (∀ j, p < j → b j = c j) := ⟨fun j => if j < p then a j else if j = p then f else c j, fun j hj => by simp [hj], by simp, fun j hj => by
        have h1 : ¬ j < p := by omega
        have h2 : ¬ j = p := by omega
        simp [h1, h2]⟩
      have okb : okA (alJ wt (fun _ => true)) q 0 n (fun _ => True) b := by
        refine ⟨fun j hj => ?_, fun i j hi hj e => ?_⟩
        · rw [Nat.zero_add]
          rcases Nat.lt_trichotomy j p with h | h | h
          · rw [b1 j h]
            have := o.ok.1 j hj
            rw [Nat.zero_add] at this
            exact this
          · subst h
            rw [b2]
            exact ⟨Or.inr ⟨by omega, g2⟩, Or.inr ⟨hf, trivial⟩⟩
          · rw [b3 j h]
            have := okc.1 (j - (p + 1)) (by omega)
            have ej : p + 1 + (j - (p + 1)) = j := by omega
            rw [ej] at this
            exact ⟨this.1, this.2.imp id (fun w => ⟨w.1, trivial⟩)⟩
        · rw [Nat.zero_add, Nat.zero_add] at e
          rw [Nat.zero_add]
          rcases Nat.lt_trichotomy j p with h | h | h
          · rw [b1 i (by omega), b1 j h] at e
            rw [b1 i (by omega)]
            have := o.ok.2 i j hi hj
            rw [Nat.zero_add, Nat.zero_add] at this
            exact this e
          · subst h
            rw [b1 i hi, b2] at e
            have := (used_bit a f (by omega) j).mpr ⟨i, hi, e⟩
            rw [g1] at this
            exact absurd this (by decide)
          · have hcj := okc.1 (j - (p + 1)) (by omega)
            have ej : p + 1 + (j - (p + 1)) = j := by omega
            rw [ej] at hcj
            rw [b3 j h] at e
            rcases hcj.2 with w | ⟨w1, w2⟩
            · omega
            · rw [or_bit] at w2
              by_cases cf : c j = f
              · rw [if_pos cf] at w2; exact absurd w2 (by decide)
              · rw [if_neg cf] at w2
                rcases Nat.lt_trichotomy i p with h2 | h2 | h2
                · rw [b1 i h2] at e
                  have := (used_bit a (c j) (by omega) p).mpr ⟨i, h2, e⟩
                  rw [w2] at this
                  exact absurd this (by decide)
                · subst h2
                  rw [b2] at e
                  exact absurd e.symm cf
                · rw [b3 i h2] at e ⊢
                  have := okc.2 (i - (p + 1)) (j - (p + 1)) (by omega) (by omega)
                  have ei : p + 1 + (i - (p + 1)) = i := by omega
                  rw [ei, ej] at this
                  exact this e
      have lb := bst_lt hq hn h8 okb
      rw [o.val] at lb
      have en : n = p + ((n - p - 1) + 1) := by omega
      have cut : ∀ (h : Nat → Nat → Nat) (a : Nat → Nat), sB (fun p => h p (a p)) 0 n = sB (fun p => h p (a p)) 0 p + (h p (a p) + sB (fun p => h p (a p)) (p + 1) (n - p - 1)) := fun h a => by
        have := sB_split (fun p => h p (a p)) p 0 ((n - p - 1) + 1)
        rw [← en, Nat.zero_add, sB] at this
        exact this
      have lo : ∀ h : Nat → Nat → Nat, sB (fun p => h p (b p)) 0 p = sB (fun p => h p (a p)) 0 p := fun h => sB_cong p 0 (fun j hj => by
        show h (0 + j) (b (0 + j)) = h (0 + j) (a (0 + j))
        rw [Nat.zero_add, b1 j hj])
      have hi : ∀ h : Nat → Nat → Nat, sB (fun p => h p (b p)) (p + 1) (n - p - 1) = sB (fun p => h p (c p)) (p + 1) (n - p - 1) := fun h => sB_cong _ _ (fun j hj => by
        show h (p + 1 + j) (b (p + 1 + j)) = h (p + 1 + j) (c (p + 1 + j))
        rw [b3 _ (by omega)])
      rw [cut wt a, cut wt b, cut dgJ a, cut dgJ b, lo wt, lo dgJ, hi wt, hi dgJ, b2] at lb
      have da := dgJ_sum a (n - p - 1) (p + 1) (by omega)
      have e7 : 8 - (p + 1) = 7 - p := by omega
      rw [e7] at da
      have pp : 1 ≤ 9 ^ (7 - p - (n - p - 1)) := Nat.pow_pos (by decide)
      have ap : a p ≤ 8 := by
        rcases hr.2 with w | w
        · omega
        · have := w.1; omega
      have dd : dgJ p (a p) + 9 ^ (7 - p) ≤ dgJ p f := by
        unfold dgJ
        have : (8 - a p) * 9 ^ (7 - p) + 9 ^ (7 - p) = (8 - a p + 1) * 9 ^ (7 - p) := by rw [Nat.add_mul, Nat.one_mul]
        rw [this]
        exact Nat.mul_le_mul (by omega) (Nat.le_refl _)
      rw [r0, s0, ec] at g3
      have ew : sB (fun p => wt p (a p)) 0 p + (wt p (a p) + sB (fun p => wt p (a p)) (p + 1) (n - p - 1)) = sB (fun p => wt p (a p)) 0 p + (wt p f + sB (fun p => wt p (c p)) (p + 1) (n - p - 1)) := by omega
      rw [ew] at lb
      omega
/-- the place of nine -/
theorem digit_at (hn : n ≤ 8) (a : Nat → Nat) {p : Nat} (hp : p < n) : sB (fun p => dgJ p (a p)) 0 n / 9 ^ (7 - p) % 9 = 8 - a p := by
  have en : n = p + ((n - p - 1) + 1) := by omega
  have cut : sB (fun p => dgJ p (a p)) 0 n = sB (fun p => dgJ p (a p)) 0 p + (dgJ p (a p) + sB (fun p => dgJ p (a p)) (p + 1) (n - p - 1)) := by
    have := sB_split (fun p => dgJ p (a p)) p 0 ((n - p - 1) + 1)
    rw [← en, Nat.zero_add, sB] at this
    exact this
  have mul : ∀ k, k ≤ p → ∃ m, sB (fun p => dgJ p (a p)) 0 k = m * 9 * 9 ^ (7 - p) := by
    intro k
    induction k with
    | zero => intro _; exact ⟨0, by rw [sB]; omega⟩
    | succ k ih =>
      intro hk
      obtain ⟨m, e⟩ := ih (by omega)
      have e2 : 9 ^ (7 - k) = 9 ^ (p - 1 - k) * 9 * 9 ^ (7 - p) := by
        have : 7 - k = (p - 1 - k + 1) + (7 - p) := by omega
        rw [this, Nat.pow_add, Nat.pow_succ]
      refine ⟨m + (8 - a k) * 9 ^ (p - 1 - k), ?_⟩
      rw [sB_one, e]
      show m * 9 * 9 ^ (7 - p) + (8 - a k) * 9 ^ (7 - k) = _
      rw [e2, Nat.add_mul, Nat.add_mul, Nat.mul_assoc (8 - a k), Nat.mul_assoc (8 - a k)]
  obtain ⟨m, em⟩ := mul p (Nat.le_refl _)
  have da := dgJ_sum a (n - p - 1) (p + 1) (by omega)
  have e7 : 8 - (p + 1) = 7 - p := by omega
  rw [e7] at da
  have pp : 1 ≤ 9 ^ (7 - p - (n - p - 1)) := Nat.pow_pos (by decide)
  rw [cut, em]
  unfold dgJ at da ⊢
  generalize sB (fun p => (8 - a p) * 9 ^ (7 - p)) (p + 1) (n - p - 1) = r at *
  generalize 9 ^ (7 - p) = P at *
  have e : m * 9 * P + ((8 - a p) * P + r) = r + P * (m * 9 + (8 - a p)) := by
    rw [Nat.mul_add, Nat.mul_comm P, Nat.mul_comm P]; omega
  rw [e, Nat.add_mul_div_left _ _ (by omega), Nat.div_eq_of_lt (by omega)]
  omega
end joinN
