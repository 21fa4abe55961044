section certN
variable {wt : Nat → Nat → Nat} {q n c : Nat}
/-- PIECE c has FIND f (8: none) -/
def wF (wt : Nat → Nat → Nat) (c f p g : Nat) : Nat := if p = c ∧ g ≠ f then 0 else wt p g
def nF (c f p : Nat) : Bool := !(decide (p = c) && decide (f < 8))
def skC (c p : Nat) : Bool := decide (p = c)
theorem sB_at {h g : Nat → Nat} {c : Nat} : ∀ n, c < n → (∀ p, p < n → p ≠ c → h p = g p) → sB h 0 n + g c = sB g 0 n + h c
  | 0, hc, _ => absurd hc (by omega)
  | n + 1, hc, e => by
    rw [sB_one, sB_one]
    by_cases q : c = n
    · subst q
      have : sB h 0 c = sB g 0 c := sB_cong c 0 (fun j hj => by rw [Nat.zero_add]; exact e j (by omega) (by omega))
      omega
    · have := sB_at n (by omega) (fun p hp => e p (by omega))
      have := e n (by omega) (fun z => q z.symm)
      omega
theorem forced (hq : q ≤ 8) (hn : n ≤ 8) (h8 : ∀ p, wt p 8 = 0) (hw : ∀ p f, wt p f ≤ 1000) {f S : Nat} (hc : c < n) (hf : f = 8 ∨ (f < q ∧ 0 < wt c f)) (hS : ∀ g, g < q → (S.testBit g = true ↔ g ≠ f)) :
    jn (wF wt c f) (nF c f) q n n 0 = - ((bst (gnJ wt (skC c)) q n S / 43046721 + wt c f : Nat) : Int) := by
  have g8 : ∀ p, gnJ wt (skC c) p 8 = 0 := fun p => by unfold gnJ; rw [h8, if_neg (by omega)]
  have w8 : ∀ p, wF wt c f p 8 = 0 := fun p => by unfold wF; rw [h8]; split <;> rfl
  have wle : ∀ p g, wF wt c f p g ≤ 1000 := fun p g => by
    unfold wF
    have := hw p g
    split <;> omega
  have wc : wF wt c f c f = wt c f := by unfold wF; rw [if_neg (fun z => z.2 rfl)]
  have wo : ∀ p g, p ≠ c → wF wt c f p g = wt p g := fun p g hp => by unfold wF; rw [if_neg (fun z => hp z.1)]
  have no : ∀ p, p ≠ c → nF c f p = true := fun p hp => by unfold nF; simp [hp]
  have so : ∀ p, p ≠ c → skC c p = false := fun p hp => by unfold skC; simp [hp]
  have sc : skC c c = true := by unfold skC; simp
  have z : ∀ f, (0 : Nat).testBit f = false := fun f => Nat.zero_testBit f
  have p2 : 9 ^ (8 - 0) = 43046721 := by decide
  have pp : 0 < 9 ^ (8 - 0 - n) := Nat.pow_pos (by decide)
  have sums : ∀ x y : Nat → Nat, x c = f → (∀ p, p ≠ c → y p = x p) → sB (fun p => wF wt c f p (x p)) 0 n = sB (fun p => if skC c p = true then 0 else wt p (y p)) 0 n + wt c f := by
    intro x y h1 h2
    have := sB_at (h := fun p => wF wt c f p (x p)) (g := fun p => if skC c p = true then 0 else wt p (y p)) (c := c) n hc (fun p _ hpc => by
      show wF wt c f p (x p) = if skC c p = true then 0 else wt p (y p)
      rw [wo p _ hpc, so p hpc, h2 p hpc]; rfl)
    simp only [sc, if_true] at this
    rw [h1, wc] at this
    omega
  obtain ⟨a, ok, e⟩ := bst_at (gn := gnJ wt (skC c)) hq g8 n S
  rw [gn_sum h8 ok] at e
  have d := dgJ_sum a n 0 (by omega)
  rw [p2] at d
  have ediv : bst (gnJ wt (skC c)) q n S / 43046721 = sB (fun p => if skC c p = true then 0 else wt p (a p)) 0 n := by
    rw [← e, Nat.add_comm, Nat.add_mul_div_right _ _ (by decide), Nat.div_eq_of_lt (by omega), Nat.zero_add]
  rw [ediv]
  have up : jn (wF wt c f) (nF c f) q n n 0 ≤ - ((sB (fun p => if skC c p = true then 0 else wt p (a p)) 0 n + wt c f : Nat) : Int) := by
    obtain ⟨b, b1, b2⟩ : ∃ b : Nat → Nat, b c = f ∧ ∀ p, p ≠ c → a p = b p := ⟨fun p => if p = c then f else a p, by simp, fun p hp => by simp [hp]⟩
    have okb : okA (alJ (wF wt c f) (nF c f)) q 0 n (fun g => (0 : Nat).testBit g = false) b := by
      have clash : ∀ j, j < n → j ≠ c → a j = f → f = 8 := fun j hj hjc ej => by
        rcases (ok.1 j hj).2 with w | w
        · rw [Nat.zero_add] at w; omega
        · rw [Nat.zero_add] at w
          have := (hS _ w.1).mp w.2
          exact absurd ej this
      refine ⟨fun j hj => ?_, fun i j hi hj ee => ?_⟩
      · rw [Nat.zero_add]
        by_cases ej : j = c
        · subst ej
          rw [b1]
          rcases hf with w | w
          · exact ⟨Or.inl ⟨w, by unfold nF; simp [w]⟩, Or.inl w⟩
          · exact ⟨Or.inr ⟨by omega, by rw [wc]; exact w.2⟩, Or.inr ⟨w.1, z _⟩⟩
        · rw [← b2 j ej]
          have := ok.1 j hj
          rw [Nat.zero_add] at this
          refine ⟨?_, this.2.imp id (fun w => ⟨w.1, z _⟩)⟩
          by_cases e8 : a j = 8
          · exact Or.inl ⟨e8, no j ej⟩
          · refine Or.inr ⟨e8, ?_⟩
            rw [wo j _ ej]
            rcases this.1 with w | w
            · exact absurd w e8
            · exact (gn_pos.mp w).2
      · rw [Nat.zero_add, Nat.zero_add] at ee
        rw [Nat.zero_add]
        by_cases ei : i = c
        · subst ei
          rw [b1, ← b2 j (by omega)] at ee
          rw [b1]
          exact clash j hj (by omega) ee.symm
        · by_cases ej : j = c
          · subst ej
            rw [b1, ← b2 i ei] at ee
            rw [← b2 i ei, ee]
            exact clash i (by omega) ei ee
          · rw [← b2 i ei, ← b2 j ej] at ee
            rw [← b2 i ei]
            have := ok.2 i j hi hj
            rw [Nat.zero_add, Nat.zero_add] at this
            exact this ee
    have ub := jn_ub (nn := nF c f) (n := n) hq w8 n 0 b (Nat.le_refl _) (by rw [Nat.sub_self]; exact okb)
    rw [Nat.sub_self, sums b a b1 b2] at ub
    exact ub
  rcases jn_at (wt := wF wt c f) (nn := nF c f) (n := n) hq w8 wle n 0 (Nat.le_refl _) with w | ⟨b, okb, eb⟩
  · omega
  · rw [Nat.sub_self] at okb eb
    have hb : b c = f := by
      have := (okb.1 c hc).1
      rw [Nat.zero_add] at this
      rcases this with w | w
      · have w2 := w.2
        unfold nF at w2
        simp at w2
        omega
      · have w2 := w.2
        unfold wF at w2
        by_cases cc : b c = f
        · exact cc
        · rw [if_pos ⟨rfl, cc⟩] at w2
          omega
    obtain ⟨y, y1, y2⟩ : ∃ y : Nat → Nat, y c = 8 ∧ ∀ p, p ≠ c → y p = b p := ⟨fun p => if p = c then 8 else b p, by simp, fun p hp => by simp [hp]⟩
    have oky : okA (fun p f => f = 8 ∨ 0 < gnJ wt (skC c) p f) q 0 n (fun g => S.testBit g = true) y := by
      refine ⟨fun j hj => ?_, fun i j hi hj ee => ?_⟩
      · rw [Nat.zero_add]
        by_cases ej : j = c
        · subst ej
          rw [y1]
          exact ⟨Or.inl rfl, Or.inl rfl⟩
        · rw [y2 j ej]
          have := okb.1 j hj
          rw [Nat.zero_add] at this
          refine ⟨?_, ?_⟩
          · rcases this.1 with w | w
            · exact Or.inl w.1
            · refine Or.inr (gn_pos.mpr ⟨so j ej, ?_⟩)
              have := w.2
              rw [wo j _ ej] at this
              exact this
          · rcases this.2 with w | w
            · exact Or.inl w
            · refine Or.inr ⟨w.1, (hS _ w.1).mpr (fun ef => ?_)⟩
              have w1 := w.1
              rw [← hb] at ef
              rcases Nat.lt_or_gt_of_ne ej with h | h
              · have := okb.2 j c h hc
                rw [Nat.zero_add, Nat.zero_add] at this
                have := this ef
                omega
              · have := okb.2 c j h hj
                rw [Nat.zero_add, Nat.zero_add] at this
                have := this ef.symm
                omega
      · rw [Nat.zero_add, Nat.zero_add] at ee
        rw [Nat.zero_add]
        by_cases ei : i = c
        · rw [ei, y1]
        · by_cases ej : j = c
          · rw [ee, ej, y1]
          · rw [y2 i ei, y2 j ej] at ee
            rw [y2 i ei]
            have := okb.2 i j hi hj
            rw [Nat.zero_add, Nat.zero_add] at this
            exact this ee
    have lb := bst_ub hq g8 n S y oky
    rw [gn_sum h8 oky, ← e] at lb
    have s := sums b y hb y2
    rw [s] at eb
    omega
/-- the best with PIECE c at f, -1 where that may not be -/
def Vz (wt : Nat → Nat → Nat) (q n c f : Nat) : Int := if f = 8 then ((bst (gnJ wt (skC c)) q n (2 ^ q - 1) / 43046721 : Nat) : Int) else if 0 < wt c f then ((bst (gnJ wt (skC c)) q n ((2 ^ q - 1) ^^^ 2 ^ f) / 43046721 + wt c f : Nat) : Int) else -1
theorem Vz_is (hq : q ≤ 8) (hn : n ≤ 8) (h8 : ∀ p, wt p 8 = 0) (hw : ∀ p f, wt p f ≤ 1000) (hc : c < n) {f : Nat} (hf : f = 8 ∨ (f < q ∧ 0 < wt c f)) : jn (wF wt c f) (nF c f) q n n 0 = - Vz wt q n c f ∧ 0 ≤ Vz wt q n c f := by
  unfold Vz
  by_cases e : f = 8
  · rw [if_pos e]
    have := forced (S := 2 ^ q - 1) hq hn h8 hw hc hf (fun g hg => by
      rw [all_bit, e]
      exact ⟨fun _ => by omega, fun _ => by simpa using hg⟩)
    rw [this, e, h8]
    exact ⟨by rw [Nat.add_zero], by omega⟩
  · rw [if_neg e]
    have h2 : f < q ∧ 0 < wt c f := by
      rcases hf with w | w
      · exact absurd w e
      · exact w
    rw [if_pos h2.2]
    have := forced (S := (2 ^ q - 1) ^^^ 2 ^ f) hq hn h8 hw hc hf (fun g hg => by
      rw [xor_bit, all_bit]
      by_cases eg : g = f
      · rw [if_pos eg]
        simp [hg, eg]
        omega
      · rw [if_neg eg]
        simp [hg, eg])
    exact ⟨this, by omega⟩
theorem certN (hq : q ≤ 8) (hn : n ≤ 8) (h8 : ∀ p, wt p 8 = 0) (hw : ∀ p f, wt p f ≤ 1000) (hc : c < n) :
    ∃ T : Nat, T ≤ 8000 ∧ jn wt (fun _ => true) q n n 0 = - (T : Int) ∧ (∀ f, (f = 8 ∨ f < q) → Vz wt q n c f ≤ T ∧ (jn (wF wt c f) (nF c f) q n n 0 = - (T : Int) ↔ Vz wt q n c f = T)) ∧ ∃ f, (f = 8 ∨ f < q) ∧ Vz wt q n c f = T := by
  obtain ⟨a, o⟩ := opt_ex hq hn h8 hw
  have z : ∀ f, (0 : Nat).testBit f = false := fun f => Nat.zero_testBit f
  have hT := wt_sum hw a n 0
  have w8 : ∀ f p, wF wt c f p 8 = 0 := fun f p => by unfold wF; rw [h8]; split <;> rfl
  have wle : ∀ f p g, wF wt c f p g ≤ 1000 := fun f p g => by
    unfold wF
    have := hw p g
    split <;> omega
  have key : ∀ f, (f = 8 ∨ f < q) → Vz wt q n c f ≤ (sB (fun p => wt p (a p)) 0 n : Nat) ∧ (jn (wF wt c f) (nF c f) q n n 0 = - ((sB (fun p => wt p (a p)) 0 n : Nat) : Int) ↔ Vz wt q n c f = (sB (fun p => wt p (a p)) 0 n : Nat)) := by
    intro f hf
    by_cases g : f = 8 ∨ (f < q ∧ 0 < wt c f)
    · obtain ⟨e, e0⟩ := Vz_is hq hn h8 hw hc g
      refine ⟨?_, by rw [e]; omega⟩
      rcases jn_at (wt := wF wt c f) (nn := nF c f) (n := n) hq (w8 f) (wle f) n 0 (Nat.le_refl _) with w | ⟨b, okb, eb⟩
      · omega
      · rw [Nat.sub_self] at okb eb
        have hsame : ∀ p, p < n → wF wt c f p (b p) = wt p (b p) := fun p hp => by
          unfold wF
          by_cases cc : p = c ∧ b p ≠ f
          · rw [if_pos cc]
            have := (okb.1 p hp).1
            rw [Nat.zero_add] at this
            rcases this with w | w
            · rw [w.1, h8]
            · have := w.2
              unfold wF at this
              rw [if_pos cc] at this
              omega
          · rw [if_neg cc]
        have okb2 : okA (alJ wt (fun _ => true)) q 0 n (fun g => (0 : Nat).testBit g = false) b := by
          refine ⟨fun j hj => ⟨?_, (okb.1 j hj).2⟩, okb.2⟩
          rcases (okb.1 j hj).1 with w | w
          · exact Or.inl ⟨w.1, rfl⟩
          · refine Or.inr ⟨w.1, ?_⟩
            have := w.2
            have hs := hsame (0 + j) (by omega)
            omega
        have ub := jn_ub (nn := fun _ => true) (n := n) hq h8 n 0 b (Nat.le_refl _) (by rw [Nat.sub_self]; exact okb2)
        rw [Nat.sub_self, o.least] at ub
        have es : sB (fun p => wF wt c f p (b p)) 0 n = sB (fun p => wt p (b p)) 0 n := sB_cong n 0 (fun j hj => hsame (0 + j) (by omega))
        rw [es] at eb
        omega
    · have ev : Vz wt q n c f = -1 := by
        unfold Vz
        rw [if_neg (fun z => g (Or.inl z)), if_neg (fun z => g (Or.inr ⟨by
          rcases hf with w | w
          · exact absurd (Or.inl w) g
          · exact w, z⟩))]
      rw [ev]
      refine ⟨by omega, ⟨fun w => ?_, fun w => absurd w (by omega)⟩⟩
      rcases jn_at (wt := wF wt c f) (nn := nF c f) (n := n) hq (w8 f) (wle f) n 0 (Nat.le_refl _) with w | ⟨b, okb, eb⟩
      · omega
      · exfalso
        rw [Nat.sub_self] at okb
        have f8 : f < 8 := by
          rcases hf with w | w
          · exact absurd (Or.inl w) g
          · omega
        have := (okb.1 c hc).1
        rw [Nat.zero_add] at this
        rcases this with w | w
        · have w2 := w.2
          unfold nF at w2
          simp at w2
          omega
        · have w2 := w.2
          unfold wF at w2
          by_cases cc : b c = f
          · rw [if_neg (fun z => z.2 cc), cc] at w2
            exact g (Or.inr ⟨by omega, w2⟩)
          · rw [if_pos ⟨rfl, cc⟩] at w2
            omega
  refine ⟨_, by omega, o.least, key, a c, ?_, ?_⟩
  · have := (o.ok.1 c hc).2
    rw [Nat.zero_add] at this
    exact this.imp id (fun w => w.1)
  · have hac : a c = 8 ∨ a c < q := by
      have := (o.ok.1 c hc).2
      rw [Nat.zero_add] at this
      exact this.imp id (fun w => w.1)
    apply (key (a c) hac).2.mp
    have hsame : ∀ p, p < n → wF wt c (a c) p (a p) = wt p (a p) := fun p hp => by
      unfold wF
      rw [if_neg (fun z => z.2 (by rw [z.1]))]
    have okb : okA (alJ (wF wt c (a c)) (nF c (a c))) q 0 n (fun g => (0 : Nat).testBit g = false) a := by
      refine ⟨fun j hj => ⟨?_, (o.ok.1 j hj).2.imp id (fun w => ⟨w.1, z _⟩)⟩, o.ok.2⟩
      have h0 := (o.ok.1 j hj).1
      rw [Nat.zero_add] at h0 ⊢
      rcases h0 with w | w
      · refine Or.inl ⟨w.1, ?_⟩
        unfold nF
        by_cases ej : j = c
        · subst ej; simp [w.1]
        · simp [ej]
      · refine Or.inr ⟨w.1, ?_⟩
        rw [hsame j hj]; exact w.2
    have ub := jn_ub (nn := nF c (a c)) (n := n) hq (w8 (a c)) n 0 a (Nat.le_refl _) (by rw [Nat.sub_self]; exact okb)
    have es : sB (fun p => wF wt c (a c) p (a p)) 0 n = sB (fun p => wt p (a p)) 0 n := sB_cong n 0 (fun j hj => hsame (0 + j) (by omega))
    rw [Nat.sub_self, es] at ub
    have k := (key (a c) hac).1
    have g : a c = 8 ∨ (a c < q ∧ 0 < wt c (a c)) := by
      have h0 := o.ok.1 c hc
      rw [Nat.zero_add] at h0
      rcases h0.2 with w | w
      · exact Or.inl w
      · refine Or.inr ⟨w.1, ?_⟩
        rcases h0.1 with v | v
        · omega
        · exact v.2
    have e := (Vz_is hq hn h8 hw hc g).1
    omega
/-- how many of f = 8 and f < k have V f = T -/
def cntV (V : Nat → Int) (T : Int) : Nat → Nat
  | 0 => if V 8 = T then 1 else 0
  | k + 1 => cntV V T k + if V k = T then 1 else 0
theorem cntV_0 {V : Nat → Int} {T : Int} : ∀ k, V 8 < T → (∀ j, j < k → V j < T) → cntV V T k = 0
  | 0, h, _ => by rw [cntV, if_neg (by omega)]
  | k + 1, h, hk => by
    have := hk k (by omega)
    rw [cntV, cntV_0 k h (fun j hj => hk j (by omega)), if_neg (by omega)]
end certN
