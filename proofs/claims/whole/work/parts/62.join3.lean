theorem lg_le0 (x y : Int64) : (lg_cmp x y ≤ 0) ↔ x.toInt ≤ y.toInt := by
  have h := lg_gt x y
  rw [fa_lt] at h
  rw [fa_le]
  have z : (0 : Int32).toInt = 0 := by decide
  omega
theorem lg_eq0 (x y : Int64) : (lg_cmp x y = 0) ↔ x.toInt = y.toInt := by
  have h := lg_gt x y
  have h2 := lg_lt x y
  rw [fa_lt] at h h2
  rw [fa_eq]
  have z : (0 : Int32).toInt = 0 := by decide
  omega
theorem fillN {post : (Nat → Int64) → Prop} {arr : Nat → Int64} {N : Nat} (hN : N ≤ 900) (h : ∀ a : Nat → Int64, (∀ j : Nat, j < N → a j = 0) → post a) : P_J7_fill_d0a16 post (0 : Int64) N arr := by
  unfold P_J7_fill_d0a16
  intro X hX
  have key : ∀ m i : Nat, i + m = N → ∀ a : Nat → Int64, (∀ j : Nat, j < i → a j = 0) → X (nI i) (nI N) a := by
    intro m
    induction m with
    | zero =>
      intro i hi a ha
      have e : i = N := by omega
      subst e
      apply hX
      have g : nI i ≤ nI i := (nI_leI (by omega) (by omega)).mpr (by omega)
      simp +decide only [g, within_iff, in_iff, all_eq, bz_0, bz_1, bzT, bzF, nem, bz_or, i64, Int32.reduceToInt, Int64.reduceToInt, and_true, true_and, and_self, not_true_eq_false, not_false_eq_true, false_implies, true_implies, eq_self, implies_true, false_and, and_false, Classical.not_not, Int.reduceLT, Int.reduceLE, Int.reduceEq, reduceIte, reduceCtorEq, and_imp, imp_false, false_or, or_false, true_or, or_true]
      exact h a ha
    | succ m ih =>
      intro i hi a ha
      have ih := ih (i + 1) (by omega)
      apply hX
      have g : ¬ nI N ≤ nI i := fun z => by have := (nI_leI (by omega) (by omega)).mp z; omega
      simp +decide only [g, nIv (i := i) (N := N) (by omega) (by omega), nIc (i := i) (by omega), nI_1 i, within_iff, in_iff, all_eq, bz_0, bz_1, bzT, bzF, nem, bz_or, i64, Int32.reduceToInt, Int64.reduceToInt, and_true, true_and, and_self, not_true_eq_false, not_false_eq_true, false_implies, true_implies, eq_self, implies_true, false_and, and_false, Classical.not_not, Int.reduceLT, Int.reduceLE, Int.reduceEq, reduceIte, reduceCtorEq, and_imp, imp_false, false_or, or_false, true_or, or_true]
      refine ih _ (fun j hj => ?_)
      rw [vuL_at]
      by_cases q : j = i
      · rw [if_pos q]
      · rw [if_neg q]; exact ha j (by omega)
  simp +decide only [within_iff, in_iff, all_eq, bz_0, bz_1, bzT, bzF, nem, bz_or, i64, Int32.reduceToInt, Int64.reduceToInt, and_true, true_and, and_self, not_true_eq_false, not_false_eq_true, false_implies, true_implies, eq_self, implies_true, false_and, and_false, Classical.not_not, Int.reduceLT, Int.reduceLE, Int.reduceEq, reduceIte, reduceCtorEq, and_imp, imp_false, false_or, or_false, true_or, or_true]
  exact key N 0 (by omega) arr (fun j hj => absurd hj (by omega))
theorem bit8 : ∀ S : Nat, S < 256 → ∀ f : Nat, f < 8 → (((nI S >>> (nI f &&& 31)) &&& 1 = (1 : Int32)) ↔ S.testBit f = true) := by decide +kernel
theorem bit8z : ∀ S : Nat, S < 256 → ∀ f : Nat, f < 8 → (((nI S >>> (nI f &&& 31)) &&& 1 = (0 : Int32)) ↔ S.testBit f = false) := by decide +kernel
theorem xor8 : ∀ S : Nat, S < 256 → ∀ f : Nat, f < 8 → (nI S ^^^ ((1 : Int32) <<< (nI f &&& 31)) = nI (S ^^^ 2 ^ f)) := by decide +kernel
theorem or8 : ∀ S : Nat, S < 256 → ∀ f : Nat, f < 8 → (nI S ||| ((1 : Int32) <<< (nI f &&& 31)) = nI (S ||| 2 ^ f)) ∧ S ||| 2 ^ f < 256 := by decide +kernel
theorem xorlt : ∀ S : Nat, S < 256 → ∀ f : Nat, f < 8 → S.testBit f = true → S ^^^ 2 ^ f < S := by decide +kernel
theorem all8 : ∀ q : Nat, q ≤ 8 → ((1 : Int32) <<< (nI q &&& 31)) - 1 = nI (2 ^ q - 1) ∧ 2 ^ q - 1 < 256 := by decide
/-- the weight of a pair: 1000 less what it costs, 0 for no pair -/
def wtJ (sg wt : Nat → Int32) (n q p f : Nat) : Nat := if p < n ∧ f < q ∧ 0 ≤ (prc sg wt p f).toInt ∧ (prc sg wt p f).toInt ≤ 50 then 1000 - (prc sg wt p f).toInt.toNat else 0
theorem wtJ_le (sg wt : Nat → Int32) (n q p f : Nat) : wtJ sg wt n q p f ≤ 1000 := by
  unfold wtJ; split <;> omega
theorem wtJ_8 (sg wt : Nat → Int32) (n : Nat) {q : Nat} (hq : q ≤ 8) (p : Nat) : wtJ sg wt n q p 8 = 0 := by
  unfold wtJ; rw [if_neg (by omega)]
theorem stv_rng {a b acc : Int32} {k : Int32 → Int32} {B : Int} (h0 : 0 ≤ acc.toInt ∧ acc.toInt ≤ 40) (hk : ∀ x : Int32, acc.toInt ≤ x.toInt → x.toInt ≤ acc.toInt + 10 → k x = -9 ∨ 0 ≤ (k x).toInt ∧ (k x).toInt ≤ B) : stv a b acc k = -9 ∨ 0 ≤ (stv a b acc k).toInt ∧ (stv a b acc k).toInt ≤ B := by
  have e10 : (10 : Int32).toInt = 10 := by decide
  have ea : (acc + 10).toInt = acc.toInt + 10 := by rw [fb_addI (by omega) (by omega), e10]
  unfold stv
  by_cases c1 : a = -9
  · rw [if_pos c1]; exact hk _ (by omega) (by omega)
  · rw [if_neg c1]
    by_cases c2 : b = -9
    · rw [if_pos c2]; exact hk _ (by omega) (by omega)
    · rw [if_neg c2]
      by_cases c3 : a = b
      · rw [if_pos c3]; exact hk _ (by omega) (by omega)
      · rw [if_neg c3]; exact Or.inl rfl
theorem prc_rng {sg wt : Nat → Int32} {p f : Nat} (hp : 1 ≤ (wt p).toInt ∧ (wt p).toInt ≤ 2000) (hf : 1 ≤ (wt (8 + f)).toInt ∧ (wt (8 + f)).toInt ≤ 2000) : prc sg wt p f = -9 ∨ 0 ≤ (prc sg wt p f).toInt ∧ (prc sg wt p f).toInt ≤ 50 := by
  have es : (wt p - wt (8 + f)).toInt = (wt p).toInt - (wt (8 + f)).toInt := fb_subI (by omega) (by omega)
  have z : (0 : Int32).toInt = 0 := by decide
  have e20 : (20 : Int32).toInt = 20 := by decide
  have ha : 0 ≤ (absw (wt p - wt (8 + f))).toInt := by
    unfold absw
    by_cases c : 0 ≤ wt p - wt (8 + f)
    · rw [if_pos c]; rw [fa_le, z] at c; exact c
    · rw [if_neg c]
      rw [fa_le, z] at c
      have : (-(wt p - wt (8 + f))).toInt = -(wt p - wt (8 + f)).toInt := fb_negI (by omega)
      omega
  unfold prc
  by_cases c : absw (wt p - wt (8 + f)) ≤ 20
  · rw [if_pos c]
    rw [fa_le, e20] at c
    refine stv_rng ⟨ha, by omega⟩ (fun x h1 h2 => ?_)
    refine stv_rng ⟨by omega, by omega⟩ (fun x2 h3 h4 => ?_)
    refine stv_rng ⟨by omega, by omega⟩ (fun x3 h5 h6 => ?_)
    exact Or.inr ⟨by omega, by omega⟩
  · rw [if_neg c]; exact Or.inl rfl
/-- a price and its weight -/
theorem prc_wt {sg wt : Nat → Int32} {n q p f : Nat} (hp : p < n) (hf : f < q) (h : prc sg wt p f = -9 ∨ 0 ≤ (prc sg wt p f).toInt ∧ (prc sg wt p f).toInt ≤ 50) : (prc sg wt p f = -9 ∧ wtJ sg wt n q p f = 0) ∨ ∃ c : Nat, c ≤ 50 ∧ prc sg wt p f = nI c ∧ ¬ nI c = (-9 : Int32) ∧ wtJ sg wt n q p f = 1000 - c := by
  have e9 : (-9 : Int32).toInt = -9 := by decide
  unfold wtJ
  rcases h with h | h
  · left; refine ⟨h, ?_⟩
    rw [h, if_neg (by omega)]
  · right
    refine ⟨(prc sg wt p f).toInt.toNat, by omega, nI_as h.1, ?_, ?_⟩
    · rw [fa_eq, nI_toInt (by omega)]; omega
    · rw [if_pos ⟨hp, hf, h⟩]
section pairM
variable {sg wt : Nat → Int32} {n q : Nat} {best gain : Nat → Int64}
def ok9 (sg wt : Nat → Int32) (n q : Nat) : Prop := ∀ p f, p < n → f < q → prc sg wt p f = -9 ∨ 0 ≤ (prc sg wt p f).toInt ∧ (prc sg wt p f).toInt ≤ 50
theorem gnJ_le {w : Nat → Nat → Nat} (hw : ∀ p f, w p f ≤ 1000) (sk : Nat → Bool) (p f : Nat) : gnJ w sk p f ≤ 43085000000 := by
  unfold gnJ dgJ
  have h9 : 9 ^ (7 - p) ≤ 9 ^ 7 := Nat.pow_le_pow_right (by decide) (by omega)
  have h2 : (8 - f) * 9 ^ (7 - p) ≤ 8 * 9 ^ 7 := Nat.mul_le_mul (by omega) h9
  have := hw p f
  split <;> omega
theorem bst_le {gn : Nat → Nat → Nat} {B : Nat} (hg : ∀ p f, gn p f ≤ B) (q : Nat) : ∀ h S, bst gn q h S ≤ h * B
  | 0, S => by rw [bst]; omega
  | h + 1, S => by
    have h1 := bst_le hg q h S
    have e : (h + 1) * B = h * B + B := by rw [Nat.add_mul, Nat.one_mul]
    rw [bst]
    rcases mxF_at (bst gn q h S) (fun f => if S.testBit f = true ∧ 0 < gn h f then bst gn q h (S ^^^ 2 ^ f) + gn h f else 0) q with w | ⟨j, hj, w⟩
    · rw [w]; omega
    · rw [w]
      show (if S.testBit j = true ∧ 0 < gn h j then bst gn q h (S ^^^ 2 ^ j) + gn h j else 0) ≤ _
      have h2 := bst_le hg q h (S ^^^ 2 ^ j)
      have h3 := hg h j
      split <;> omega
theorem bst_skip {gn : Nat → Nat → Nat} {q h S : Nat} (hg : ∀ f, f < q → S.testBit f = true → gn h f = 0) : bst gn q (h + 1) S = bst gn q h S := by
  have up : ∀ k, k ≤ q → mxF (bst gn q h S) (fun f => if S.testBit f = true ∧ 0 < gn h f then bst gn q h (S ^^^ 2 ^ f) + gn h f else 0) k = bst gn q h S := by
    intro k
    induction k with
    | zero => intro _; rfl
    | succ k ih =>
      intro hk
      rw [mxF, ih (by omega), if_neg (fun z => by have := hg k (by omega) z.1; omega)]
      omega
  rw [bst]
  exact up q (Nat.le_refl _)
theorem place_at : ∀ p : Nat, p < 8 → tPl p = nI (9 ^ (7 - p)) := by decide
theorem gain_is {p f c : Nat} (hp : p < 8) (hf : f < 8) (hc : c ≤ 50) : ((1000 : Int32) - nI c).toInt64 * (43046721 : Int64) + ((8 : Int32) - nI f).toInt64 * (tPl p).toInt64 = lN ((1000 - c) * 43046721 + (8 - f) * 9 ^ (7 - p)) := by
  have e1 : (1000 : Int32) - nI c = nI (1000 - c) := pk_sub (a := 1000) (by omega)
  have e2 : (8 : Int32) - nI f = nI (8 - f) := pk_sub (a := 8) (by omega)
  have e3 : (43046721 : Int64) = lN 43046721 := rfl
  have h9 : 9 ^ (7 - p) ≤ 9 ^ 7 := Nat.pow_le_pow_right (by decide) (by omega)
  rw [e1, e2, place_at p hp, nI_l (by omega), nI_l (by omega), nI_l (by omega), e3, lN_mul, lN_mul, lN_add]
theorem pairOne_i {post : (Nat → Int64) → (Nat → Int64) → Prop} (hq : q ≤ 8) (hn : n ≤ 8) (h9 : ok9 sg wt n q) (sk : Nat → Bool) {p : Nat} (hp : p < n) (hsk : sk p = false) (hb : ∀ S, S < 2 ^ q → best S = lN (bst (gnJ (wtJ sg wt n q) sk) q p S))
    (h : ∀ b g, (∀ S, S < 2 ^ q → b S = lN (bst (gnJ (wtJ sg wt n q) sk) q (p + 1) S)) → post b g) : P_X6_pairOneMore post (nI p) sg wt (nI q) best gain := by
  have iP : (nI p).toInt = p := nI_toInt (by omega)
  have h256 : 2 ^ q ≤ 256 := by have := (all8 q hq).2; omega
  have hB := bst_le (gnJ_le (wtJ_le sg wt n q) sk) q
  have hG := gnJ_le (wtJ_le sg wt n q) sk
  have hBp : ∀ S, bst (gnJ (wtJ sg wt n q) sk) q p S ≤ 8 * 43085000000 := fun S => Nat.le_trans (hB p S) (Nat.mul_le_mul (by omega) (Nat.le_refl _))
  have hBp1 : ∀ S, bst (gnJ (wtJ sg wt n q) sk) q (p + 1) S ≤ 8 * 43085000000 := fun S => Nat.le_trans (hB (p + 1) S) (Nat.mul_le_mul (by omega) (Nat.le_refl _))
  unfold P_X6_pairOneMore
  intro X2 X74 X81 h2 h74 h81
  have down : ∀ S : Nat, S < 2 ^ q → ∀ b g : Nat → Int64, (∀ f, f < q → g f = lN (gnJ (wtJ sg wt n q) sk p f)) → (∀ T, T < 2 ^ q → b T = lN (bst (gnJ (wtJ sg wt n q) sk) q (if S < T then p + 1 else p) T)) → X74 (nI S) b g := by
    intro S
    induction S with
    | zero =>
      intro hS b g hg hbb
      apply h74
      have c : nI 0 ≤ (0 : Int32) := by decide
      refine ⟨fun _ => h b g (fun T hT => ?_), fun z => absurd c z⟩
      rw [hbb T hT]
      by_cases e : 0 < T
      · rw [if_pos e]
      · have : T = 0 := by omega
        subst this
        rw [if_neg e, bst_skip (fun f _ w => by rw [Nat.zero_testBit] at w; exact absurd w (by decide))]
    | succ S ih =>
      intro hS b g hg hbb
      apply h74
      have c : ¬ nI (S + 1) ≤ (0 : Int32) := nI_nle (by omega) (by omega)
      refine ⟨fun z => absurd z c, fun _ => ?_⟩
      have inner : ∀ k f : Nat, f + k = q → ∀ b : Nat → Int64, (∀ T, T < 2 ^ q → T ≠ S + 1 → b T = lN (bst (gnJ (wtJ sg wt n q) sk) q (if S + 1 < T then p + 1 else p) T)) → b (S + 1) = lN (mxF (bst (gnJ (wtJ sg wt n q) sk) q p (S + 1)) (fun f => if (S + 1).testBit f = true ∧ 0 < gnJ (wtJ sg wt n q) sk p f then bst (gnJ (wtJ sg wt n q) sk) q p ((S + 1) ^^^ 2 ^ f) + gnJ (wtJ sg wt n q) sk p f else 0) f) → X81 (nI (S + 1)) (nI f) b g := by
        intro k
        induction k with
        | zero =>
          intro f hf b hb1 hb2
          have e : f = q := by omega
          subst e
          apply h81
          have c : nI f ≤ nI f := (nI_leI (by omega) (by omega)).mpr (Nat.le_refl _)
          refine ⟨fun _ y ey => ?_, fun z => absurd c z⟩
          have e1 : nI (S + 1) + (-1 : Int32) = nI S := by rw [add_m1]; exact nI_pred S
          rw [ey, e1]
          refine ih (by omega) b g hg (fun T hT => ?_)
          by_cases eT : T = S + 1
          · subst eT
            rw [hb2, if_pos (by omega), bst]
          · rw [hb1 T hT eT]
            by_cases e2 : S + 1 < T
            · rw [if_pos e2, if_pos (by omega)]
            · rw [if_neg e2, if_neg (by omega)]
        | succ k ihk =>
          intro f hf b hb1 hb2
          have ihk := ihk (f + 1) (by omega)
          rw [mxF] at ihk
          have hM : mxF (bst (gnJ (wtJ sg wt n q) sk) q p (S + 1)) (fun f => if (S + 1).testBit f = true ∧ 0 < gnJ (wtJ sg wt n q) sk p f then bst (gnJ (wtJ sg wt n q) sk) q p ((S + 1) ^^^ 2 ^ f) + gnJ (wtJ sg wt n q) sk p f else 0) f ≤ 9 * 43085000000 := by
            rcases mxF_at (bst (gnJ (wtJ sg wt n q) sk) q p (S + 1)) (fun f => if (S + 1).testBit f = true ∧ 0 < gnJ (wtJ sg wt n q) sk p f then bst (gnJ (wtJ sg wt n q) sk) q p ((S + 1) ^^^ 2 ^ f) + gnJ (wtJ sg wt n q) sk p f else 0) f with w | ⟨j, hj, w⟩
            · rw [w]; have := hBp (S + 1); omega
            · rw [w]
              show (if (S + 1).testBit j = true ∧ 0 < gnJ (wtJ sg wt n q) sk p j then bst (gnJ (wtJ sg wt n q) sk) q p ((S + 1) ^^^ 2 ^ j) + gnJ (wtJ sg wt n q) sk p j else 0) ≤ _
              have := hBp ((S + 1) ^^^ 2 ^ j)
              have := hG p j
              split <;> omega
          generalize mxF (bst (gnJ (wtJ sg wt n q) sk) q p (S + 1)) (fun f => if (S + 1).testBit f = true ∧ 0 < gnJ (wtJ sg wt n q) sk p f then bst (gnJ (wtJ sg wt n q) sk) q p ((S + 1) ^^^ 2 ^ f) + gnJ (wtJ sg wt n q) sk p f else 0) f = M at *
          apply h81
          have c : ¬ nI q ≤ nI f := fun z => by have := (nI_leI (by omega) (by omega)).mp z; omega
          refine ⟨fun z => absurd z c, fun _ => ⟨fun z => ?_, fun z y ey => ?_⟩⟩
          · have hbit := (bit8 (S + 1) (by omega) f (by omega)).mp z
            refine ⟨nIv (by omega) (by omega), ?_⟩
            rw [nIc (by omega), hg f (by omega)]
            have hGf := hG p f
            have hl : (lg_cmp (lN (gnJ (wtJ sg wt n q) sk p f)) (0 : Int64) ≤ 0) ↔ gnJ (wtJ sg wt n q) sk p f = 0 := by
              rw [lg_le0, pk_lT (by omega)]
              have : (0 : Int64).toInt = 0 := by decide
              omega
            refine ⟨fun w y ey => ?_, fun w => ?_⟩
            · rw [nI_1] at ey
              subst ey
              have g0 := hl.mp w
              rw [if_neg (fun v => by omega), Nat.max_eq_left (by omega)] at ihk
              exact ihk b hb1 hb2
            · have g0 : 0 < gnJ (wtJ sg wt n q) sk p f := by
                by_cases e0 : gnJ (wtJ sg wt n q) sk p f = 0
                · exact absurd (hl.mpr e0) w
                · omega
              have hlt := xorlt (S + 1) (by omega) f (by omega) hbit
              rw [xor8 (S + 1) (by omega) f (by omega), nIc (i := S + 1) (by omega), nIc (i := (S + 1) ^^^ 2 ^ f) (by omega)]
              refine ⟨nIv (by omega) (by omega), nIv (by omega) (by omega), ?_⟩
              intro y ey b2 eb2 y3 ey3
              rw [nI_1] at ey3
              subst ey3
              rw [if_pos ⟨hbit, g0⟩] at ihk
              have hx := hBp ((S + 1) ^^^ 2 ^ f)
              have eo : b ((S + 1) ^^^ 2 ^ f) = lN (bst (gnJ (wtJ sg wt n q) sk) q p ((S + 1) ^^^ 2 ^ f)) := by
                rw [hb1 _ (by omega) (by omega), if_neg (by omega)]
              have ey2 : y = lN (max M (bst (gnJ (wtJ sg wt n q) sk) q p ((S + 1) ^^^ 2 ^ f) + gnJ (wtJ sg wt n q) sk p f)) := by
                rw [ey, eo, hb2, lN_add]
                by_cases cc : bst (gnJ (wtJ sg wt n q) sk) q p ((S + 1) ^^^ 2 ^ f) + gnJ (wtJ sg wt n q) sk p f < M
                · rw [if_pos (by rw [fa_lt64, pk_lT (by omega), pk_lT (by omega)]; omega), Nat.max_eq_left (by omega)]
                · rw [if_neg (by rw [fa_lt64, pk_lT (by omega), pk_lT (by omega)]; omega), Nat.max_eq_right (by omega)]
              refine ihk b2 (fun T hT eT => ?_) ?_
              · rw [eb2, vuL_at, if_neg eT]; exact hb1 T hT eT
              · rw [eb2, vuL_at, if_pos rfl, ey2]
          · rw [nI_1] at ey
            subst ey
            have nb : ¬ (S + 1).testBit f = true := fun w => z ((bit8 (S + 1) (by omega) f (by omega)).mpr w)
            rw [if_neg (fun v => nb v.1), Nat.max_eq_left (by omega)] at ihk
            exact ihk b hb1 hb2
      refine inner q 0 (by omega) b (fun T hT eT => hbb T hT) ?_
      rw [hbb (S + 1) hS, if_neg (by omega), mxF]
  have first : ∀ k f : Nat, f + k = q → ∀ g : Nat → Int64, (∀ j, j < f → g j = lN (gnJ (wtJ sg wt n q) sk p j)) → X2 (nI f) best g := by
    intro k
    induction k with
    | zero =>
      intro f hf g hg
      have e : f = q := by omega
      subst e
      apply h2
      have c : nI f ≤ nI f := (nI_leI (by omega) (by omega)).mpr (Nat.le_refl _)
      refine ⟨fun _ y ey => ?_, fun z => absurd c z⟩
      have h1 : 0 < 2 ^ f := Nat.pow_pos (by decide)
      rw [ey, (all8 f hq).1]
      refine down (2 ^ f - 1) (by omega) best g hg (fun T hT => ?_)
      rw [if_neg (by omega)]
      exact hb T hT
    | succ k ih =>
      intro f hf g hg
      have ih := ih (f + 1) (by omega)
      have iF : (nI f).toInt = f := nI_toInt (by omega)
      apply h2
      have c : ¬ nI q ≤ nI f := fun z => by have := (nI_leI (by omega) (by omega)).mp z; omega
      refine ⟨fun z => absurd z c, fun _ => ?_⟩
      refine price_i (by omega) (by omega) ?_
      have e1 : (nI p).toInt.toNat = p := by omega
      have e2 : (nI f).toInt.toNat = f := by omega
      rw [e1, e2]
      refine ⟨⟨fun _ => trivial, fun _ => ⟨nIv (by omega) (by omega), trivial⟩⟩, ?_⟩
      intro v ev
      refine ⟨nIv (by omega) (by omega), ?_⟩
      intro g2 eg2 y ey
      rw [nI_1] at ey
      subst ey
      have ev2 : v = lN (gnJ (wtJ sg wt n q) sk p f) := by
        unfold gnJ
        rcases prc_wt (n := n) (q := q) hp (show f < q by omega) (h9 p f hp (by omega)) with ⟨a, b⟩ | ⟨c, hc, a, a2, b⟩
        · rw [ev, if_pos a, b, if_neg (by omega)]; rfl
        · rw [ev, a, if_neg a2, b, if_pos ⟨hsk, by omega⟩, nIc (by omega), gain_is (by omega) (by omega) hc]
          rfl
      refine ih g2 (fun j hj => ?_)
      rw [eg2, nIc (by omega), vuL_at]
      by_cases e : j = f
      · rw [if_pos e, e, ev2]
      · rw [if_neg e]; exact hg j (by omega)
  exact first q 0 (by omega) gain (fun j hj => absurd hj (by omega))
theorem pairAll_i {post : (Nat → Int64) → (Nat → Int64) → Prop} (hq : q ≤ 8) (hn : n ≤ 8) (h9 : ok9 sg wt n q) (sk : Nat → Bool) {p2 : Int32} (hs : ∀ p, p < n → (nI p = p2 ↔ sk p = true)) (h : ∀ b g, (∀ S, S < 2 ^ q → b S = lN (bst (gnJ (wtJ sg wt n q) sk) q n S)) → post b g) : P_X6_pairAllBut post p2 sg wt (nI n) (nI q) best gain := by
  have h256 : 2 ^ q ≤ 256 := by have := (all8 q hq).2; omega
  unfold P_X6_pairAllBut
  intro X hX
  refine fillN (by omega) (fun b hb => ?_)
  have key : ∀ k p : Nat, p + k = n → ∀ b g : Nat → Int64, (∀ S, S < 2 ^ q → b S = lN (bst (gnJ (wtJ sg wt n q) sk) q p S)) → X (nI p) b g := by
    intro k
    induction k with
    | zero =>
      intro p hp b g hb
      have e : p = n := by omega
      subst e
      apply hX
      have c : nI p ≤ nI p := (nI_leI (by omega) (by omega)).mpr (Nat.le_refl _)
      exact ⟨fun _ => h b g hb, fun z => absurd c z⟩
    | succ k ih =>
      intro p hp b g hb
      have ih := ih (p + 1) (by omega)
      apply hX
      have c : ¬ nI n ≤ nI p := fun z => by have := (nI_leI (by omega) (by omega)).mp z; omega
      refine ⟨fun z => absurd z c, fun _ => ⟨fun z y ey => ?_, fun z => ?_⟩⟩
      · rw [nI_1] at ey
        subst ey
        refine ih b g (fun S hS => ?_)
        rw [hb S hS, bst_skip (fun f _ _ => ?_)]
        unfold gnJ
        rw [if_neg (fun w => by rw [(hs p (by omega)).mp z] at w; exact absurd w.1 (by decide))]
      · have hsk : sk p = false := by
          by_cases w : sk p = true
          · exact absurd ((hs p (by omega)).mpr w) z
          · simpa using w
        refine pairOne_i hq hn h9 sk (by omega) hsk hb (fun b2 g2 hb2 => ?_)
        intro y ey
        rw [nI_1] at ey
        subst ey
        exact ih b2 g2 hb2
  refine key n 0 (by omega) b gain (fun S hS => ?_)
  rw [hb S (by omega), bst]
  rfl
end pairM
