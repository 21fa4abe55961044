/-- the reference's table of binomials -/
def RC (m_choose : Nat → Int64) : Prop := ∀ n : Nat, n ≤ 60 → ∀ j : Nat, j ≤ n → m_choose (61 * n + j) = lN (ch n j)
def wyN (N M T j : Nat) : Nat := ch T j * ch (N - T) (M - j)
def dbt (N M X T : Nat) : Prop := 20 * fb_sm (fun j => if j ≤ X then wyN N M T j else 0) (M + 1) < ch N M ∨ 20 * fb_sm (fun j => if X ≤ j then wyN N M T j else 0) (M + 1) < ch N M
theorem wy_sum {N M T : Nat} (h : T ≤ N) : fb_sm (wyN N M T) (M + 1) = ch N M := by
  have := ch_vand T (N - T) M
  have e : T + (N - T) = N := by omega
  rw [e] at this
  exact this
theorem dbt_val {N M X T : Nat} [Decidable (dbt N M X T)] (hN : N ≤ 60) (h : T ≤ N) : (if (lg_cmp ((20 : Int64) * lN (fb_sm (fun j => if j ≤ X then wyN N M T j else 0) (M + 1))) (lN (ch N M))) < (0 : Int32) then (1 : Int32) else (if (0 : Int32) ≤ (lg_cmp ((20 : Int64) * lN (fb_sm (fun j => if X ≤ j then wyN N M T j else 0) (M + 1))) (lN (ch N M))) then (0 : Int32) else (1 : Int32))) = bz (dbt N M X T) := by
  have e20 : (20 : Int64) = lN 20 := rfl
  have bd := ch_le hN M
  have b1 : fb_sm (fun j => if j ≤ X then wyN N M T j else 0) (M + 1) ≤ ch N M := by
    rw [← wy_sum h]; exact fb_sm_le (fun k _ => by split <;> omega)
  have b2 : fb_sm (fun j => if X ≤ j then wyN N M T j else 0) (M + 1) ≤ ch N M := by
    rw [← wy_sum h]; exact fb_sm_le (fun k _ => by split <;> omega)
  have t1 : (lN (20 * fb_sm (fun j => if j ≤ X then wyN N M T j else 0) (M + 1))).toInt = ((20 * fb_sm (fun j => if j ≤ X then wyN N M T j else 0) (M + 1) : Nat) : Int) := pk_lT (by omega)
  have t2 : (lN (20 * fb_sm (fun j => if X ≤ j then wyN N M T j else 0) (M + 1))).toInt = ((20 * fb_sm (fun j => if X ≤ j then wyN N M T j else 0) (M + 1) : Nat) : Int) := pk_lT (by omega)
  have t3 : (lN (ch N M)).toInt = (ch N M : Int) := pk_lT (by omega)
  have n0 : ∀ z : Int32, (0 : Int32) ≤ z ↔ ¬ z < 0 := fun z => by
    rw [fa_le, fa_lt]; have : (0 : Int32).toInt = 0 := by decide
    omega
  rw [e20, lN_mul, lN_mul]
  by_cases q1 : 20 * fb_sm (fun j => if j ≤ X then wyN N M T j else 0) (M + 1) < ch N M
  · rw [if_pos (by rw [lg_lt, t1, t3]; omega), bz_t (show dbt N M X T from Or.inl q1)]
  · rw [if_neg (by rw [lg_lt, t1, t3]; omega)]
    by_cases q2 : 20 * fb_sm (fun j => if X ≤ j then wyN N M T j else 0) (M + 1) < ch N M
    · rw [if_neg (by rw [n0, lg_lt, t2, t3]; omega), bz_t (show dbt N M X T from Or.inr q2)]
    · rw [if_pos (by rw [n0, lg_lt, t2, t3]; omega), bz_f (show ¬ dbt N M X T from fun z => z.elim q1 q2)]
noncomputable def dbtD (N M X T : Nat) : Decidable (dbt N M X T) := Classical.propDecidable _
noncomputable def dbV (N M X T : Nat) : Int32 := @bz (dbt N M X T) (dbtD N M X T)
theorem dbV_0 (N M X T : Nat) : dbV N M X T = 0 ∨ dbV N M X T = 1 := by
  unfold dbV
  by_cases h : dbt N M X T
  · exact Or.inr (@bz_t _ (dbtD N M X T) h)
  · exact Or.inl (@bz_f _ (dbtD N M X T) h)
theorem lN0 : (0 : Int64) = lN 0 := rfl
theorem isDoubtedX_i {post : Int32 → (Nat → Int64) → (Nat → Int64) → Prop} {N M X T : Nat} (hN : N ≤ 60) (hM : M ≤ N) (hX0 : X ≤ M) (hT : T ≤ N) {f g : Nat → Int64} (h : ∀ a b, post (dbV N M X T) a b) : P_X0_isDoubted post (nI N) (nI M) (nI X) (nI T) f g := by
  unfold P_X0_isDoubted
  intro X32 hX
  refine choose_i rfl (by omega) (fun a ha => ?_)
  refine choose_i (t := N - T) (by rw [pk_sub hT]) (by omega) (fun b hb => ?_)
  have key : ∀ m i : Nat, i + m = M + 1 → X32 (lN (fb_sm (wyN N M T) i)) (lN (fb_sm (fun j => if j ≤ X then wyN N M T j else 0) i)) (lN (fb_sm (fun j => if X ≤ j then wyN N M T j else 0) i)) (nI i) a b := by
    intro m
    induction m with
    | zero =>
      intro i hi
      have e : i = M + 1 := by omega
      subst e
      apply hX
      have g1 : nI M < nI (M + 1) := (nI_ltI (by omega) (by omega)).mpr (by omega)
      have ev := @dbt_val N M X T (dbtD N M X T) hN hT
      rw [wy_sum hT]
      simp +decide only [g1, ev, within_iff, in_iff, all_eq, bz_0, bz_1, bzT, bzF, nem, bz_or, i64, Int32.reduceToInt, Int64.reduceToInt, and_true, true_and, and_self, not_true_eq_false, not_false_eq_true, false_implies, true_implies, eq_self, implies_true, false_and, and_false, Classical.not_not, Int.reduceLT, Int.reduceLE, Int.reduceEq, reduceIte, reduceCtorEq, and_imp, imp_false, false_or, or_false, true_or, or_true]
      exact h a b
    | succ m ih =>
      intro i hi
      have ih := ih (i + 1) (by omega)
      have g1 : ¬ nI M < nI i := fun z => by have := (nI_ltI (by omega) (by omega)).mp z; omega
      have es : nI M - nI i = nI (M - i) := pk_sub (by omega)
      have c1 : nI X < nI i ↔ X < i := nI_ltI (by omega) (by omega)
      have c2 : nI i < nI X ↔ i < X := nI_ltI (by omega) (by omega)
      apply hX
      simp +decide only [g1, es, nIv (i := i) (N := 61) (by omega) (by omega), nIv (i := M - i) (N := 61) (by omega) (by omega), nIc (i := i) (by omega), nIc (i := M - i) (by omega), nI_1 i, ha i (by omega), hb (M - i) (by omega), lN_mul, c1, c2, within_iff, in_iff, all_eq, bz_0, bz_1, bzT, bzF, nem, bz_or, i64, Int32.reduceToInt, Int64.reduceToInt, and_true, true_and, and_self, not_true_eq_false, not_false_eq_true, false_implies, true_implies, eq_self, implies_true, false_and, and_false, Classical.not_not, Int.reduceLT, Int.reduceLE, Int.reduceEq, reduceIte, reduceCtorEq, and_imp, imp_false, false_or, or_false, true_or, or_true]
      have e1 : lN (fb_sm (wyN N M T) i) + lN (ch T i * ch (N - T) (M - i)) = lN (fb_sm (wyN N M T) (i + 1)) := by rw [lN_add]; rfl
      have e2 : lN (fb_sm (fun j => if j ≤ X then wyN N M T j else 0) i) + (if X < i then (0 : Int64) else lN (ch T i * ch (N - T) (M - i))) = lN (fb_sm (fun j => if j ≤ X then wyN N M T j else 0) (i + 1)) := by
        rw [fb_sm_succ]
        by_cases q : X < i
        · rw [if_pos q, if_neg (by omega), lN0, lN_add]
        · rw [if_neg q, if_pos (by omega), lN_add]; rfl
      have e3 : lN (fb_sm (fun j => if X ≤ j then wyN N M T j else 0) i) + (if i < X then (0 : Int64) else lN (ch T i * ch (N - T) (M - i))) = lN (fb_sm (fun j => if X ≤ j then wyN N M T j else 0) (i + 1)) := by
        rw [fb_sm_succ]
        by_cases q : i < X
        · rw [if_pos q, if_neg (by omega), lN0, lN_add]
        · rw [if_neg q, if_pos (by omega), lN_add]; rfl
      rw [e1, e2, e3]
      exact ih
  exact key (M + 1) 0 (by omega)
theorem nI61 {a b : Nat} (ha : a ≤ 60) (hb : b ≤ 60) : (61 : Int32) * nI a + nI b = nI (61 * a + b) := by
  have e : (61 : Int32) = nI 61 := rfl
  rw [e, pk_mul, nI_add]
theorem waysOf_i {post : Int64 → Prop} {mc : Nat → Int64} (hc : RC mc) {N M j T : Nat} (hN : N ≤ 60) (hM : M ≤ N) (hj : j ≤ M) (hT : T ≤ N) (h : post (lN (wyN N M T j))) : P_X11_waysOf post (nI N) (nI M) (nI j) (nI T) mc := by
  have c1 : nI T < nI j ↔ T < j := nI_ltI (by omega) (by omega)
  have e1 : nI M - nI j = nI (M - j) := pk_sub hj
  have e2 : nI N - nI T = nI (N - T) := pk_sub hT
  have c2 : nI (M - j) ≤ nI (N - T) ↔ M - j ≤ N - T := nI_leI (by omega) (by omega)
  have e3 : (61 : Int32) * nI (N - T) + nI M - nI j = nI (61 * (N - T) + M - j) := by rw [nI61 (by omega) (by omega), pk_sub (by omega)]
  have v1 : ¬ T < j → vp_in (nI (61 * T + j)) 3721 := fun _ => vp_in_nI (by omega) (by omega)
  unfold wyN at h
  by_cases q1 : T < j
  · simp +decide only [P_X11_waysOf, c1, q1, within_iff, in_iff, all_eq, bz_0, bz_1, bzT, bzF, nem, bz_or, i64, Int32.reduceToInt, Int64.reduceToInt, and_true, true_and, and_self, not_true_eq_false, not_false_eq_true, false_implies, true_implies, eq_self, implies_true, false_and, and_false, Classical.not_not, Int.reduceLT, Int.reduceLE, Int.reduceEq, reduceIte, reduceCtorEq, and_imp, imp_false, false_or, or_false, true_or, or_true]
    rw [ch_big T j q1, Nat.zero_mul] at h
    exact h
  · by_cases q2 : M - j ≤ N - T
    · have v2 : vp_in (nI (61 * (N - T) + M - j)) 3721 := vp_in_nI (by omega) (by omega)
      have n1 : (nI (61 * T + j)).toNatClampNeg = 61 * T + j := nI_clamp (by omega)
      have n2 : (nI (61 * (N - T) + M - j)).toNatClampNeg = 61 * (N - T) + (M - j) := by rw [nI_clamp (by omega)]; omega
      simp +decide only [P_X11_waysOf, c1, q1, e1, e2, c2, q2, e3, nI61 (a := T) (b := j) (by omega) (by omega), v1 q1, v2, n1, n2, hc T (by omega) j (by omega), hc (N - T) (by omega) (M - j) q2, lN_mul, within_iff, in_iff, all_eq, bz_0, bz_1, bzT, bzF, nem, bz_or, i64, Int32.reduceToInt, Int64.reduceToInt, and_true, true_and, and_self, not_true_eq_false, not_false_eq_true, false_implies, true_implies, eq_self, implies_true, false_and, and_false, Classical.not_not, Int.reduceLT, Int.reduceLE, Int.reduceEq, reduceIte, reduceCtorEq, and_imp, imp_false, false_or, or_false, true_or, or_true]
      exact h
    · simp +decide only [P_X11_waysOf, c1, q1, e1, e2, c2, q2, within_iff, in_iff, all_eq, bz_0, bz_1, bzT, bzF, nem, bz_or, i64, Int32.reduceToInt, Int64.reduceToInt, and_true, true_and, and_self, not_true_eq_false, not_false_eq_true, false_implies, true_implies, eq_self, implies_true, false_and, and_false, Classical.not_not, Int.reduceLT, Int.reduceLE, Int.reduceEq, reduceIte, reduceCtorEq, and_imp, imp_false, false_or, or_false, true_or, or_true]
      rw [ch_big (N - T) (M - j) (by omega), Nat.mul_zero] at h
      exact h
theorem isDoubted_i {post : Int32 → Prop} {mc : Nat → Int64} (hc : RC mc) {N M X T : Nat} (hN : N ≤ 60) (hM : M ≤ N) (hX0 : X ≤ M) (hT : T ≤ N) (h : post (dbV N M X T)) : P_X11_isDoubted post (nI N) (nI M) (nI X) (nI T) mc := by
  unfold P_X11_isDoubted
  intro X9 X37 h9 h37
  have key : ∀ m i : Nat, i + m = M + 1 → X9 (lN (fb_sm (fun j => if j ≤ X then wyN N M T j else 0) i)) (lN (fb_sm (fun j => if X ≤ j then wyN N M T j else 0) i)) (nI i) := by
    intro m
    induction m with
    | zero =>
      intro i hi
      have e : i = M + 1 := by omega
      subst e
      apply h9
      have g1 : nI M < nI (M + 1) := (nI_ltI (by omega) (by omega)).mpr (by omega)
      have ev := @dbt_val N M X T (dbtD N M X T) hN hT
      have v : vp_in (nI (61 * N + M)) 3721 := vp_in_nI (by omega) (by omega)
      simp +decide only [g1, nI61 (a := N) (b := M) (by omega) (by omega), v, nI_clamp (n := 61 * N + M) (by omega), hc N hN M hM, ev, within_iff, in_iff, all_eq, bz_0, bz_1, bzT, bzF, nem, bz_or, i64, Int32.reduceToInt, Int64.reduceToInt, and_true, true_and, and_self, not_true_eq_false, not_false_eq_true, false_implies, true_implies, eq_self, implies_true, false_and, and_false, Classical.not_not, Int.reduceLT, Int.reduceLE, Int.reduceEq, reduceIte, reduceCtorEq, and_imp, imp_false, false_or, or_false, true_or, or_true]
      exact h
    | succ m ih =>
      intro i hi
      have ih := ih (i + 1) (by omega)
      have g1 : ¬ nI M < nI i := fun z => by have := (nI_ltI (by omega) (by omega)).mp z; omega
      have c1 : nI X < nI i ↔ X < i := nI_ltI (by omega) (by omega)
      have c2 : nI i < nI X ↔ i < X := nI_ltI (by omega) (by omega)
      have mid : ∀ s0 : Int64, lN (fb_sm (fun j => if j ≤ X then wyN N M T j else 0) i) + s0 = lN (fb_sm (fun j => if j ≤ X then wyN N M T j else 0) (i + 1)) → X37 (lN (fb_sm (fun j => if X ≤ j then wyN N M T j else 0) i)) (nI i) s0 (lN (fb_sm (fun j => if j ≤ X then wyN N M T j else 0) i)) := by
        intro s0 hs
        apply h37
        by_cases q : i < X
        · have e3 : lN (fb_sm (fun j => if X ≤ j then wyN N M T j else 0) i) + (0 : Int64) = lN (fb_sm (fun j => if X ≤ j then wyN N M T j else 0) (i + 1)) := by rw [fb_sm_succ, if_neg (by omega), lN0, lN_add]
          simp +decide only [hs, c2, q, e3, nI_1 i, within_iff, in_iff, all_eq, bz_0, bz_1, bzT, bzF, nem, bz_or, i64, Int32.reduceToInt, Int64.reduceToInt, and_true, true_and, and_self, not_true_eq_false, not_false_eq_true, false_implies, true_implies, eq_self, implies_true, false_and, and_false, Classical.not_not, Int.reduceLT, Int.reduceLE, Int.reduceEq, reduceIte, reduceCtorEq, and_imp, imp_false, false_or, or_false, true_or, or_true]
          exact ih
        · have e3 : lN (fb_sm (fun j => if X ≤ j then wyN N M T j else 0) i) + lN (wyN N M T i) = lN (fb_sm (fun j => if X ≤ j then wyN N M T j else 0) (i + 1)) := by rw [fb_sm_succ, if_pos (by omega), lN_add]
          simp +decide only [hs, c2, q, within_iff, in_iff, all_eq, bz_0, bz_1, bzT, bzF, nem, bz_or, i64, Int32.reduceToInt, Int64.reduceToInt, and_true, true_and, and_self, not_true_eq_false, not_false_eq_true, false_implies, true_implies, eq_self, implies_true, false_and, and_false, Classical.not_not, Int.reduceLT, Int.reduceLE, Int.reduceEq, reduceIte, reduceCtorEq, and_imp, imp_false, false_or, or_false, true_or, or_true]
          refine waysOf_i hc hN hM (by omega) hT ?_
          simp +decide only [e3, nI_1 i, within_iff, in_iff, all_eq, bz_0, bz_1, bzT, bzF, nem, bz_or, i64, Int32.reduceToInt, Int64.reduceToInt, and_true, true_and, and_self, not_true_eq_false, not_false_eq_true, false_implies, true_implies, eq_self, implies_true, false_and, and_false, Classical.not_not, Int.reduceLT, Int.reduceLE, Int.reduceEq, reduceIte, reduceCtorEq, and_imp, imp_false, false_or, or_false, true_or, or_true]
          exact ih
      apply h9
      by_cases q : X < i
      · simp +decide only [g1, c1, q, within_iff, in_iff, all_eq, bz_0, bz_1, bzT, bzF, nem, bz_or, i64, Int32.reduceToInt, Int64.reduceToInt, and_true, true_and, and_self, not_true_eq_false, not_false_eq_true, false_implies, true_implies, eq_self, implies_true, false_and, and_false, Classical.not_not, Int.reduceLT, Int.reduceLE, Int.reduceEq, reduceIte, reduceCtorEq, and_imp, imp_false, false_or, or_false, true_or, or_true]
        exact mid 0 (by rw [fb_sm_succ, if_neg (by omega), lN0, lN_add])
      · simp +decide only [g1, c1, q, within_iff, in_iff, all_eq, bz_0, bz_1, bzT, bzF, nem, bz_or, i64, Int32.reduceToInt, Int64.reduceToInt, and_true, true_and, and_self, not_true_eq_false, not_false_eq_true, false_implies, true_implies, eq_self, implies_true, false_and, and_false, Classical.not_not, Int.reduceLT, Int.reduceLE, Int.reduceEq, reduceIte, reduceCtorEq, and_imp, imp_false, false_or, or_false, true_or, or_true]
        refine waysOf_i hc hN hM (by omega) hT (mid _ ?_)
        rw [fb_sm_succ, if_pos (by omega), lN_add]
  exact key (M + 1) 0 (by omega)
