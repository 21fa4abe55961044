/-- MARKS alike -/
def RM (mk_sign mk_weight : Nat → Int32) (mk_pieces mk_finds : Int32) (m_marked m_signs m_weights : Nat → Int32) : Prop :=
  (m_signs = mk_sign ∧ m_weights = mk_weight ∧ m_marked 0 = mk_pieces ∧ m_marked 1 = mk_finds) ∧ (0 ≤ mk_pieces.toInt ∧ mk_pieces.toInt ≤ 8) ∧ (0 ≤ mk_finds.toInt ∧ mk_finds.toInt ≤ 8) ∧
  (∀ j : Nat, (j : Int) < mk_pieces.toInt → 1 ≤ (mk_weight j).toInt ∧ (mk_weight j).toInt ≤ 2000) ∧ (∀ j : Nat, (j : Int) < mk_finds.toInt → 1 ≤ (mk_weight (8 + j)).toInt ∧ (mk_weight (8 + j)).toInt ≤ 2000)
theorem c0 : (0 : Int32).toNatClampNeg = 0 := by decide
theorem c1 : (1 : Int32).toNatClampNeg = 1 := by decide
theorem v02 : vp_in 0 2 := vp_in_iff.mpr (by decide)
theorem v12 : vp_in 1 2 := vp_in_iff.mpr (by decide)
theorem eq_clear {C : Int32 → Int32 → (Nat → Int32) → Prop} {mk_sign mk_weight : Nat → Int32} {mk_pieces mk_finds : Int32} {m_marked m_signs m_weights : Nat → Int32} (hR : RM mk_sign mk_weight mk_pieces mk_finds m_marked m_signs m_weights) (hC : ∀ a b c, RM mk_sign mk_weight a b c m_signs m_weights → C a b c) :
    P_X10_clear (fun r a b => P_X11_clear (fun r2 c => ((r = r2 → C a b c) ∧ (¬ r = r2 → False))) m_marked) mk_pieces mk_finds := by
  obtain ⟨⟨rfl, rfl, rfl, rfl⟩, z0, z1, hp, hf⟩ := hR
  simp +decide only [P_X10_clear, P_X5_takeAway, P_X11_clear, v02, v12, c0, c1, within_iff, in_iff, all_eq, bz_0, bz_1, bzT, bzF, nem, bz_or, i64, Int32.reduceToInt, Int64.reduceToInt, and_true, true_and, and_self, not_true_eq_false, not_false_eq_true, false_implies, true_implies, eq_self, implies_true, false_and, and_false, Classical.not_not, Int.reduceLT, Int.reduceLE, Int.reduceEq, reduceIte, reduceCtorEq, and_imp, imp_false, false_or, or_false, true_or, or_true]
  refine hC _ _ _ ⟨⟨rfl, rfl, rfl, rfl⟩, by decide, by decide, fun j hj => ?_, fun j hj => ?_⟩
  · have : (0 : Int32).toInt = 0 := by decide
    omega
  · have : (0 : Int32).toInt = 0 := by decide
    omega
theorem signX_iff (post : Int32 → Prop) (x : Int32) : P_X10_isSign post x ↔ post (bz (x = -9 ∨ (0 ≤ x.toInt ∧ x.toInt ≤ 9))) := by
  by_cases h1 : x = -9
  · simp +decide only [P_X10_isSign, h1, within_iff, in_iff, all_eq, bz_0, bz_1, bzT, bzF, nem, bz_or, i64, Int32.reduceToInt, Int64.reduceToInt, and_true, true_and, and_self, not_true_eq_false, not_false_eq_true, false_implies, true_implies, eq_self, implies_true, false_and, and_false, Classical.not_not, Int.reduceLT, Int.reduceLE, Int.reduceEq, reduceIte, reduceCtorEq, and_imp, imp_false, false_or, or_false, true_or, or_true]
  · by_cases h2 : 0 ≤ x.toInt ∧ x.toInt ≤ 9
    · simp +decide only [P_X10_isSign, h1, h2, within_iff, in_iff, all_eq, bz_0, bz_1, bzT, bzF, nem, bz_or, i64, Int32.reduceToInt, Int64.reduceToInt, and_true, true_and, and_self, not_true_eq_false, not_false_eq_true, false_implies, true_implies, eq_self, implies_true, false_and, and_false, Classical.not_not, Int.reduceLT, Int.reduceLE, Int.reduceEq, reduceIte, reduceCtorEq, and_imp, imp_false, false_or, or_false, true_or, or_true]
    · simp +decide only [P_X10_isSign, h1, h2, within_iff, in_iff, all_eq, bz_0, bz_1, bzT, bzF, nem, bz_or, i64, Int32.reduceToInt, Int64.reduceToInt, and_true, true_and, and_self, not_true_eq_false, not_false_eq_true, false_implies, true_implies, eq_self, implies_true, false_and, and_false, Classical.not_not, Int.reduceLT, Int.reduceLE, Int.reduceEq, reduceIte, reduceCtorEq, and_imp, imp_false, false_or, or_false, true_or, or_true]
theorem sign_iff (post : Int32 → Prop) (x : Int32) : P_X11_isSign post x ↔ post (bz (x = -9 ∨ (0 ≤ x.toInt ∧ x.toInt ≤ 9))) := by
  by_cases h1 : x = -9
  · simp +decide only [P_X11_isSign, h1, within_iff, in_iff, all_eq, bz_0, bz_1, bzT, bzF, nem, bz_or, i64, Int32.reduceToInt, Int64.reduceToInt, and_true, true_and, and_self, not_true_eq_false, not_false_eq_true, false_implies, true_implies, eq_self, implies_true, false_and, and_false, Classical.not_not, Int.reduceLT, Int.reduceLE, Int.reduceEq, reduceIte, reduceCtorEq, and_imp, imp_false, false_or, or_false, true_or, or_true]
  · by_cases h2 : 0 ≤ x.toInt ∧ x.toInt ≤ 9
    · simp +decide only [P_X11_isSign, h1, h2, within_iff, in_iff, all_eq, bz_0, bz_1, bzT, bzF, nem, bz_or, i64, Int32.reduceToInt, Int64.reduceToInt, and_true, true_and, and_self, not_true_eq_false, not_false_eq_true, false_implies, true_implies, eq_self, implies_true, false_and, and_false, Classical.not_not, Int.reduceLT, Int.reduceLE, Int.reduceEq, reduceIte, reduceCtorEq, and_imp, imp_false, false_or, or_false, true_or, or_true]
    · simp +decide only [P_X11_isSign, h1, h2, within_iff, in_iff, all_eq, bz_0, bz_1, bzT, bzF, nem, bz_or, i64, Int32.reduceToInt, Int64.reduceToInt, and_true, true_and, and_self, not_true_eq_false, not_false_eq_true, false_implies, true_implies, eq_self, implies_true, false_and, and_false, Classical.not_not, Int.reduceLT, Int.reduceLE, Int.reduceEq, reduceIte, reduceCtorEq, and_imp, imp_false, false_or, or_false, true_or, or_true]
theorem row_no {v : Int32} (h : 0 ≤ v.toInt ∧ v.toInt ≤ 15) : (v * 3).toInt = v.toInt * 3 ∧ (v * 3 + 1).toInt = v.toInt * 3 + 1 ∧ (v * 3 + 2).toInt = v.toInt * 3 + 2 ∧ v * 3 = 3 * v := by
  have e3 : (3 : Int32).toInt = 3 := by decide
  have e1 : (1 : Int32).toInt = 1 := by decide
  have e2 : (2 : Int32).toInt = 2 := by decide
  have a1 : (v * 3).toInt = v.toInt * 3 := by rw [mul_c (by omega) (by omega) (by decide) (by decide), e3]
  exact ⟨a1, by rw [fb_addI (by omega) (by omega), a1, e1], by rw [fb_addI (by omega) (by omega), a1, e2], Int32.mul_comm _ _⟩
theorem eq_mark {C : (Nat → Int32) → (Nat → Int32) → Int32 → Int32 → (Nat → Int32) → (Nat → Int32) → (Nat → Int32) → Prop} {mk_sign mk_weight : Nat → Int32} {mk_pieces mk_finds : Int32} {m_marked m_signs m_weights : Nat → Int32} (hR : RM mk_sign mk_weight mk_pieces mk_finds m_marked m_signs m_weights) (hC : ∀ a b c d e f g, RM a b c d e f g → C a b c d e f g) (p1 p2 p3 p4 p5 : Int32) :
    P_X10_mark (fun r a b c d => P_X11_mark (fun r2 e f g => ((r = r2 → C a b c d e f g) ∧ (¬ r = r2 → False))) p1 p2 p3 p4 p5 m_marked m_signs m_weights) p1 p2 p3 p4 p5 mk_sign mk_weight mk_pieces mk_finds := by
  have hR0 := hR
  obtain ⟨⟨rfl, rfl, rfl, rfl⟩, z0, z1, hp, hf⟩ := hR
  by_cases h1 : p2 = -9 ∨ (0 ≤ p2.toInt ∧ p2.toInt ≤ 9)
  · by_cases h2 : p3 = -9 ∨ (0 ≤ p3.toInt ∧ p3.toInt ≤ 9)
    · by_cases h3 : p4 = -9 ∨ (0 ≤ p4.toInt ∧ p4.toInt ≤ 9)
      · by_cases h4 : 1 ≤ p5.toInt ∧ p5.toInt ≤ 2000
        · by_cases h5 : p1 = 0
          · have e6 : m_marked 0 = 8 ↔ (m_marked 0).toInt = 8 := fa_eq _ _
            have l6 : m_marked 0 < 8 ↔ (m_marked 0).toInt < 8 := fa_lt _ _
            by_cases h6 : (m_marked 0).toInt = 8
            · have h7 : ¬ (m_marked 0).toInt < 8 := by omega
              simp +decide only [P_X10_mark, P_X11_mark, signX_iff, sign_iff, h1, h2, h3, h4, h5, v02, v12, c0, c1, e6, l6, h6, h7, within_iff, in_iff, all_eq, bz_0, bz_1, bzT, bzF, nem, bz_or, i64, Int32.reduceToInt, Int64.reduceToInt, and_true, true_and, and_self, not_true_eq_false, not_false_eq_true, false_implies, true_implies, eq_self, implies_true, false_and, and_false, Classical.not_not, Int.reduceLT, Int.reduceLE, Int.reduceEq, reduceIte, reduceCtorEq, and_imp, imp_false, false_or, or_false, true_or, or_true]
              exact hC _ _ _ _ _ _ _ hR0
            · have h7 : (m_marked 0).toInt < 8 := by omega
              obtain ⟨r1, r2, r3, r4⟩ := row_no (v := m_marked 0) (by omega)
              have e80 : (8 : Int32) * 0 + m_marked 0 = m_marked 0 := by rw [Int32.mul_zero, Int32.zero_add]
              have ea : (m_marked 0 + 1).toInt = (m_marked 0).toInt + 1 := add1 (by omega)
              have i1 : vp_in (3 * m_marked 0) 48 := by rw [← r4]; exact vp_in_iff.mpr (by omega)
              have i2 : vp_in (3 * m_marked 0 + 1) 48 := by rw [← r4]; exact vp_in_iff.mpr (by omega)
              have i3 : vp_in (3 * m_marked 0 + 2) 48 := by rw [← r4]; exact vp_in_iff.mpr (by omega)
              have i4 : vp_in (m_marked 0) 16 := vp_in_iff.mpr (by omega)
              simp +decide only [P_X10_mark, signX_iff, h1, h2, h3, h4, h5, l6, h7, within_iff, in_iff, all_eq, bz_0, bz_1, bzT, bzF, nem, bz_or, i64, Int32.reduceToInt, Int64.reduceToInt, and_true, true_and, and_self, not_true_eq_false, not_false_eq_true, false_implies, true_implies, eq_self, implies_true, false_and, and_false, Classical.not_not, Int.reduceLT, Int.reduceLE, Int.reduceEq, reduceIte, reduceCtorEq, and_imp, imp_false, false_or, or_false, true_or, or_true]
              unfold P_X5_add
              intro X29 hX
              simp +decide only [within_iff, in_iff, all_eq, bz_0, bz_1, bzT, bzF, nem, bz_or, i64, Int32.reduceToInt, Int64.reduceToInt, and_true, true_and, and_self, not_true_eq_false, not_false_eq_true, false_implies, true_implies, eq_self, implies_true, false_and, and_false, Classical.not_not, Int.reduceLT, Int.reduceLE, Int.reduceEq, reduceIte, reduceCtorEq, and_imp, imp_false, false_or, or_false, true_or, or_true]
              apply hX
              simp +decide only [r4, i1, i2, i3, i4, P_X11_mark, sign_iff, h1, h2, h3, h4, v02, c0, e6, h6, e80, within_iff, in_iff, all_eq, bz_0, bz_1, bzT, bzF, nem, bz_or, i64, Int32.reduceToInt, Int64.reduceToInt, and_true, true_and, and_self, not_true_eq_false, not_false_eq_true, false_implies, true_implies, eq_self, implies_true, false_and, and_false, Classical.not_not, Int.reduceLT, Int.reduceLE, Int.reduceEq, reduceIte, reduceCtorEq, and_imp, imp_false, false_or, or_false, true_or, or_true]
              have eu : (upd m_marked 0 (m_marked 0 + 1)) 0 = m_marked 0 + 1 := rfl
              simp +decide only [eu, add1_sub1, within_iff, in_iff, all_eq, bz_0, bz_1, bzT, bzF, nem, bz_or, i64, Int32.reduceToInt, Int64.reduceToInt, and_true, true_and, and_self, not_true_eq_false, not_false_eq_true, false_implies, true_implies, eq_self, implies_true, false_and, and_false, Classical.not_not, Int.reduceLT, Int.reduceLE, Int.reduceEq, reduceIte, reduceCtorEq, and_imp, imp_false, false_or, or_false, true_or, or_true]
              refine hC _ _ _ _ _ _ _ ⟨⟨rfl, rfl, rfl, rfl⟩, by omega, z1, fun j hj => ?_, fun j hj => ?_⟩
              · rw [upd_at, cl]; split
                · exact h4
                · exact hp j (by omega)
              · rw [upd_at, cl, if_neg (by omega)]; exact hf j hj
          · have e6 : m_marked 1 = 8 ↔ (m_marked 1).toInt = 8 := fa_eq _ _
            have l6 : m_marked 1 < 8 ↔ (m_marked 1).toInt < 8 := fa_lt _ _
            by_cases h6 : (m_marked 1).toInt = 8
            · have h7 : ¬ (m_marked 1).toInt < 8 := by omega
              simp +decide only [P_X10_mark, P_X11_mark, signX_iff, sign_iff, h1, h2, h3, h4, h5, v02, v12, c0, c1, e6, l6, h6, h7, within_iff, in_iff, all_eq, bz_0, bz_1, bzT, bzF, nem, bz_or, i64, Int32.reduceToInt, Int64.reduceToInt, and_true, true_and, and_self, not_true_eq_false, not_false_eq_true, false_implies, true_implies, eq_self, implies_true, false_and, and_false, Classical.not_not, Int.reduceLT, Int.reduceLE, Int.reduceEq, reduceIte, reduceCtorEq, and_imp, imp_false, false_or, or_false, true_or, or_true]
              exact hC _ _ _ _ _ _ _ hR0
            · have h7 : (m_marked 1).toInt < 8 := by omega
              have e8 : (8 : Int32).toInt = 8 := by decide
              have e8m : (8 + m_marked 1).toInt = 8 + (m_marked 1).toInt := by rw [fb_addI (by omega) (by omega), e8]
              obtain ⟨r1, r2, r3, r4⟩ := row_no (v := 8 + m_marked 1) (by omega)
              have e80 : (8 : Int32) * 1 + m_marked 1 = 8 + m_marked 1 := by rw [Int32.mul_one]
              have ea : (m_marked 1 + 1).toInt = (m_marked 1).toInt + 1 := add1 (by omega)
              have i1 : vp_in (3 * (8 + m_marked 1)) 48 := by rw [← r4]; exact vp_in_iff.mpr (by omega)
              have i2 : vp_in (3 * (8 + m_marked 1) + 1) 48 := by rw [← r4]; exact vp_in_iff.mpr (by omega)
              have i3 : vp_in (3 * (8 + m_marked 1) + 2) 48 := by rw [← r4]; exact vp_in_iff.mpr (by omega)
              have i4 : vp_in (8 + m_marked 1) 16 := vp_in_iff.mpr (by omega)
              simp +decide only [P_X10_mark, signX_iff, h1, h2, h3, h4, h5, l6, h7, within_iff, in_iff, all_eq, bz_0, bz_1, bzT, bzF, nem, bz_or, i64, Int32.reduceToInt, Int64.reduceToInt, and_true, true_and, and_self, not_true_eq_false, not_false_eq_true, false_implies, true_implies, eq_self, implies_true, false_and, and_false, Classical.not_not, Int.reduceLT, Int.reduceLE, Int.reduceEq, reduceIte, reduceCtorEq, and_imp, imp_false, false_or, or_false, true_or, or_true]
              unfold P_X5_add
              intro X29 hX
              simp +decide only [h5, within_iff, in_iff, all_eq, bz_0, bz_1, bzT, bzF, nem, bz_or, i64, Int32.reduceToInt, Int64.reduceToInt, and_true, true_and, and_self, not_true_eq_false, not_false_eq_true, false_implies, true_implies, eq_self, implies_true, false_and, and_false, Classical.not_not, Int.reduceLT, Int.reduceLE, Int.reduceEq, reduceIte, reduceCtorEq, and_imp, imp_false, false_or, or_false, true_or, or_true]
              apply hX
              simp +decide only [h5, r4, i1, i2, i3, i4, P_X11_mark, sign_iff, h1, h2, h3, h4, v12, c1, e6, h6, e80, within_iff, in_iff, all_eq, bz_0, bz_1, bzT, bzF, nem, bz_or, i64, Int32.reduceToInt, Int64.reduceToInt, and_true, true_and, and_self, not_true_eq_false, not_false_eq_true, false_implies, true_implies, eq_self, implies_true, false_and, and_false, Classical.not_not, Int.reduceLT, Int.reduceLE, Int.reduceEq, reduceIte, reduceCtorEq, and_imp, imp_false, false_or, or_false, true_or, or_true]
              have eu : (upd m_marked 1 (m_marked 1 + 1)) 1 = m_marked 1 + 1 := rfl
              simp +decide only [eu, add1_sub1, within_iff, in_iff, all_eq, bz_0, bz_1, bzT, bzF, nem, bz_or, i64, Int32.reduceToInt, Int64.reduceToInt, and_true, true_and, and_self, not_true_eq_false, not_false_eq_true, false_implies, true_implies, eq_self, implies_true, false_and, and_false, Classical.not_not, Int.reduceLT, Int.reduceLE, Int.reduceEq, reduceIte, reduceCtorEq, and_imp, imp_false, false_or, or_false, true_or, or_true]
              refine hC _ _ _ _ _ _ _ ⟨⟨rfl, rfl, rfl, rfl⟩, z0, by omega, fun j hj => ?_, fun j hj => ?_⟩
              · rw [upd_at, cl, if_neg (by omega)]; exact hp j hj
              · rw [upd_at, cl]; split
                · exact h4
                · exact hf j (by omega)
        · simp +decide only [P_X10_mark, P_X11_mark, signX_iff, sign_iff, h1, h2, h3, h4, within_iff, in_iff, all_eq, bz_0, bz_1, bzT, bzF, nem, bz_or, i64, Int32.reduceToInt, Int64.reduceToInt, and_true, true_and, and_self, not_true_eq_false, not_false_eq_true, false_implies, true_implies, eq_self, implies_true, false_and, and_false, Classical.not_not, Int.reduceLT, Int.reduceLE, Int.reduceEq, reduceIte, reduceCtorEq, and_imp, imp_false, false_or, or_false, true_or, or_true]
          exact hC _ _ _ _ _ _ _ hR0
      · simp +decide only [P_X10_mark, P_X11_mark, signX_iff, sign_iff, h1, h2, h3, within_iff, in_iff, all_eq, bz_0, bz_1, bzT, bzF, nem, bz_or, i64, Int32.reduceToInt, Int64.reduceToInt, and_true, true_and, and_self, not_true_eq_false, not_false_eq_true, false_implies, true_implies, eq_self, implies_true, false_and, and_false, Classical.not_not, Int.reduceLT, Int.reduceLE, Int.reduceEq, reduceIte, reduceCtorEq, and_imp, imp_false, false_or, or_false, true_or, or_true]
        exact hC _ _ _ _ _ _ _ hR0
    · simp +decide only [P_X10_mark, P_X11_mark, signX_iff, sign_iff, h1, h2, within_iff, in_iff, all_eq, bz_0, bz_1, bzT, bzF, nem, bz_or, i64, Int32.reduceToInt, Int64.reduceToInt, and_true, true_and, and_self, not_true_eq_false, not_false_eq_true, false_implies, true_implies, eq_self, implies_true, false_and, and_false, Classical.not_not, Int.reduceLT, Int.reduceLE, Int.reduceEq, reduceIte, reduceCtorEq, and_imp, imp_false, false_or, or_false, true_or, or_true]
      exact hC _ _ _ _ _ _ _ hR0
  · simp +decide only [P_X10_mark, P_X11_mark, signX_iff, sign_iff, h1, within_iff, in_iff, all_eq, bz_0, bz_1, bzT, bzF, nem, bz_or, i64, Int32.reduceToInt, Int64.reduceToInt, and_true, true_and, and_self, not_true_eq_false, not_false_eq_true, false_implies, true_implies, eq_self, implies_true, false_and, and_false, Classical.not_not, Int.reduceLT, Int.reduceLE, Int.reduceEq, reduceIte, reduceCtorEq, and_imp, imp_false, false_or, or_false, true_or, or_true]
    exact hC _ _ _ _ _ _ _ hR0
