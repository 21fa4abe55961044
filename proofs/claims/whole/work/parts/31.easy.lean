/-- KINDS alike -/
def RK (kd_low kd_high : Nat → Int32) (kd_size m_kinds : Int32) (m_low m_high : Nat → Int32) : Prop :=
  m_kinds = kd_size ∧ m_low = kd_low ∧ m_high = kd_high ∧ 0 ≤ kd_size.toInt ∧ kd_size.toInt ≤ 6 ∧ ∀ k : Nat, (k : Int) < kd_size.toInt → 1 ≤ (kd_low k).toInt ∧ (kd_low k).toInt ≤ (kd_high k).toInt ∧ (kd_high k).toInt ≤ 2000
theorem eq_kind {C : (Nat → Int32) → (Nat → Int32) → Int32 → Int32 → (Nat → Int32) → (Nat → Int32) → Prop} {kd_low kd_high : Nat → Int32} {kd_size m_kinds : Int32} {m_low m_high : Nat → Int32} (hR : RK kd_low kd_high kd_size m_kinds m_low m_high) (hC : ∀ a b c d e f, RK a b c d e f → (∀ k : Nat, (k : Int) < kd_size.toInt → a k = kd_low k ∧ b k = kd_high k) → kd_size.toInt ≤ c.toInt → C a b c d e f) (p1 p2 : Int32) :
    P_X10_kind (fun r a b c => P_X11_kind (fun r2 d e f => ((r = r2 → C a b c d e f) ∧ (¬ r = r2 → False))) p1 p2 m_kinds m_low m_high) p1 p2 kd_low kd_high kd_size := by
  have hR0 := hR
  obtain ⟨rfl, rfl, rfl, h0, h6, hk⟩ := hR
  have e6 : m_kinds = 6 ↔ m_kinds.toInt = 6 := fa_eq _ _
  have l6 : m_kinds < 6 ↔ m_kinds.toInt < 6 := fa_lt _ _
  by_cases h1 : 1 ≤ p1.toInt ∧ p1.toInt ≤ 2000
  · by_cases h2 : p1.toInt ≤ p2.toInt ∧ p2.toInt ≤ 2000
    · by_cases h3 : m_kinds.toInt = 6
      · have h4 : ¬ m_kinds.toInt < 6 := by omega
        simp +decide only [P_X10_kind, P_X11_kind, e6, l6, h1, h2, h3, h4, within_iff, in_iff, all_eq, bz_0, bz_1, bzT, bzF, nem, bz_or, i64, Int32.reduceToInt, Int64.reduceToInt, and_true, true_and, and_self, not_true_eq_false, not_false_eq_true, false_implies, true_implies, eq_self, implies_true, false_and, and_false, Classical.not_not, Int.reduceLT, Int.reduceLE, Int.reduceEq, reduceIte, reduceCtorEq, and_imp, imp_false, false_or, or_false, true_or, or_true]
        exact hC _ _ _ _ _ _ hR0 (fun _ _ => ⟨rfl, rfl⟩) (Int.le_refl _)
      · have h4 : m_kinds.toInt < 6 := by omega
        have h5 : vp_in m_kinds 6 := vp_in_iff.mpr ⟨h0, h4⟩
        simp +decide only [P_X10_kind, P_X11_kind, P_X4_add, e6, l6, h1, h2, h3, h4, h5, within_iff, in_iff, all_eq, bz_0, bz_1, bzT, bzF, nem, bz_or, i64, Int32.reduceToInt, Int64.reduceToInt, and_true, true_and, and_self, not_true_eq_false, not_false_eq_true, false_implies, true_implies, eq_self, implies_true, false_and, and_false, Classical.not_not, Int.reduceLT, Int.reduceLE, Int.reduceEq, reduceIte, reduceCtorEq, and_imp, imp_false, false_or, or_false, true_or, or_true]
        have ea : (m_kinds + 1).toInt = m_kinds.toInt + 1 := add1 (by omega)
        refine hC _ _ _ _ _ _ ⟨rfl, rfl, rfl, by omega, by omega, fun k hk2 => ?_⟩ (fun k hk2 => ?_) (by omega)
        · rw [upd_at, upd_at, cl]
          by_cases e : k = m_kinds.toInt.toNat
          · rw [if_pos e, if_pos e]; omega
          · rw [if_neg e, if_neg e]; exact hk k (by omega)
        · rw [upd_at, upd_at, cl, if_neg (by omega), if_neg (by omega)]; exact ⟨rfl, rfl⟩
    · simp +decide only [P_X10_kind, P_X11_kind, h1, h2, within_iff, in_iff, all_eq, bz_0, bz_1, bzT, bzF, nem, bz_or, i64, Int32.reduceToInt, Int64.reduceToInt, and_true, true_and, and_self, not_true_eq_false, not_false_eq_true, false_implies, true_implies, eq_self, implies_true, false_and, and_false, Classical.not_not, Int.reduceLT, Int.reduceLE, Int.reduceEq, reduceIte, reduceCtorEq, and_imp, imp_false, false_or, or_false, true_or, or_true]
      exact hC _ _ _ _ _ _ hR0 (fun _ _ => ⟨rfl, rfl⟩) (Int.le_refl _)
  · simp +decide only [P_X10_kind, P_X11_kind, h1, within_iff, in_iff, all_eq, bz_0, bz_1, bzT, bzF, nem, bz_or, i64, Int32.reduceToInt, Int64.reduceToInt, and_true, true_and, and_self, not_true_eq_false, not_false_eq_true, false_implies, true_implies, eq_self, implies_true, false_and, and_false, Classical.not_not, Int.reduceLT, Int.reduceLE, Int.reduceEq, reduceIte, reduceCtorEq, and_imp, imp_false, false_or, or_false, true_or, or_true]
    exact hC _ _ _ _ _ _ hR0 (fun _ _ => ⟨rfl, rfl⟩) (Int.le_refl _)
/-- a house and a kind: as both sides ask -/
theorem cell_iff (post : Int32 → Prop) (h k n : Int32) (hn : -2147483648 < n.toInt) : P_X10_isCell post h k n ↔ post (bz ((0 ≤ h.toInt ∧ h.toInt ≤ 4) ∧ 0 ≤ k.toInt ∧ k.toInt ≤ n.toInt - 1)) := by
  have e := sub1 hn
  by_cases h1 : 0 ≤ h.toInt ∧ h.toInt ≤ 4
  · by_cases h2 : 0 ≤ k.toInt ∧ k.toInt ≤ n.toInt - 1
    · simp +decide only [P_X10_isCell, P_X10_isHouse, P_X4_has, e, h1, h2, within_iff, in_iff, all_eq, bz_0, bz_1, bzT, bzF, nem, bz_or, i64, Int32.reduceToInt, Int64.reduceToInt, and_true, true_and, and_self, not_true_eq_false, not_false_eq_true, false_implies, true_implies, eq_self, implies_true, false_and, and_false, Classical.not_not, Int.reduceLT, Int.reduceLE, Int.reduceEq, reduceIte, reduceCtorEq, and_imp, imp_false, false_or, or_false, true_or, or_true]
    · simp +decide only [P_X10_isCell, P_X10_isHouse, P_X4_has, e, h1, h2, within_iff, in_iff, all_eq, bz_0, bz_1, bzT, bzF, nem, bz_or, i64, Int32.reduceToInt, Int64.reduceToInt, and_true, true_and, and_self, not_true_eq_false, not_false_eq_true, false_implies, true_implies, eq_self, implies_true, false_and, and_false, Classical.not_not, Int.reduceLT, Int.reduceLE, Int.reduceEq, reduceIte, reduceCtorEq, and_imp, imp_false, false_or, or_false, true_or, or_true]
  · simp +decide only [P_X10_isCell, P_X10_isHouse, P_X4_has, e, h1, within_iff, in_iff, all_eq, bz_0, bz_1, bzT, bzF, nem, bz_or, i64, Int32.reduceToInt, Int64.reduceToInt, and_true, true_and, and_self, not_true_eq_false, not_false_eq_true, false_implies, true_implies, eq_self, implies_true, false_and, and_false, Classical.not_not, Int.reduceLT, Int.reduceLE, Int.reduceEq, reduceIte, reduceCtorEq, and_imp, imp_false, false_or, or_false, true_or, or_true]
theorem house_iff (post : Int32 → Prop) (h : Int32) : P_X11_isHouse post h ↔ post (bz (0 ≤ h.toInt ∧ h.toInt ≤ 4)) := by
  simp +decide only [P_X11_isHouse, within_iff, in_iff, all_eq, bz_0, bz_1, bzT, bzF, nem, bz_or, i64, Int32.reduceToInt, Int64.reduceToInt, and_true, true_and, and_self, not_true_eq_false, not_false_eq_true, false_implies, true_implies, eq_self, implies_true, false_and, and_false, Classical.not_not, Int.reduceLT, Int.reduceLE, Int.reduceEq, reduceIte, reduceCtorEq, and_imp, imp_false, false_or, or_false, true_or, or_true]
theorem isKind_iff (post : Int32 → Prop) (k n : Int32) (hn : -2147483648 < n.toInt) : P_X11_isKind post k n ↔ post (bz (0 ≤ k.toInt ∧ k.toInt ≤ n.toInt - 1)) := by
  simp +decide only [P_X11_isKind, sub1 hn, within_iff, in_iff, all_eq, bz_0, bz_1, bzT, bzF, nem, bz_or, i64, Int32.reduceToInt, Int64.reduceToInt, and_true, true_and, and_self, not_true_eq_false, not_false_eq_true, false_implies, true_implies, eq_self, implies_true, false_and, and_false, Classical.not_not, Int.reduceLT, Int.reduceLE, Int.reduceEq, reduceIte, reduceCtorEq, and_imp, imp_false, false_or, or_false, true_or, or_true]
/-- THE BOOK and the LEDGER alike -/
def RB (st_booked st_parted m_book m_ledger : Nat → Int32) : Prop := m_book = st_booked ∧ m_ledger = st_parted ∧ (∀ i : Nat, 0 ≤ (st_booked i).toInt ∧ (st_booked i).toInt ≤ 999) ∧ ∀ i : Nat, 0 ≤ (st_parted i).toInt ∧ (st_parted i).toInt ≤ 999
theorem mul_c {c x : Int32} (h1 : 0 ≤ x.toInt) (h2 : x.toInt ≤ 1000) (h3 : 0 ≤ c.toInt) (h4 : c.toInt ≤ 1000) : (x * c).toInt = x.toInt * c.toInt := by
  have := Int.mul_le_mul h2 h4 h3 (by omega)
  have := Int.mul_nonneg h1 h3
  exact fb_mulI (by omega) (by omega)
theorem cell_no {h k : Int32} (h1 : 0 ≤ h.toInt ∧ h.toInt ≤ 4) (h2 : 0 ≤ k.toInt ∧ k.toInt ≤ 5) : (h * 6 + k).toInt = h.toInt * 6 + k.toInt ∧ h * 6 + k = 6 * h + k := by
  have e6 : (6 : Int32).toInt = 6 := by decide
  have e1 : (h * 6).toInt = h.toInt * 6 := by rw [mul_c (by omega) (by omega) (by decide) (by decide), e6]
  refine ⟨by rw [fb_addI (by omega) (by omega), e1], by rw [Int32.mul_comm]⟩
theorem eq_book {C : (Nat → Int32) → (Nat → Int32) → Prop} {kd_low kd_high : Nat → Int32} {kd_size m_kinds : Int32} {m_low m_high st_booked st_parted m_book m_ledger : Nat → Int32} (hK : RK kd_low kd_high kd_size m_kinds m_low m_high) (hB : RB st_booked st_parted m_book m_ledger) (hC : ∀ a b, RB a st_parted b m_ledger → C a b) (p1 p2 p3 : Int32) :
    P_X10_book (fun r a => P_X11_book (fun r2 b => ((r = r2 → C a b) ∧ (¬ r = r2 → False))) p1 p2 p3 m_kinds m_book) p1 p2 p3 kd_size st_booked := by
  have hB0 := hB
  obtain ⟨rfl, -, -, k0, k6, -⟩ := hK
  obtain ⟨rfl, rfl, hb, hp⟩ := hB
  have hm : -2147483648 < m_kinds.toInt := by omega
  by_cases h1 : 0 ≤ p1.toInt ∧ p1.toInt ≤ 4
  · by_cases h2 : 0 ≤ p2.toInt ∧ p2.toInt ≤ m_kinds.toInt - 1
    · by_cases h3 : 0 ≤ p3.toInt ∧ p3.toInt ≤ 999
      · obtain ⟨e1, e2⟩ := cell_no h1 ⟨h2.1, by omega⟩
        have h5 : vp_in (p1 * 6 + p2) 30 := vp_in_iff.mpr (by omega)
        simp +decide only [P_X10_book, P_X11_book, P_X10_cell, P_X8_setBooked, cell_iff _ _ _ _ hm, house_iff, isKind_iff _ _ _ hm, h1, h2, h3, ← e2, h5, within_iff, in_iff, all_eq, bz_0, bz_1, bzT, bzF, nem, bz_or, i64, Int32.reduceToInt, Int64.reduceToInt, and_true, true_and, and_self, not_true_eq_false, not_false_eq_true, false_implies, true_implies, eq_self, implies_true, false_and, and_false, Classical.not_not, Int.reduceLT, Int.reduceLE, Int.reduceEq, reduceIte, reduceCtorEq, and_imp, imp_false, false_or, or_false, true_or, or_true]
        refine hC _ _ ⟨rfl, rfl, fun i => ?_, hp⟩
        rw [upd_at]; split
        · exact h3
        · exact hb i
      · simp +decide only [P_X10_book, P_X11_book, cell_iff _ _ _ _ hm, house_iff, isKind_iff _ _ _ hm, h1, h2, h3, within_iff, in_iff, all_eq, bz_0, bz_1, bzT, bzF, nem, bz_or, i64, Int32.reduceToInt, Int64.reduceToInt, and_true, true_and, and_self, not_true_eq_false, not_false_eq_true, false_implies, true_implies, eq_self, implies_true, false_and, and_false, Classical.not_not, Int.reduceLT, Int.reduceLE, Int.reduceEq, reduceIte, reduceCtorEq, and_imp, imp_false, false_or, or_false, true_or, or_true]
        exact hC _ _ hB0
    · simp +decide only [P_X10_book, P_X11_book, cell_iff _ _ _ _ hm, house_iff, isKind_iff _ _ _ hm, h1, h2, within_iff, in_iff, all_eq, bz_0, bz_1, bzT, bzF, nem, bz_or, i64, Int32.reduceToInt, Int64.reduceToInt, and_true, true_and, and_self, not_true_eq_false, not_false_eq_true, false_implies, true_implies, eq_self, implies_true, false_and, and_false, Classical.not_not, Int.reduceLT, Int.reduceLE, Int.reduceEq, reduceIte, reduceCtorEq, and_imp, imp_false, false_or, or_false, true_or, or_true]
      exact hC _ _ hB0
  · simp +decide only [P_X10_book, P_X11_book, cell_iff _ _ _ _ hm, house_iff, isKind_iff _ _ _ hm, h1, within_iff, in_iff, all_eq, bz_0, bz_1, bzT, bzF, nem, bz_or, i64, Int32.reduceToInt, Int64.reduceToInt, and_true, true_and, and_self, not_true_eq_false, not_false_eq_true, false_implies, true_implies, eq_self, implies_true, false_and, and_false, Classical.not_not, Int.reduceLT, Int.reduceLE, Int.reduceEq, reduceIte, reduceCtorEq, and_imp, imp_false, false_or, or_false, true_or, or_true]
    exact hC _ _ hB0
