/-- the least and the greatest number that a weight lets, as the reference has it -/
def fRe (less hi : Int32) : Int32 := if less ≤ 0 then 0 else (less + hi - 1) / hi
def mWi (more lo : Int32) : Int32 := more / lo
/-- WEIGHINGS alike -/
def RW (kd_low kd_high : Nat → Int32) (kd_size : Int32) (wg_cellOf wg_fewest wg_most wg_counts : Nat → Int32) (wg_size m_weighings : Int32) (m_weighHouse m_weighKind m_weighLess m_weighMore m_isDropped : Nat → Int32) : Prop :=
  m_weighings = wg_size ∧ 0 ≤ wg_size.toInt ∧ wg_size.toInt ≤ 40 ∧
  (∀ j : Nat, (j : Int) < wg_size.toInt → (0 ≤ (m_weighHouse j).toInt ∧ (m_weighHouse j).toInt ≤ 4) ∧ (0 ≤ (m_weighKind j).toInt ∧ (m_weighKind j).toInt < kd_size.toInt) ∧
    wg_cellOf j = m_weighHouse j * 6 + m_weighKind j ∧ wg_fewest j = fRe (m_weighLess j) (kd_high (m_weighKind j).toInt.toNat) ∧ wg_most j = mWi (m_weighMore j) (kd_low (m_weighKind j).toInt.toNat) ∧
    (-500 ≤ (m_weighLess j).toInt ∧ (m_weighLess j).toInt ≤ 2000000) ∧ (0 ≤ (m_weighMore j).toInt ∧ (m_weighMore j).toInt ≤ 2000500) ∧
    ((wg_counts j = 1 ∧ m_isDropped j = 0) ∨ (wg_counts j = 0 ∧ m_isDropped j = 1))) ∧
  ∀ j : Nat, wg_size.toInt ≤ (j : Int) → m_isDropped j = 0
theorem RW_kind {kd_low kd_high : Nat → Int32} {kd_size : Int32} {wg_cellOf wg_fewest wg_most wg_counts : Nat → Int32} {wg_size m_weighings : Int32} {m_weighHouse m_weighKind m_weighLess m_weighMore m_isDropped : Nat → Int32} (h : RW kd_low kd_high kd_size wg_cellOf wg_fewest wg_most wg_counts wg_size m_weighings m_weighHouse m_weighKind m_weighLess m_weighMore m_isDropped) {a b : Nat → Int32} {c : Int32} (h1 : ∀ k : Nat, (k : Int) < kd_size.toInt → a k = kd_low k ∧ b k = kd_high k) (h2 : kd_size.toInt ≤ c.toInt) : RW a b c wg_cellOf wg_fewest wg_most wg_counts wg_size m_weighings m_weighHouse m_weighKind m_weighLess m_weighMore m_isDropped := by
  obtain ⟨e, z0, z1, hj, hf⟩ := h
  refine ⟨e, z0, z1, fun j hj2 => ?_, hf⟩
  obtain ⟨a1, a2, a3, a4, a5, a6, a7, a8⟩ := hj j hj2
  obtain ⟨b1, b2⟩ := h1 (m_weighKind j).toInt.toNat (by omega)
  exact ⟨a1, ⟨a2.1, by omega⟩, a3, by rw [b2]; exact a4, by rw [b1]; exact a5, a6, a7, a8⟩
theorem weightX_iff (post : Int32 → Prop) (w g : Int32) : P_X10_isWeight post w g ↔ post (bz ((0 ≤ w.toInt ∧ w.toInt ≤ 2000000) ∧ 0 ≤ g.toInt ∧ g.toInt ≤ 500)) := by
  by_cases h1 : 0 ≤ w.toInt ∧ w.toInt ≤ 2000000
  · by_cases h2 : 0 ≤ g.toInt ∧ g.toInt ≤ 500
    · simp +decide only [P_X10_isWeight, h1, h2, within_iff, in_iff, all_eq, bz_0, bz_1, bzT, bzF, nem, bz_or, i64, Int32.reduceToInt, Int64.reduceToInt, and_true, true_and, and_self, not_true_eq_false, not_false_eq_true, false_implies, true_implies, eq_self, implies_true, false_and, and_false, Classical.not_not, Int.reduceLT, Int.reduceLE, Int.reduceEq, reduceIte, reduceCtorEq, and_imp, imp_false, false_or, or_false, true_or, or_true]
    · simp +decide only [P_X10_isWeight, h1, h2, within_iff, in_iff, all_eq, bz_0, bz_1, bzT, bzF, nem, bz_or, i64, Int32.reduceToInt, Int64.reduceToInt, and_true, true_and, and_self, not_true_eq_false, not_false_eq_true, false_implies, true_implies, eq_self, implies_true, false_and, and_false, Classical.not_not, Int.reduceLT, Int.reduceLE, Int.reduceEq, reduceIte, reduceCtorEq, and_imp, imp_false, false_or, or_false, true_or, or_true]
  · simp +decide only [P_X10_isWeight, h1, within_iff, in_iff, all_eq, bz_0, bz_1, bzT, bzF, nem, bz_or, i64, Int32.reduceToInt, Int64.reduceToInt, and_true, true_and, and_self, not_true_eq_false, not_false_eq_true, false_implies, true_implies, eq_self, implies_true, false_and, and_false, Classical.not_not, Int.reduceLT, Int.reduceLE, Int.reduceEq, reduceIte, reduceCtorEq, and_imp, imp_false, false_or, or_false, true_or, or_true]
theorem weight_iff (post : Int32 → Prop) (w g : Int32) : P_X11_isWeight post w g ↔ post (bz ((0 ≤ w.toInt ∧ w.toInt ≤ 2000000) ∧ 0 ≤ g.toInt ∧ g.toInt ≤ 500)) := by
  by_cases h1 : 0 ≤ w.toInt ∧ w.toInt ≤ 2000000
  · by_cases h2 : 0 ≤ g.toInt ∧ g.toInt ≤ 500
    · simp +decide only [P_X11_isWeight, h1, h2, within_iff, in_iff, all_eq, bz_0, bz_1, bzT, bzF, nem, bz_or, i64, Int32.reduceToInt, Int64.reduceToInt, and_true, true_and, and_self, not_true_eq_false, not_false_eq_true, false_implies, true_implies, eq_self, implies_true, false_and, and_false, Classical.not_not, Int.reduceLT, Int.reduceLE, Int.reduceEq, reduceIte, reduceCtorEq, and_imp, imp_false, false_or, or_false, true_or, or_true]
    · simp +decide only [P_X11_isWeight, h1, h2, within_iff, in_iff, all_eq, bz_0, bz_1, bzT, bzF, nem, bz_or, i64, Int32.reduceToInt, Int64.reduceToInt, and_true, true_and, and_self, not_true_eq_false, not_false_eq_true, false_implies, true_implies, eq_self, implies_true, false_and, and_false, Classical.not_not, Int.reduceLT, Int.reduceLE, Int.reduceEq, reduceIte, reduceCtorEq, and_imp, imp_false, false_or, or_false, true_or, or_true]
  · simp +decide only [P_X11_isWeight, h1, within_iff, in_iff, all_eq, bz_0, bz_1, bzT, bzF, nem, bz_or, i64, Int32.reduceToInt, Int64.reduceToInt, and_true, true_and, and_self, not_true_eq_false, not_false_eq_true, false_implies, true_implies, eq_self, implies_true, false_and, and_false, Classical.not_not, Int.reduceLT, Int.reduceLE, Int.reduceEq, reduceIte, reduceCtorEq, and_imp, imp_false, false_or, or_false, true_or, or_true]
theorem ge1 (x : Int32) : (1 : Int32) ≤ x ↔ 1 ≤ x.toInt := fa_le _ _
theorem lt0 (x : Int32) : x < (0 : Int32) ↔ x.toInt < 0 := fa_lt _ _
theorem le0 (x : Int32) : x ≤ (0 : Int32) ↔ x.toInt ≤ 0 := fa_le _ _
theorem ne0 {x : Int32} (h : 1 ≤ x.toInt) : ¬ x = 0 := fun e => by rw [e] at h; exact absurd h (by decide)
theorem fewestReaching_i {post : Int32 → Prop} {k w : Int32} {hi : Nat → Int32} (h1 : vp_in k 6) (h2 : 1 ≤ (hi k.toNatClampNeg).toInt) (h : post (fRe w (hi k.toNatClampNeg))) : P_X4_fewestReaching post k w hi := by
  have h3 := ne0 h2
  unfold fRe at h
  by_cases h4 : w.toInt ≤ 0
  · simp +decide only [P_X4_fewestReaching, h1, ge1, h2, le0, h4, within_iff, in_iff, all_eq, bz_0, bz_1, bzT, bzF, nem, bz_or, i64, Int32.reduceToInt, Int64.reduceToInt, and_true, true_and, and_self, not_true_eq_false, not_false_eq_true, false_implies, true_implies, eq_self, implies_true, false_and, and_false, Classical.not_not, Int.reduceLT, Int.reduceLE, Int.reduceEq, reduceIte, reduceCtorEq, and_imp, imp_false, false_or, or_false, true_or, or_true]
    simpa only [le0, h4, if_true] using h
  · simp +decide only [P_X4_fewestReaching, h1, ge1, h2, le0, h4, h3, within_iff, in_iff, all_eq, bz_0, bz_1, bzT, bzF, nem, bz_or, i64, Int32.reduceToInt, Int64.reduceToInt, and_true, true_and, and_self, not_true_eq_false, not_false_eq_true, false_implies, true_implies, eq_self, implies_true, false_and, and_false, Classical.not_not, Int.reduceLT, Int.reduceLE, Int.reduceEq, reduceIte, reduceCtorEq, and_imp, imp_false, false_or, or_false, true_or, or_true]
    simpa only [le0, h4, if_false] using h
theorem mostWithin_i {post : Int32 → Prop} {k w : Int32} {lo : Nat → Int32} (h1 : vp_in k 6) (h2 : 1 ≤ (lo k.toNatClampNeg).toInt) (h4 : 0 ≤ w.toInt) (h : post (mWi w (lo k.toNatClampNeg))) : P_X4_mostWithin post k w lo := by
  have h3 := ne0 h2
  have h5 : ¬ w.toInt < 0 := by omega
  simp +decide only [P_X4_mostWithin, h1, ge1, h2, lt0, h5, h3, within_iff, in_iff, all_eq, bz_0, bz_1, bzT, bzF, nem, bz_or, i64, Int32.reduceToInt, Int64.reduceToInt, and_true, true_and, and_self, not_true_eq_false, not_false_eq_true, false_implies, true_implies, eq_self, implies_true, false_and, and_false, Classical.not_not, Int.reduceLT, Int.reduceLE, Int.reduceEq, reduceIte, reduceCtorEq, and_imp, imp_false, false_or, or_false, true_or, or_true]
  exact h
theorem eq_weigh {C : (Nat → Int32) → (Nat → Int32) → (Nat → Int32) → (Nat → Int32) → Int32 → Int32 → (Nat → Int32) → (Nat → Int32) → (Nat → Int32) → (Nat → Int32) → Prop} {kd_low kd_high : Nat → Int32} {kd_size m_kinds : Int32} {m_low m_high : Nat → Int32} {wg_cellOf wg_fewest wg_most wg_counts : Nat → Int32} {wg_size m_weighings : Int32} {m_weighHouse m_weighKind m_weighLess m_weighMore m_isDropped : Nat → Int32} (hK : RK kd_low kd_high kd_size m_kinds m_low m_high) (hW : RW kd_low kd_high kd_size wg_cellOf wg_fewest wg_most wg_counts wg_size m_weighings m_weighHouse m_weighKind m_weighLess m_weighMore m_isDropped)
    (hC : ∀ a b c d e f g h i j, RW kd_low kd_high kd_size a b c d e f g h i j m_isDropped → C a b c d e f g h i j) (p1 p2 p3 p4 : Int32) :
    P_X10_weigh (fun r a b c d e => P_X11_weigh (fun r2 f g h i j => ((r = r2 → C a b c d e f g h i j) ∧ (¬ r = r2 → False))) p1 p2 p3 p4 m_kinds m_weighings m_weighHouse m_weighKind m_weighLess m_weighMore) p1 p2 p3 p4 kd_low kd_high kd_size wg_cellOf wg_fewest wg_most wg_counts wg_size := by
  have hW0 := hW
  obtain ⟨rfl, rfl, rfl, k0, k6, hk⟩ := hK
  obtain ⟨rfl, z0, z1, hj, hf⟩ := hW
  have hm : -2147483648 < m_kinds.toInt := by omega
  have e6 : m_weighings = 40 ↔ m_weighings.toInt = 40 := fa_eq _ _
  have l6 : m_weighings < 40 ↔ m_weighings.toInt < 40 := fa_lt _ _
  by_cases h1 : 0 ≤ p1.toInt ∧ p1.toInt ≤ 4
  · by_cases h2 : 0 ≤ p2.toInt ∧ p2.toInt ≤ m_kinds.toInt - 1
    · by_cases h3 : (0 ≤ p3.toInt ∧ p3.toInt ≤ 2000000) ∧ 0 ≤ p4.toInt ∧ p4.toInt ≤ 500
      · by_cases h4 : m_weighings.toInt = 40
        · have h5 : ¬ m_weighings.toInt < 40 := by omega
          simp +decide only [P_X10_weigh, P_X11_weigh, cell_iff _ _ _ _ hm, house_iff, isKind_iff _ _ _ hm, weightX_iff, weight_iff, h1, h2, h3, e6, l6, h4, h5, within_iff, in_iff, all_eq, bz_0, bz_1, bzT, bzF, nem, bz_or, i64, Int32.reduceToInt, Int64.reduceToInt, and_true, true_and, and_self, not_true_eq_false, not_false_eq_true, false_implies, true_implies, eq_self, implies_true, false_and, and_false, Classical.not_not, Int.reduceLT, Int.reduceLE, Int.reduceEq, reduceIte, reduceCtorEq, and_imp, imp_false, false_or, or_false, true_or, or_true]
          exact hC _ _ _ _ _ _ _ _ _ _ hW0
        · have h5 : m_weighings.toInt < 40 := by omega
          have h7 : vp_in m_weighings 40 := vp_in_iff.mpr ⟨z0, h5⟩
          have ea : (m_weighings + 1).toInt = m_weighings.toInt + 1 := add1 (by omega)
          have hv : vp_in p2 6 := vp_in_iff.mpr ⟨h2.1, by omega⟩
          obtain ⟨q1, q2, q3⟩ := hk p2.toNatClampNeg (by rw [cl]; omega)
          have es : (p3 + p4).toInt = p3.toInt + p4.toInt := fb_addI (by omega) (by omega)
          have ed : (p3 - p4).toInt = p3.toInt - p4.toInt := fb_subI (by omega) (by omega)
          simp +decide only [P_X10_weigh, cell_iff _ _ _ _ hm, weightX_iff, h1, h2, h3, l6, h5, within_iff, in_iff, all_eq, bz_0, bz_1, bzT, bzF, nem, bz_or, i64, Int32.reduceToInt, Int64.reduceToInt, and_true, true_and, and_self, not_true_eq_false, not_false_eq_true, false_implies, true_implies, eq_self, implies_true, false_and, and_false, Classical.not_not, Int.reduceLT, Int.reduceLE, Int.reduceEq, reduceIte, reduceCtorEq, and_imp, imp_false, false_or, or_false, true_or, or_true]
          refine fewestReaching_i hv (by omega) (mostWithin_i hv q1 (by omega) ?_)
          simp +decide only [P_X10_cell, P_X9_add, P_X11_weigh, house_iff, isKind_iff _ _ _ hm, weight_iff, h1, h2, h3, e6, h4, h7, nar1, within_iff, in_iff, all_eq, bz_0, bz_1, bzT, bzF, nem, bz_or, i64, Int32.reduceToInt, Int64.reduceToInt, and_true, true_and, and_self, not_true_eq_false, not_false_eq_true, false_implies, true_implies, eq_self, implies_true, false_and, and_false, Classical.not_not, Int.reduceLT, Int.reduceLE, Int.reduceEq, reduceIte, reduceCtorEq, and_imp, imp_false, false_or, or_false, true_or, or_true]
          refine hC _ _ _ _ _ _ _ _ _ _ ⟨rfl, by omega, by omega, fun j hj2 => ?_, fun j hj2 => hf j (by omega)⟩
          simp only [upd_at, cl]
          by_cases e : j = m_weighings.toInt.toNat
          · simp only [if_pos e]
            exact ⟨h1, ⟨h2.1, by omega⟩, trivial, trivial, trivial, by omega, by omega, Or.inl ⟨trivial, hf j (by omega)⟩⟩
          · simp only [if_neg e]
            exact hj j (by omega)
      · simp +decide only [P_X10_weigh, P_X11_weigh, cell_iff _ _ _ _ hm, house_iff, isKind_iff _ _ _ hm, weightX_iff, weight_iff, h1, h2, h3, within_iff, in_iff, all_eq, bz_0, bz_1, bzT, bzF, nem, bz_or, i64, Int32.reduceToInt, Int64.reduceToInt, and_true, true_and, and_self, not_true_eq_false, not_false_eq_true, false_implies, true_implies, eq_self, implies_true, false_and, and_false, Classical.not_not, Int.reduceLT, Int.reduceLE, Int.reduceEq, reduceIte, reduceCtorEq, and_imp, imp_false, false_or, or_false, true_or, or_true]
        exact hC _ _ _ _ _ _ _ _ _ _ hW0
    · simp +decide only [P_X10_weigh, P_X11_weigh, cell_iff _ _ _ _ hm, house_iff, isKind_iff _ _ _ hm, h1, h2, within_iff, in_iff, all_eq, bz_0, bz_1, bzT, bzF, nem, bz_or, i64, Int32.reduceToInt, Int64.reduceToInt, and_true, true_and, and_self, not_true_eq_false, not_false_eq_true, false_implies, true_implies, eq_self, implies_true, false_and, and_false, Classical.not_not, Int.reduceLT, Int.reduceLE, Int.reduceEq, reduceIte, reduceCtorEq, and_imp, imp_false, false_or, or_false, true_or, or_true]
      exact hC _ _ _ _ _ _ _ _ _ _ hW0
  · simp +decide only [P_X10_weigh, P_X11_weigh, cell_iff _ _ _ _ hm, house_iff, isKind_iff _ _ _ hm, h1, within_iff, in_iff, all_eq, bz_0, bz_1, bzT, bzF, nem, bz_or, i64, Int32.reduceToInt, Int64.reduceToInt, and_true, true_and, and_self, not_true_eq_false, not_false_eq_true, false_implies, true_implies, eq_self, implies_true, false_and, and_false, Classical.not_not, Int.reduceLT, Int.reduceLE, Int.reduceEq, reduceIte, reduceCtorEq, and_imp, imp_false, false_or, or_false, true_or, or_true]
    exact hC _ _ _ _ _ _ _ _ _ _ hW0
theorem eq_drop {C : (Nat → Int32) → (Nat → Int32) → Prop} {kd_low kd_high : Nat → Int32} {kd_size : Int32} {wg_cellOf wg_fewest wg_most wg_counts : Nat → Int32} {wg_size m_weighings : Int32} {m_weighHouse m_weighKind m_weighLess m_weighMore m_isDropped : Nat → Int32} (hW : RW kd_low kd_high kd_size wg_cellOf wg_fewest wg_most wg_counts wg_size m_weighings m_weighHouse m_weighKind m_weighLess m_weighMore m_isDropped)
    (hC : ∀ a b, RW kd_low kd_high kd_size wg_cellOf wg_fewest wg_most a wg_size m_weighings m_weighHouse m_weighKind m_weighLess m_weighMore b → C a b) (p1 : Int32) :
    P_X10_drop (fun r a => P_X11_drop (fun r2 b => ((r = r2 → C a b) ∧ (¬ r = r2 → False))) p1 m_weighings m_isDropped) p1 wg_counts wg_size := by
  have hW0 := hW
  obtain ⟨rfl, z0, z1, hj, hf⟩ := hW
  have es : (m_weighings - 1).toInt = m_weighings.toInt - 1 := sub1 (by omega)
  by_cases h1 : 0 ≤ p1.toInt ∧ p1.toInt ≤ m_weighings.toInt - 1
  · have h2 : vp_in p1 40 := vp_in_iff.mpr (by omega)
    obtain ⟨a1, a2, a3, a4, a5, a6, a7, a8⟩ := hj p1.toNatClampNeg (by rw [cl]; omega)
    have key : ∀ b, (b = m_isDropped ∧ m_isDropped p1.toNatClampNeg = 1) ∨ (b = upd m_isDropped p1.toNatClampNeg 1) → RW kd_low kd_high kd_size wg_cellOf wg_fewest wg_most (upd wg_counts p1.toNatClampNeg 0) m_weighings m_weighings m_weighHouse m_weighKind m_weighLess m_weighMore b := by
      intro b hb
      have hbj : ∀ j : Nat, b j = if j = p1.toNatClampNeg then 1 else m_isDropped j := by
        intro j
        rcases hb with ⟨rfl, h⟩ | rfl
        · split
          · rename_i e; rw [e, h]
          · rfl
        · rfl
      refine ⟨rfl, z0, z1, fun j hj2 => ?_, fun j hj2 => ?_⟩
      · obtain ⟨b1, b2, b3, b4, b5, b6, b7, b8⟩ := hj j hj2
        refine ⟨b1, b2, b3, b4, b5, b6, b7, ?_⟩
        rw [upd_at, hbj]
        by_cases e : j = p1.toNatClampNeg
        · rw [if_pos e, if_pos e]; exact Or.inr ⟨rfl, rfl⟩
        · rw [if_neg e, if_neg e]; exact b8
      · rw [hbj, if_neg (by rw [cl]; omega)]; exact hf j hj2
    rcases a8 with ⟨o1, o2⟩ | ⟨o1, o2⟩
    · simp +decide only [P_X10_drop, P_X11_drop, P_X9_stop, es, h1, h2, nar0, nar1, o1, o2, within_iff, in_iff, all_eq, bz_0, bz_1, bzT, bzF, nem, bz_or, i64, Int32.reduceToInt, Int64.reduceToInt, and_true, true_and, and_self, not_true_eq_false, not_false_eq_true, false_implies, true_implies, eq_self, implies_true, false_and, and_false, Classical.not_not, Int.reduceLT, Int.reduceLE, Int.reduceEq, reduceIte, reduceCtorEq, and_imp, imp_false, false_or, or_false, true_or, or_true]
      exact hC _ _ (key _ (Or.inr rfl))
    · simp +decide only [P_X10_drop, P_X11_drop, P_X9_stop, es, h1, h2, nar0, nar1, o1, o2, within_iff, in_iff, all_eq, bz_0, bz_1, bzT, bzF, nem, bz_or, i64, Int32.reduceToInt, Int64.reduceToInt, and_true, true_and, and_self, not_true_eq_false, not_false_eq_true, false_implies, true_implies, eq_self, implies_true, false_and, and_false, Classical.not_not, Int.reduceLT, Int.reduceLE, Int.reduceEq, reduceIte, reduceCtorEq, and_imp, imp_false, false_or, or_false, true_or, or_true]
      exact hC _ _ (key _ (Or.inl ⟨rfl, o2⟩))
  · simp +decide only [P_X10_drop, P_X11_drop, es, h1, within_iff, in_iff, all_eq, bz_0, bz_1, bzT, bzF, nem, bz_or, i64, Int32.reduceToInt, Int64.reduceToInt, and_true, true_and, and_self, not_true_eq_false, not_false_eq_true, false_implies, true_implies, eq_self, implies_true, false_and, and_false, Classical.not_not, Int.reduceLT, Int.reduceLE, Int.reduceEq, reduceIte, reduceCtorEq, and_imp, imp_false, false_or, or_false, true_or, or_true]
    exact hC _ _ hW0
/-- BREAKAGES alike -/
def RBr (br_night br_shift br_pieces : Nat → Int32) (br_size m_breakages : Int32) (m_brokeNight m_brokeShift m_brokeMany : Nat → Int32) : Prop :=
  (m_breakages = br_size ∧ m_brokeNight = br_night ∧ m_brokeShift = br_shift ∧ m_brokeMany = br_pieces) ∧ 0 ≤ br_size.toInt ∧ br_size.toInt ≤ 60 ∧ ∀ j : Nat, (j : Int) < br_size.toInt → 1 ≤ (br_pieces j).toInt ∧ (br_pieces j).toInt ≤ 99
theorem eq_broke {C : (Nat → Int32) → (Nat → Int32) → (Nat → Int32) → Int32 → Int32 → (Nat → Int32) → (Nat → Int32) → (Nat → Int32) → Prop} {br_night br_shift br_pieces : Nat → Int32} {br_size m_breakages : Int32} {m_brokeNight m_brokeShift m_brokeMany : Nat → Int32} (hR : RBr br_night br_shift br_pieces br_size m_breakages m_brokeNight m_brokeShift m_brokeMany)
    (hC : ∀ a b c d e f g h, RBr a b c d e f g h → C a b c d e f g h) (p1 p2 p3 : Int32) :
    P_X10_broke (fun r a b c d => P_X11_broke (fun r2 e f g h => ((r = r2 → C a b c d e f g h) ∧ (¬ r = r2 → False))) p1 p2 p3 m_breakages m_brokeNight m_brokeShift m_brokeMany) p1 p2 p3 br_night br_shift br_pieces br_size := by
  have hR0 := hR
  obtain ⟨⟨rfl, rfl, rfl, rfl⟩, z0, z1, hj⟩ := hR
  have e6 : m_breakages = 60 ↔ m_breakages.toInt = 60 := fa_eq _ _
  have l6 : m_breakages < 60 ↔ m_breakages.toInt < 60 := fa_lt _ _
  by_cases h1 : 0 ≤ p1.toInt ∧ p1.toInt ≤ 999
  · by_cases h2 : 0 ≤ p2.toInt ∧ p2.toInt ≤ 2
    · by_cases h3 : 1 ≤ p3.toInt ∧ p3.toInt ≤ 99
      · by_cases h4 : m_breakages.toInt = 60
        · have h5 : ¬ m_breakages.toInt < 60 := by omega
          simp +decide only [P_X10_broke, P_X11_broke, P_X10_isShift, h1, h2, h3, e6, l6, h4, h5, within_iff, in_iff, all_eq, bz_0, bz_1, bzT, bzF, nem, bz_or, i64, Int32.reduceToInt, Int64.reduceToInt, and_true, true_and, and_self, not_true_eq_false, not_false_eq_true, false_implies, true_implies, eq_self, implies_true, false_and, and_false, Classical.not_not, Int.reduceLT, Int.reduceLE, Int.reduceEq, reduceIte, reduceCtorEq, and_imp, imp_false, false_or, or_false, true_or, or_true]
          exact hC _ _ _ _ _ _ _ _ hR0
        · have h5 : m_breakages.toInt < 60 := by omega
          have h7 : vp_in m_breakages 60 := vp_in_iff.mpr ⟨z0, h5⟩
          have ea : (m_breakages + 1).toInt = m_breakages.toInt + 1 := add1 (by omega)
          simp +decide only [P_X10_broke, P_X11_broke, P_X10_isShift, P_X1_add, h1, h2, h3, e6, l6, h4, h5, h7, within_iff, in_iff, all_eq, bz_0, bz_1, bzT, bzF, nem, bz_or, i64, Int32.reduceToInt, Int64.reduceToInt, and_true, true_and, and_self, not_true_eq_false, not_false_eq_true, false_implies, true_implies, eq_self, implies_true, false_and, and_false, Classical.not_not, Int.reduceLT, Int.reduceLE, Int.reduceEq, reduceIte, reduceCtorEq, and_imp, imp_false, false_or, or_false, true_or, or_true]
          refine hC _ _ _ _ _ _ _ _ ⟨⟨rfl, rfl, rfl, rfl⟩, by omega, by omega, fun j hj2 => ?_⟩
          rw [upd_at, cl]
          by_cases e : j = m_breakages.toInt.toNat
          · rw [if_pos e]; exact h3
          · rw [if_neg e]; exact hj j (by omega)
      · simp +decide only [P_X10_broke, P_X11_broke, P_X10_isShift, h1, h2, h3, within_iff, in_iff, all_eq, bz_0, bz_1, bzT, bzF, nem, bz_or, i64, Int32.reduceToInt, Int64.reduceToInt, and_true, true_and, and_self, not_true_eq_false, not_false_eq_true, false_implies, true_implies, eq_self, implies_true, false_and, and_false, Classical.not_not, Int.reduceLT, Int.reduceLE, Int.reduceEq, reduceIte, reduceCtorEq, and_imp, imp_false, false_or, or_false, true_or, or_true]
        exact hC _ _ _ _ _ _ _ _ hR0
    · simp +decide only [P_X10_broke, P_X11_broke, P_X10_isShift, h1, h2, within_iff, in_iff, all_eq, bz_0, bz_1, bzT, bzF, nem, bz_or, i64, Int32.reduceToInt, Int64.reduceToInt, and_true, true_and, and_self, not_true_eq_false, not_false_eq_true, false_implies, true_implies, eq_self, implies_true, false_and, and_false, Classical.not_not, Int.reduceLT, Int.reduceLE, Int.reduceEq, reduceIte, reduceCtorEq, and_imp, imp_false, false_or, or_false, true_or, or_true]
      exact hC _ _ _ _ _ _ _ _ hR0
  · simp +decide only [P_X10_broke, P_X11_broke, h1, within_iff, in_iff, all_eq, bz_0, bz_1, bzT, bzF, nem, bz_or, i64, Int32.reduceToInt, Int64.reduceToInt, and_true, true_and, and_self, not_true_eq_false, not_false_eq_true, false_implies, true_implies, eq_self, implies_true, false_and, and_false, Classical.not_not, Int.reduceLT, Int.reduceLE, Int.reduceEq, reduceIte, reduceCtorEq, and_imp, imp_false, false_or, or_false, true_or, or_true]
    exact hC _ _ _ _ _ _ _ _ hR0
