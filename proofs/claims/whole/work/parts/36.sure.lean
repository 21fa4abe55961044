/-- what all WEIGHINGS ahead of n let of a cell -/
def mxI (a b : Int32) : Int32 := if a < b then b else a
def mnI (a b : Int32) : Int32 := if b < a then b else a
def spn (cellOf fewest most counts : Nat → Int32) (cell : Int32) : Nat → Int32 × Int32
  | 0 => (0, 2000)
  | n + 1 => if counts n = 1 ∧ cellOf n = cell then (mxI (spn cellOf fewest most counts cell n).1 (fewest n), mnI (spn cellOf fewest most counts cell n).2 (most n)) else spn cellOf fewest most counts cell n
theorem spn_nn (a b c d : Nat → Int32) (e : Int32) : ∀ n, 0 ≤ (spn a b c d e n).1.toInt
  | 0 => (by decide : (0 : Int) ≤ (0 : Int32).toInt)
  | n + 1 => by
    have ih := spn_nn a b c d e n
    unfold spn
    split
    · unfold mxI; dsimp only; split
      · rename_i h; rw [fa_lt] at h; omega
      · exact ih
    · exact ih
theorem nIle {i : Nat} {x : Int32} (hi : i < 1000) : x ≤ nI i ↔ x.toInt ≤ i := by rw [fa_le, nI_toInt (by omega)]
theorem nIv {i N : Nat} (hi : i < N) (hN : N ≤ 1000) : vp_in (nI i) N := vp_in_nI hi (by omega)
theorem nIc {i : Nat} (hi : i < 1000) : (nI i).toNatClampNeg = i := nI_clamp (by omega)
theorem edge_i {post : Int32 → Prop} {cell p2 : Int32} {cellOf fewest most counts : Nat → Int32} {size : Int32} (h0 : 0 ≤ size.toInt) (h40 : size.toInt ≤ 40) (hc : ∀ j : Nat, (j : Int) < size.toInt → counts j = 1 ∨ counts j = 0)
    (h : post (if (spn cellOf fewest most counts cell size.toInt.toNat).1 ≤ (spn cellOf fewest most counts cell size.toInt.toNat).2 then (if p2 = 0 then (spn cellOf fewest most counts cell size.toInt.toNat).1 else (spn cellOf fewest most counts cell size.toInt.toNat).2) else -9)) : P_X9_edge post cell p2 cellOf fewest most counts size := by
  unfold P_X9_edge
  intro X hX
  have key : ∀ m i : Nat, i + m = size.toInt.toNat → X (spn cellOf fewest most counts cell i).1 (spn cellOf fewest most counts cell i).2 (nI i) := by
    intro m
    induction m with
    | zero =>
      intro i hi
      have e : i = size.toInt.toNat := by omega
      subst e
      apply hX
      have : size.toInt ≤ (size.toInt.toNat : Int) := by omega
      simp +decide only [nIle (i := size.toInt.toNat) (by omega), this, within_iff, in_iff, all_eq, bz_0, bz_1, bzT, bzF, nem, bz_or, i64, Int32.reduceToInt, Int64.reduceToInt, and_true, true_and, and_self, not_true_eq_false, not_false_eq_true, false_implies, true_implies, eq_self, implies_true, false_and, and_false, Classical.not_not, Int.reduceLT, Int.reduceLE, Int.reduceEq, reduceIte, reduceCtorEq, and_imp, imp_false, false_or, or_false, true_or, or_true]
      refine ⟨fun q => ?_, fun q => ?_⟩
      · rw [if_pos q] at h; exact h
      · rw [if_neg q] at h; exact h
    | succ m ih =>
      intro i hi
      have ih := ih (i + 1) (by omega)
      have hlt : ¬ size.toInt ≤ (i : Int) := by omega
      have e1 : nI i + 1 = nI (i + 1) := nI_1 i
      apply hX
      simp +decide only [P_X9_speaksOf, nIle (i := i) (by omega), hlt, nIv (i := i) (N := 40) (by omega) (by omega), nIc (i := i) (by omega), e1, within_iff, in_iff, all_eq, bz_0, bz_1, bzT, bzF, nem, bz_or, i64, Int32.reduceToInt, Int64.reduceToInt, and_true, true_and, and_self, not_true_eq_false, not_false_eq_true, false_implies, true_implies, eq_self, implies_true, false_and, and_false, Classical.not_not, Int.reduceLT, Int.reduceLE, Int.reduceEq, reduceIte, reduceCtorEq, and_imp, imp_false, false_or, or_false, true_or, or_true]
      rw [spn] at ih
      rcases hc i (by omega) with c | c
      · by_cases e : cellOf i = cell
        · rw [if_pos ⟨c, e⟩] at ih
          simp +decide only [c, e, within_iff, in_iff, all_eq, bz_0, bz_1, bzT, bzF, nem, bz_or, i64, Int32.reduceToInt, Int64.reduceToInt, and_true, true_and, and_self, not_true_eq_false, not_false_eq_true, false_implies, true_implies, eq_self, implies_true, false_and, and_false, Classical.not_not, Int.reduceLT, Int.reduceLE, Int.reduceEq, reduceIte, reduceCtorEq, and_imp, imp_false, false_or, or_false, true_or, or_true]
          exact ih
        · rw [if_neg (fun q => e q.2)] at ih
          simp +decide only [c, e, within_iff, in_iff, all_eq, bz_0, bz_1, bzT, bzF, nem, bz_or, i64, Int32.reduceToInt, Int64.reduceToInt, and_true, true_and, and_self, not_true_eq_false, not_false_eq_true, false_implies, true_implies, eq_self, implies_true, false_and, and_false, Classical.not_not, Int.reduceLT, Int.reduceLE, Int.reduceEq, reduceIte, reduceCtorEq, and_imp, imp_false, false_or, or_false, true_or, or_true]
          exact ih
      · rw [if_neg (fun q => by rw [c] at q; exact absurd q.1 (by decide))] at ih
        simp +decide only [c, within_iff, in_iff, all_eq, bz_0, bz_1, bzT, bzF, nem, bz_or, i64, Int32.reduceToInt, Int64.reduceToInt, and_true, true_and, and_self, not_true_eq_false, not_false_eq_true, false_implies, true_implies, eq_self, implies_true, false_and, and_false, Classical.not_not, Int.reduceLT, Int.reduceLE, Int.reduceEq, reduceIte, reduceCtorEq, and_imp, imp_false, false_or, or_false, true_or, or_true]
        exact ih
  exact key size.toInt.toNat 0 (by omega)
theorem cell_inj {h k h2 k2 : Int32} (a1 : 0 ≤ h.toInt ∧ h.toInt ≤ 4) (a2 : 0 ≤ k.toInt ∧ k.toInt ≤ 5) (b1 : 0 ≤ h2.toInt ∧ h2.toInt ≤ 4) (b2 : 0 ≤ k2.toInt ∧ k2.toInt ≤ 5) : h2 * 6 + k2 = h * 6 + k ↔ h2 = h ∧ k2 = k := by
  constructor
  · intro e
    have e1 := (cell_no a1 a2).1
    have e2 := (cell_no b1 b2).1
    rw [e] at e2
    exact ⟨(fa_eq _ _).mpr (by omega), (fa_eq _ _).mpr (by omega)⟩
  · rintro ⟨rfl, rfl⟩; rfl
section spanM
variable {kd_low kd_high : Nat → Int32} {kd_size : Int32} {wg_cellOf wg_fewest wg_most wg_counts : Nat → Int32} {wg_size m_weighings : Int32} {m_weighHouse m_weighKind m_weighLess m_weighMore m_isDropped : Nat → Int32} {m_kinds : Int32} {m_low m_high : Nat → Int32}
theorem laySpan_i {post : Int32 → Int32 → Int32 → Prop} {h k p3 sl sh : Int32} (hK : RK kd_low kd_high kd_size m_kinds m_low m_high) (hW : RW kd_low kd_high kd_size wg_cellOf wg_fewest wg_most wg_counts wg_size m_weighings m_weighHouse m_weighKind m_weighLess m_weighMore m_isDropped)
    (a1 : 0 ≤ h.toInt ∧ h.toInt ≤ 4) (a2 : 0 ≤ k.toInt ∧ k.toInt ≤ kd_size.toInt - 1) {n : Nat} (hn : (n : Int) ≤ wg_size.toInt) (e3 : p3.toInt = n)
    (hp : post (if (spn wg_cellOf wg_fewest wg_most wg_counts (h * 6 + k) n).2 < (spn wg_cellOf wg_fewest wg_most wg_counts (h * 6 + k) n).1 then 0 else 1) (spn wg_cellOf wg_fewest wg_most wg_counts (h * 6 + k) n).1 (spn wg_cellOf wg_fewest wg_most wg_counts (h * 6 + k) n).2) :
    P_X11_laySpan post h k p3 m_low m_high m_weighHouse m_weighKind m_weighLess m_weighMore m_isDropped sl sh := by
  obtain ⟨rfl, rfl, rfl, k0, k6, hk⟩ := hK
  obtain ⟨rfl, z0, z1, hj, hf⟩ := hW
  obtain ⟨q1, q2, q3⟩ := hk k.toNatClampNeg (by rw [cl]; omega)
  have vk : vp_in k 6 := vp_in_iff.mpr (by omega)
  have nl := ne0 q1
  have nh : ¬ m_high k.toNatClampNeg = 0 := ne0 (by omega)
  unfold P_X11_laySpan
  intro X hX
  have key : ∀ m i : Nat, i + m = n → X (nI i) (spn wg_cellOf wg_fewest wg_most wg_counts (h * 6 + k) i).1 (spn wg_cellOf wg_fewest wg_most wg_counts (h * 6 + k) i).2 := by
    intro m
    induction m with
    | zero =>
      intro i hi
      have e : i = n := by omega
      subst e
      apply hX
      have : (i : Int) ≤ i := Int.le_refl _
      simp +decide only [nIle (i := i) (by omega), e3, this, within_iff, in_iff, all_eq, bz_0, bz_1, bzT, bzF, nem, bz_or, i64, Int32.reduceToInt, Int64.reduceToInt, and_true, true_and, and_self, not_true_eq_false, not_false_eq_true, false_implies, true_implies, eq_self, implies_true, false_and, and_false, Classical.not_not, Int.reduceLT, Int.reduceLE, Int.reduceEq, reduceIte, reduceCtorEq, and_imp, imp_false, false_or, or_false, true_or, or_true]
      exact hp
    | succ m ih =>
      intro i hi
      have ih := ih (i + 1) (by omega)
      have hlt : ¬ (n : Int) ≤ (i : Int) := by omega
      have e1 : nI i + 1 = nI (i + 1) := nI_1 i
      obtain ⟨b1, b2, b3, b4, b5, b6, b7, b8⟩ := hj i (by omega)
      have hci := cell_inj a1 ⟨a2.1, by omega⟩ b1 ⟨b2.1, by omega⟩
      apply hX
      simp +decide only [nIle (i := i) (by omega), e3, hlt, nIv (i := i) (N := 40) (by omega) (by omega), nIc (i := i) (by omega), e1, within_iff, in_iff, all_eq, bz_0, bz_1, bzT, bzF, nem, bz_or, i64, Int32.reduceToInt, Int64.reduceToInt, and_true, true_and, and_self, not_true_eq_false, not_false_eq_true, false_implies, true_implies, eq_self, implies_true, false_and, and_false, Classical.not_not, Int.reduceLT, Int.reduceLE, Int.reduceEq, reduceIte, reduceCtorEq, and_imp, imp_false, false_or, or_false, true_or, or_true]
      rw [spn] at ih
      rcases b8 with ⟨c, dr⟩ | ⟨c, dr⟩
      · by_cases e : m_weighHouse i = h ∧ m_weighKind i = k
        · rw [if_pos ⟨c, by rw [b3]; exact hci.mpr e⟩] at ih
          obtain ⟨e4, e5⟩ := e
          have ek : (m_weighKind i).toInt.toNat = k.toNatClampNeg := by rw [e5]; rfl
          simp +decide only [dr, e4, e5, vk, nl, nh, within_iff, in_iff, all_eq, bz_0, bz_1, bzT, bzF, nem, bz_or, i64, Int32.reduceToInt, Int64.reduceToInt, and_true, true_and, and_self, not_true_eq_false, not_false_eq_true, false_implies, true_implies, eq_self, implies_true, false_and, and_false, Classical.not_not, Int.reduceLT, Int.reduceLE, Int.reduceEq, reduceIte, reduceCtorEq, and_imp, imp_false, false_or, or_false, true_or, or_true]
          have ev1 : (if 0 < m_weighLess i then (m_weighLess i + m_high k.toNatClampNeg - 1) / m_high k.toNatClampNeg else 0) = wg_fewest i := by
            rw [b4, ek]; unfold fRe
            by_cases q : m_weighLess i ≤ 0
            · rw [if_pos q, if_neg (by rw [fa_lt]; rw [fa_le] at q; omega)]
            · rw [if_neg q, if_pos (by rw [fa_lt]; rw [fa_le] at q; omega)]
          have ev2 : m_weighMore i / m_low k.toNatClampNeg = wg_most i := by rw [b5, ek]; rfl
          rw [ev1, ev2]
          have ex : ∀ a b : Int32, (if b ≤ a then a else b) = mxI a b := by
            intro a b; unfold mxI
            by_cases q : a < b
            · rw [if_pos q, if_neg (by rw [fa_le]; rw [fa_lt] at q; omega)]
            · rw [if_neg q, if_pos (by rw [fa_le]; rw [fa_lt] at q; omega)]
          have en : ∀ a b : Int32, (if a ≤ b then a else b) = mnI a b := by
            intro a b; unfold mnI
            by_cases q : b < a
            · rw [if_pos q, if_neg (by rw [fa_le]; rw [fa_lt] at q; omega)]
            · rw [if_neg q, if_pos (by rw [fa_le]; rw [fa_lt] at q; omega)]
          rw [ex, en]
          exact ih
        · rw [if_neg (fun q => e (hci.mp (by rw [← b3]; exact q.2)))] at ih
          by_cases e4 : m_weighHouse i = h
          · have e5 : ¬ m_weighKind i = k := fun q => e ⟨e4, q⟩
            simp +decide only [dr, e4, e5, within_iff, in_iff, all_eq, bz_0, bz_1, bzT, bzF, nem, bz_or, i64, Int32.reduceToInt, Int64.reduceToInt, and_true, true_and, and_self, not_true_eq_false, not_false_eq_true, false_implies, true_implies, eq_self, implies_true, false_and, and_false, Classical.not_not, Int.reduceLT, Int.reduceLE, Int.reduceEq, reduceIte, reduceCtorEq, and_imp, imp_false, false_or, or_false, true_or, or_true]
            exact ih
          · simp +decide only [dr, e4, within_iff, in_iff, all_eq, bz_0, bz_1, bzT, bzF, nem, bz_or, i64, Int32.reduceToInt, Int64.reduceToInt, and_true, true_and, and_self, not_true_eq_false, not_false_eq_true, false_implies, true_implies, eq_self, implies_true, false_and, and_false, Classical.not_not, Int.reduceLT, Int.reduceLE, Int.reduceEq, reduceIte, reduceCtorEq, and_imp, imp_false, false_or, or_false, true_or, or_true]
            exact ih
      · rw [if_neg (fun q => by rw [c] at q; exact absurd q.1 (by decide))] at ih
        simp +decide only [dr, within_iff, in_iff, all_eq, bz_0, bz_1, bzT, bzF, nem, bz_or, i64, Int32.reduceToInt, Int64.reduceToInt, and_true, true_and, and_self, not_true_eq_false, not_false_eq_true, false_implies, true_implies, eq_self, implies_true, false_and, and_false, Classical.not_not, Int.reduceLT, Int.reduceLE, Int.reduceEq, reduceIte, reduceCtorEq, and_imp, imp_false, false_or, or_false, true_or, or_true]
        exact ih
  exact key n 0 (by omega)
theorem hcnt (hW : RW kd_low kd_high kd_size wg_cellOf wg_fewest wg_most wg_counts wg_size m_weighings m_weighHouse m_weighKind m_weighLess m_weighMore m_isDropped) : ∀ j : Nat, (j : Int) < wg_size.toInt → wg_counts j = 1 ∨ wg_counts j = 0 := by
  intro j hj
  obtain ⟨-, -, -, h, -⟩ := hW
  rcases (h j hj).2.2.2.2.2.2.2 with q | q
  · exact Or.inl q.1
  · exact Or.inr q.1
theorem nlt_le {a b : Int32} : ¬ b < a ↔ a ≤ b := by rw [fa_lt, fa_le]; omega
theorem eq_sure {C : Int32 → Int32 → Prop} {sl sh : Int32} (hK : RK kd_low kd_high kd_size m_kinds m_low m_high) (hW : RW kd_low kd_high kd_size wg_cellOf wg_fewest wg_most wg_counts wg_size m_weighings m_weighHouse m_weighKind m_weighLess m_weighMore m_isDropped) (hC : ∀ a b, C a b) (p1 p2 p3 : Int32) :
    P_X10_sure (fun r => P_X11_sure (fun r2 a b => ((r = r2 → C a b) ∧ (¬ r = r2 → False))) p1 p2 p3 m_kinds m_low m_high m_weighings m_weighHouse m_weighKind m_weighLess m_weighMore m_isDropped sl sh) p1 p2 p3 kd_size wg_cellOf wg_fewest wg_most wg_counts wg_size := by
  have hK0 := hK
  have hW0 := hW
  have hcn := hcnt hW
  obtain ⟨rfl, rfl, rfl, k0, k6, hk⟩ := hK
  obtain ⟨rfl, z0, z1, hj, hf⟩ := hW
  have hm : -2147483648 < m_kinds.toInt := by omega
  by_cases h1 : 0 ≤ p1.toInt ∧ p1.toInt ≤ 4
  · by_cases h2 : 0 ≤ p2.toInt ∧ p2.toInt ≤ m_kinds.toInt - 1
    · simp +decide only [P_X10_sure, cell_iff _ _ _ _ hm, h1, h2, P_X10_cell, within_iff, in_iff, all_eq, bz_0, bz_1, bzT, bzF, nem, bz_or, i64, Int32.reduceToInt, Int64.reduceToInt, and_true, true_and, and_self, not_true_eq_false, not_false_eq_true, false_implies, true_implies, eq_self, implies_true, false_and, and_false, Classical.not_not, Int.reduceLT, Int.reduceLE, Int.reduceEq, reduceIte, reduceCtorEq, and_imp, imp_false, false_or, or_false, true_or, or_true]
      refine edge_i z0 z1 hcn ?_
      simp +decide only [P_X11_sure, house_iff, isKind_iff _ _ _ hm, h1, h2, within_iff, in_iff, all_eq, bz_0, bz_1, bzT, bzF, nem, bz_or, i64, Int32.reduceToInt, Int64.reduceToInt, and_true, true_and, and_self, not_true_eq_false, not_false_eq_true, false_implies, true_implies, eq_self, implies_true, false_and, and_false, Classical.not_not, Int.reduceLT, Int.reduceLE, Int.reduceEq, reduceIte, reduceCtorEq, and_imp, imp_false, false_or, or_false, true_or, or_true]
      refine laySpan_i hK0 hW0 h1 h2 (n := m_weighings.toInt.toNat) (by omega) (by omega) ?_
      by_cases q : (spn wg_cellOf wg_fewest wg_most wg_counts (p1 * 6 + p2) m_weighings.toInt.toNat).1 ≤ (spn wg_cellOf wg_fewest wg_most wg_counts (p1 * 6 + p2) m_weighings.toInt.toNat).2
      · have q2 := nlt_le.mpr q
        simp +decide only [q, q2, within_iff, in_iff, all_eq, bz_0, bz_1, bzT, bzF, nem, bz_or, i64, Int32.reduceToInt, Int64.reduceToInt, and_true, true_and, and_self, not_true_eq_false, not_false_eq_true, false_implies, true_implies, eq_self, implies_true, false_and, and_false, Classical.not_not, Int.reduceLT, Int.reduceLE, Int.reduceEq, reduceIte, reduceCtorEq, and_imp, imp_false, false_or, or_false, true_or, or_true]
        exact hC _ _
      · have q2 := Classical.not_not.mp (fun z => q (nlt_le.mp z))
        simp +decide only [q, q2, within_iff, in_iff, all_eq, bz_0, bz_1, bzT, bzF, nem, bz_or, i64, Int32.reduceToInt, Int64.reduceToInt, and_true, true_and, and_self, not_true_eq_false, not_false_eq_true, false_implies, true_implies, eq_self, implies_true, false_and, and_false, Classical.not_not, Int.reduceLT, Int.reduceLE, Int.reduceEq, reduceIte, reduceCtorEq, and_imp, imp_false, false_or, or_false, true_or, or_true]
        exact hC _ _
    · simp +decide only [P_X10_sure, P_X11_sure, cell_iff _ _ _ _ hm, house_iff, isKind_iff _ _ _ hm, h1, h2, within_iff, in_iff, all_eq, bz_0, bz_1, bzT, bzF, nem, bz_or, i64, Int32.reduceToInt, Int64.reduceToInt, and_true, true_and, and_self, not_true_eq_false, not_false_eq_true, false_implies, true_implies, eq_self, implies_true, false_and, and_false, Classical.not_not, Int.reduceLT, Int.reduceLE, Int.reduceEq, reduceIte, reduceCtorEq, and_imp, imp_false, false_or, or_false, true_or, or_true]
      exact hC _ _
  · simp +decide only [P_X10_sure, P_X11_sure, cell_iff _ _ _ _ hm, house_iff, isKind_iff _ _ _ hm, h1, within_iff, in_iff, all_eq, bz_0, bz_1, bzT, bzF, nem, bz_or, i64, Int32.reduceToInt, Int64.reduceToInt, and_true, true_and, and_self, not_true_eq_false, not_false_eq_true, false_implies, true_implies, eq_self, implies_true, false_and, and_false, Classical.not_not, Int.reduceLT, Int.reduceLE, Int.reduceEq, reduceIte, reduceCtorEq, and_imp, imp_false, false_or, or_false, true_or, or_true]
    exact hC _ _
end spanM
