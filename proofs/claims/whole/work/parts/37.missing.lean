section missM
variable {kd_low kd_high : Nat → Int32} {kd_size : Int32} {wg_cellOf wg_fewest wg_most wg_counts : Nat → Int32} {wg_size m_weighings : Int32} {m_weighHouse m_weighKind m_weighLess m_weighMore m_isDropped : Nat → Int32} {m_kinds : Int32} {m_low m_high : Nat → Int32} {st_booked st_parted m_book m_ledger : Nat → Int32}
/-- the first WEIGHING behind i, of m, that nothing is SURE with -/
def fstQ (S : Nat → Int32 × Int32) : Nat → Nat → Int32
  | 0, _ => -9
  | m + 1, i => if (S (i + 1)).1 ≤ (S (i + 1)).2 then fstQ S m (i + 1) else nI i
theorem firstAgainst_i {post : Int32 → Prop} {cell : Int32} {cellOf fewest most counts : Nat → Int32} {size : Int32} (h0 : 0 ≤ size.toInt) (h40 : size.toInt ≤ 40) (hc : ∀ j : Nat, (j : Int) < size.toInt → counts j = 1 ∨ counts j = 0)
    (h : post (fstQ (spn cellOf fewest most counts cell) size.toInt.toNat 0)) : P_X9_firstAgainst post cell cellOf fewest most counts size := by
  unfold P_X9_firstAgainst
  intro X hX
  have key : ∀ m i : Nat, i + m = size.toInt.toNat → (spn cellOf fewest most counts cell i).1 ≤ (spn cellOf fewest most counts cell i).2 → post (fstQ (spn cellOf fewest most counts cell) m i) → X (spn cellOf fewest most counts cell i).1 (spn cellOf fewest most counts cell i).2 (nI i) := by
    intro m
    induction m with
    | zero =>
      intro i hi _ hp
      apply hX
      have : size.toInt ≤ (i : Int) := by omega
      simp +decide only [nIle (i := i) (by omega), this, within_iff, in_iff, all_eq, bz_0, bz_1, bzT, bzF, nem, bz_or, i64, Int32.reduceToInt, Int64.reduceToInt, and_true, true_and, and_self, not_true_eq_false, not_false_eq_true, false_implies, true_implies, eq_self, implies_true, false_and, and_false, Classical.not_not, Int.reduceLT, Int.reduceLE, Int.reduceEq, reduceIte, reduceCtorEq, and_imp, imp_false, false_or, or_false, true_or, or_true]
      exact hp
    | succ m ih =>
      intro i hi hs hp
      have ih := ih (i + 1) (by omega)
      have hlt : ¬ size.toInt ≤ (i : Int) := by omega
      have e1 : nI i + 1 = nI (i + 1) := nI_1 i
      rw [fstQ] at hp
      apply hX
      simp +decide only [P_X9_speaksOf, nIle (i := i) (by omega), hlt, nIv (i := i) (N := 40) (by omega) (by omega), nIc (i := i) (by omega), e1, within_iff, in_iff, all_eq, bz_0, bz_1, bzT, bzF, nem, bz_or, i64, Int32.reduceToInt, Int64.reduceToInt, and_true, true_and, and_self, not_true_eq_false, not_false_eq_true, false_implies, true_implies, eq_self, implies_true, false_and, and_false, Classical.not_not, Int.reduceLT, Int.reduceLE, Int.reduceEq, reduceIte, reduceCtorEq, and_imp, imp_false, false_or, or_false, true_or, or_true]
      rcases hc i (by omega) with c | c
      · by_cases e : cellOf i = cell
        · have es : spn cellOf fewest most counts cell (i + 1) = (mxI (spn cellOf fewest most counts cell i).1 (fewest i), mnI (spn cellOf fewest most counts cell i).2 (most i)) := by rw [spn, if_pos ⟨c, e⟩]
          rw [es] at ih hp
          dsimp only at ih hp
          simp +decide only [c, e, within_iff, in_iff, all_eq, bz_0, bz_1, bzT, bzF, nem, bz_or, i64, Int32.reduceToInt, Int64.reduceToInt, and_true, true_and, and_self, not_true_eq_false, not_false_eq_true, false_implies, true_implies, eq_self, implies_true, false_and, and_false, Classical.not_not, Int.reduceLT, Int.reduceLE, Int.reduceEq, reduceIte, reduceCtorEq, and_imp, imp_false, false_or, or_false, true_or, or_true]
          refine ⟨fun q => ?_, fun q => ?_⟩
          · have q2 : mxI (spn cellOf fewest most counts cell i).1 (fewest i) ≤ mnI (spn cellOf fewest most counts cell i).2 (most i) := q
            exact ih q2 (by rw [if_pos q2] at hp; exact hp)
          · have q2 : ¬ mxI (spn cellOf fewest most counts cell i).1 (fewest i) ≤ mnI (spn cellOf fewest most counts cell i).2 (most i) := q
            rw [if_neg q2] at hp; exact hp
        · have es : spn cellOf fewest most counts cell (i + 1) = spn cellOf fewest most counts cell i := by rw [spn, if_neg (fun q => e q.2)]
          rw [es] at ih hp
          simp +decide only [c, e, within_iff, in_iff, all_eq, bz_0, bz_1, bzT, bzF, nem, bz_or, i64, Int32.reduceToInt, Int64.reduceToInt, and_true, true_and, and_self, not_true_eq_false, not_false_eq_true, false_implies, true_implies, eq_self, implies_true, false_and, and_false, Classical.not_not, Int.reduceLT, Int.reduceLE, Int.reduceEq, reduceIte, reduceCtorEq, and_imp, imp_false, false_or, or_false, true_or, or_true]
          exact ih hs (by rw [if_pos hs] at hp; exact hp)
      · have nq : ¬ (counts i = 1 ∧ cellOf i = cell) := fun q => by rw [c] at q; exact absurd q.1 (by decide)
        have es : spn cellOf fewest most counts cell (i + 1) = spn cellOf fewest most counts cell i := by rw [spn, if_neg nq]
        rw [es] at ih hp
        simp +decide only [c, within_iff, in_iff, all_eq, bz_0, bz_1, bzT, bzF, nem, bz_or, i64, Int32.reduceToInt, Int64.reduceToInt, and_true, true_and, and_self, not_true_eq_false, not_false_eq_true, false_implies, true_implies, eq_self, implies_true, false_and, and_false, Classical.not_not, Int.reduceLT, Int.reduceLE, Int.reduceEq, reduceIte, reduceCtorEq, and_imp, imp_false, false_or, or_false, true_or, or_true]
        exact ih hs (by rw [if_pos hs] at hp; exact hp)
  exact key size.toInt.toNat 0 (by omega) (by show (0 : Int32) ≤ 2000; decide) h
theorem eq_quarrel {C : Int32 → Int32 → Prop} {sl sh : Int32} (hK : RK kd_low kd_high kd_size m_kinds m_low m_high) (hW : RW kd_low kd_high kd_size wg_cellOf wg_fewest wg_most wg_counts wg_size m_weighings m_weighHouse m_weighKind m_weighLess m_weighMore m_isDropped) (hC : ∀ a b, C a b) (p1 p2 : Int32) :
    P_X10_quarrel (fun r => P_X11_quarrel (fun r2 a b => ((r = r2 → C a b) ∧ (¬ r = r2 → False))) p1 p2 m_kinds m_low m_high m_weighings m_weighHouse m_weighKind m_weighLess m_weighMore m_isDropped sl sh) p1 p2 kd_size wg_cellOf wg_fewest wg_most wg_counts wg_size := by
  have hK0 := hK
  have hW0 := hW
  have hcn := hcnt hW
  obtain ⟨rfl, rfl, rfl, k0, k6, hk⟩ := hK
  obtain ⟨rfl, z0, z1, hj, hf⟩ := hW
  have hm : -2147483648 < m_kinds.toInt := by omega
  by_cases h1 : 0 ≤ p1.toInt ∧ p1.toInt ≤ 4
  · by_cases h2 : 0 ≤ p2.toInt ∧ p2.toInt ≤ m_kinds.toInt - 1
    · simp +decide only [P_X10_quarrel, cell_iff _ _ _ _ hm, h1, h2, P_X10_cell, within_iff, in_iff, all_eq, bz_0, bz_1, bzT, bzF, nem, bz_or, i64, Int32.reduceToInt, Int64.reduceToInt, and_true, true_and, and_self, not_true_eq_false, not_false_eq_true, false_implies, true_implies, eq_self, implies_true, false_and, and_false, Classical.not_not, Int.reduceLT, Int.reduceLE, Int.reduceEq, reduceIte, reduceCtorEq, and_imp, imp_false, false_or, or_false, true_or, or_true]
      refine firstAgainst_i z0 z1 hcn ?_
      generalize hr : fstQ (spn wg_cellOf wg_fewest wg_most wg_counts (p1 * 6 + p2)) m_weighings.toInt.toNat 0 = r
      unfold P_X11_quarrel
      intro X hX
      simp +decide only [house_iff, isKind_iff _ _ _ hm, h1, h2, within_iff, in_iff, all_eq, bz_0, bz_1, bzT, bzF, nem, bz_or, i64, Int32.reduceToInt, Int64.reduceToInt, and_true, true_and, and_self, not_true_eq_false, not_false_eq_true, false_implies, true_implies, eq_self, implies_true, false_and, and_false, Classical.not_not, Int.reduceLT, Int.reduceLE, Int.reduceEq, reduceIte, reduceCtorEq, and_imp, imp_false, false_or, or_false, true_or, or_true]
      have key : ∀ m i : Nat, i + m = m_weighings.toInt.toNat → fstQ (spn wg_cellOf wg_fewest wg_most wg_counts (p1 * 6 + p2)) m i = r → ∀ a b, X (nI i) a b := by
        intro m
        induction m with
        | zero =>
          intro i hi hp a b
          apply hX
          have : m_weighings.toInt ≤ (i : Int) := by omega
          have hp2 : r = -9 := hp.symm
          simp +decide only [nIle (i := i) (by omega), this, hp2, within_iff, in_iff, all_eq, bz_0, bz_1, bzT, bzF, nem, bz_or, i64, Int32.reduceToInt, Int64.reduceToInt, and_true, true_and, and_self, not_true_eq_false, not_false_eq_true, false_implies, true_implies, eq_self, implies_true, false_and, and_false, Classical.not_not, Int.reduceLT, Int.reduceLE, Int.reduceEq, reduceIte, reduceCtorEq, and_imp, imp_false, false_or, or_false, true_or, or_true]
          exact hC _ _
        | succ m ih =>
          intro i hi hp a b
          have hlt : ¬ m_weighings.toInt ≤ (i : Int) := by omega
          have e1 : nI i + 1 = nI (i + 1) := nI_1 i
          apply hX
          simp +decide only [nIle (i := i) (by omega), hlt, e1, within_iff, in_iff, all_eq, bz_0, bz_1, bzT, bzF, nem, bz_or, i64, Int32.reduceToInt, Int64.reduceToInt, and_true, true_and, and_self, not_true_eq_false, not_false_eq_true, false_implies, true_implies, eq_self, implies_true, false_and, and_false, Classical.not_not, Int.reduceLT, Int.reduceLE, Int.reduceEq, reduceIte, reduceCtorEq, and_imp, imp_false, false_or, or_false, true_or, or_true]
          refine laySpan_i hK0 hW0 h1 h2 (n := i + 1) (by omega) (nI_toInt (by omega)) ?_
          rw [fstQ] at hp
          by_cases q : (spn wg_cellOf wg_fewest wg_most wg_counts (p1 * 6 + p2) (i + 1)).1 ≤ (spn wg_cellOf wg_fewest wg_most wg_counts (p1 * 6 + p2) (i + 1)).2
          · have q2 := nlt_le.mpr q
            rw [if_pos q] at hp
            simp +decide only [q2, within_iff, in_iff, all_eq, bz_0, bz_1, bzT, bzF, nem, bz_or, i64, Int32.reduceToInt, Int64.reduceToInt, and_true, true_and, and_self, not_true_eq_false, not_false_eq_true, false_implies, true_implies, eq_self, implies_true, false_and, and_false, Classical.not_not, Int.reduceLT, Int.reduceLE, Int.reduceEq, reduceIte, reduceCtorEq, and_imp, imp_false, false_or, or_false, true_or, or_true]
            exact ih (i + 1) (by omega) hp _ _
          · have q2 := Classical.not_not.mp (fun z => q (nlt_le.mp z))
            rw [if_neg q] at hp
            simp +decide only [q2, hp, within_iff, in_iff, all_eq, bz_0, bz_1, bzT, bzF, nem, bz_or, i64, Int32.reduceToInt, Int64.reduceToInt, and_true, true_and, and_self, not_true_eq_false, not_false_eq_true, false_implies, true_implies, eq_self, implies_true, false_and, and_false, Classical.not_not, Int.reduceLT, Int.reduceLE, Int.reduceEq, reduceIte, reduceCtorEq, and_imp, imp_false, false_or, or_false, true_or, or_true]
            exact hC _ _
      exact key m_weighings.toInt.toNat 0 (by omega) hr _ _
    · simp +decide only [P_X10_quarrel, cell_iff _ _ _ _ hm, h1, h2, within_iff, in_iff, all_eq, bz_0, bz_1, bzT, bzF, nem, bz_or, i64, Int32.reduceToInt, Int64.reduceToInt, and_true, true_and, and_self, not_true_eq_false, not_false_eq_true, false_implies, true_implies, eq_self, implies_true, false_and, and_false, Classical.not_not, Int.reduceLT, Int.reduceLE, Int.reduceEq, reduceIte, reduceCtorEq, and_imp, imp_false, false_or, or_false, true_or, or_true]
      unfold P_X11_quarrel
      intro X hX
      simp +decide only [house_iff, isKind_iff _ _ _ hm, h1, h2, within_iff, in_iff, all_eq, bz_0, bz_1, bzT, bzF, nem, bz_or, i64, Int32.reduceToInt, Int64.reduceToInt, and_true, true_and, and_self, not_true_eq_false, not_false_eq_true, false_implies, true_implies, eq_self, implies_true, false_and, and_false, Classical.not_not, Int.reduceLT, Int.reduceLE, Int.reduceEq, reduceIte, reduceCtorEq, and_imp, imp_false, false_or, or_false, true_or, or_true]
      exact hC _ _
  · simp +decide only [P_X10_quarrel, cell_iff _ _ _ _ hm, h1, within_iff, in_iff, all_eq, bz_0, bz_1, bzT, bzF, nem, bz_or, i64, Int32.reduceToInt, Int64.reduceToInt, and_true, true_and, and_self, not_true_eq_false, not_false_eq_true, false_implies, true_implies, eq_self, implies_true, false_and, and_false, Classical.not_not, Int.reduceLT, Int.reduceLE, Int.reduceEq, reduceIte, reduceCtorEq, and_imp, imp_false, false_or, or_false, true_or, or_true]
    unfold P_X11_quarrel
    intro X hX
    simp +decide only [house_iff, isKind_iff _ _ _ hm, h1, within_iff, in_iff, all_eq, bz_0, bz_1, bzT, bzF, nem, bz_or, i64, Int32.reduceToInt, Int64.reduceToInt, and_true, true_and, and_self, not_true_eq_false, not_false_eq_true, false_implies, true_implies, eq_self, implies_true, false_and, and_false, Classical.not_not, Int.reduceLT, Int.reduceLE, Int.reduceEq, reduceIte, reduceCtorEq, and_imp, imp_false, false_or, or_false, true_or, or_true]
    exact hC _ _
/-- LOST of a cell -/
def lostF (booked parted : Nat → Int32) (n : Nat) : Int32 := booked n - parted (3 * n) - parted (3 * n + 1) - parted (3 * n + 2)
theorem lost_i {post : Int32 → Prop} {c : Int32} {booked parted : Nat → Int32} (h : 0 ≤ c.toInt ∧ c.toInt ≤ 29) (hp : post (lostF booked parted c.toInt.toNat)) : P_X8_lost post c booked parted := by
  unfold P_X8_lost
  intro X hX
  have v0 : vp_in c 30 := vp_in_iff.mpr (by omega)
  have e3 : (3 : Int32).toInt = 3 := by decide
  have a1 : (c * 3).toInt = c.toInt * 3 := by rw [mul_c (by omega) (by omega) (by decide) (by decide), e3]
  have lev : ∀ (x : Int32) (i : Nat), x.toInt = i → i ≤ 2 → vp_in (c * 3 + x) 90 ∧ (c * 3 + x).toNatClampNeg = 3 * c.toInt.toNat + i ∧ ¬ (3 : Int32) ≤ x := by
    intro x i hx hi
    have e : (c * 3 + x).toInt = c.toInt * 3 + i := by rw [fb_addI (by omega) (by omega), a1, hx]
    exact ⟨vp_in_iff.mpr (by omega), by rw [cl]; omega, by rw [fa_le, e3]; omega⟩
  obtain ⟨b0, d0, f0⟩ := lev 0 0 (by decide) (by omega)
  obtain ⟨b1, d1, f1⟩ := lev 1 1 (by decide) (by omega)
  obtain ⟨b2, d2, f2⟩ := lev 2 2 (by decide) (by omega)
  have l3 : ∀ x, post x → X x 3 := fun x h => hX x 3 ⟨fun _ => h, fun q => absurd (by decide) q⟩
  have s0 : (0 : Int32) + 1 = 1 := by decide
  have s1 : (1 : Int32) + 1 = 2 := by decide
  have s2 : (2 : Int32) + 1 = 3 := by decide
  simp +decide only [v0, within_iff, in_iff, all_eq, bz_0, bz_1, bzT, bzF, nem, bz_or, i64, Int32.reduceToInt, Int64.reduceToInt, and_true, true_and, and_self, not_true_eq_false, not_false_eq_true, false_implies, true_implies, eq_self, implies_true, false_and, and_false, Classical.not_not, Int.reduceLT, Int.reduceLE, Int.reduceEq, reduceIte, reduceCtorEq, and_imp, imp_false, false_or, or_false, true_or, or_true]
  apply hX
  simp +decide only [f0, b0, d0, s0, within_iff, in_iff, all_eq, bz_0, bz_1, bzT, bzF, nem, bz_or, i64, Int32.reduceToInt, Int64.reduceToInt, and_true, true_and, and_self, not_true_eq_false, not_false_eq_true, false_implies, true_implies, eq_self, implies_true, false_and, and_false, Classical.not_not, Int.reduceLT, Int.reduceLE, Int.reduceEq, reduceIte, reduceCtorEq, and_imp, imp_false, false_or, or_false, true_or, or_true]
  apply hX
  simp +decide only [f1, b1, d1, s1, within_iff, in_iff, all_eq, bz_0, bz_1, bzT, bzF, nem, bz_or, i64, Int32.reduceToInt, Int64.reduceToInt, and_true, true_and, and_self, not_true_eq_false, not_false_eq_true, false_implies, true_implies, eq_self, implies_true, false_and, and_false, Classical.not_not, Int.reduceLT, Int.reduceLE, Int.reduceEq, reduceIte, reduceCtorEq, and_imp, imp_false, false_or, or_false, true_or, or_true]
  apply hX
  simp +decide only [f2, b2, d2, s2, within_iff, in_iff, all_eq, bz_0, bz_1, bzT, bzF, nem, bz_or, i64, Int32.reduceToInt, Int64.reduceToInt, and_true, true_and, and_self, not_true_eq_false, not_false_eq_true, false_implies, true_implies, eq_self, implies_true, false_and, and_false, Classical.not_not, Int.reduceLT, Int.reduceLE, Int.reduceEq, reduceIte, reduceCtorEq, and_imp, imp_false, false_or, or_false, true_or, or_true]
  exact l3 _ hp
/-- what is missing of a cell, where something is SURE -/
def misF (booked parted : Nat → Int32) (n : Nat) (there : Int32) : Int32 := if 0 < lostF booked parted n - there then lostF booked parted n - there else 0
theorem missingOf_i {post : Int32 → Prop} {h k p3 sl sh : Int32} {booked parted : Nat → Int32} (a1 : 0 ≤ h.toInt ∧ h.toInt ≤ 4) (a2 : 0 ≤ k.toInt ∧ k.toInt ≤ 5) (hp : post (misF booked parted (h * 6 + k).toInt.toNat (if p3 = 0 then sh else sl))) : P_X11_missingOf post h k p3 booked parted sl sh := by
  obtain ⟨c1, c2⟩ := cell_no a1 a2
  have g0 := part_no (w := 0) a1 a2 (by decide)
  have g1 := part_no (w := 1) a1 a2 (by decide)
  have g2 := part_no (w := 2) a1 a2 (by decide)
  have z0 : (0 : Int32).toInt = 0 := by decide
  have z1 : (1 : Int32).toInt = 1 := by decide
  have z2 : (2 : Int32).toInt = 2 := by decide
  have ea : ∀ x : Int32, x + 0 = x := fun x => Int32.add_zero x
  rw [ea, ea] at g0
  have v0 : vp_in (18 * h + 3 * k) 90 := by rw [← g0.2]; exact vp_in_iff.mpr (by omega)
  have v1 : vp_in (18 * h + 3 * k + 1) 90 := by rw [← g1.2]; exact vp_in_iff.mpr (by omega)
  have v2 : vp_in (18 * h + 3 * k + 2) 90 := by rw [← g2.2]; exact vp_in_iff.mpr (by omega)
  have v3 : vp_in (6 * h + k) 30 := by rw [← c2]; exact vp_in_iff.mpr (by omega)
  have n0 : (18 * h + 3 * k).toNatClampNeg = 3 * (h * 6 + k).toInt.toNat := by rw [← g0.2, cl]; omega
  have n1 : (18 * h + 3 * k + 1).toNatClampNeg = 3 * (h * 6 + k).toInt.toNat + 1 := by rw [← g1.2, cl]; omega
  have n2 : (18 * h + 3 * k + 2).toNatClampNeg = 3 * (h * 6 + k).toInt.toNat + 2 := by rw [← g2.2, cl]; omega
  have n3 : (6 * h + k).toNatClampNeg = (h * 6 + k).toInt.toNat := by rw [← c2, cl]
  have em : ∀ x : Int32, (if 0 ≤ x then x else 0) = (if 0 < x then x else 0) := by
    intro x
    by_cases q : 0 < x
    · rw [if_pos q, if_pos (by rw [fa_le]; rw [fa_lt] at q; omega)]
    · rw [if_neg q]; split
      · rename_i q2; rw [fa_eq]; rw [fa_le] at q2; rw [fa_lt] at q; omega
      · rfl
  simp +decide only [P_X11_missingOf, v0, v1, v2, v3, n0, n1, n2, n3, em, within_iff, in_iff, all_eq, bz_0, bz_1, bzT, bzF, nem, bz_or, i64, Int32.reduceToInt, Int64.reduceToInt, and_true, true_and, and_self, not_true_eq_false, not_false_eq_true, false_implies, true_implies, eq_self, implies_true, false_and, and_false, Classical.not_not, Int.reduceLT, Int.reduceLE, Int.reduceEq, reduceIte, reduceCtorEq, and_imp, imp_false, false_or, or_false, true_or, or_true]
  exact hp
theorem mis_nn (booked parted : Nat → Int32) (n : Nat) (t : Int32) : 0 ≤ (misF booked parted n t).toInt := by
  unfold misF; split
  · rename_i h; rw [fa_lt] at h; have : (0 : Int32).toInt = 0 := by decide
    omega
  · decide
theorem missingIn_i {post : Int32 → Prop} {c p2 : Int32} {cellOf fewest most counts booked parted : Nat → Int32} {size : Int32} (h0 : 0 ≤ size.toInt) (h40 : size.toInt ≤ 40) (hc : ∀ j : Nat, (j : Int) < size.toInt → counts j = 1 ∨ counts j = 0) (hcell : 0 ≤ c.toInt ∧ c.toInt ≤ 29)
    (hp : post (if (spn cellOf fewest most counts c size.toInt.toNat).1 ≤ (spn cellOf fewest most counts c size.toInt.toNat).2 then misF booked parted c.toInt.toNat (if p2 = 0 then (spn cellOf fewest most counts c size.toInt.toNat).2 else (spn cellOf fewest most counts c size.toInt.toNat).1) else -9)) : P_X10_missingIn post c p2 booked parted cellOf fewest most counts size := by
  have nn := spn_nn cellOf fewest most counts c size.toInt.toNat
  simp +decide only [P_X10_missingIn, within_iff, in_iff, all_eq, bz_0, bz_1, bzT, bzF, nem, bz_or, i64, Int32.reduceToInt, Int64.reduceToInt, and_true, true_and, and_self, not_true_eq_false, not_false_eq_true, false_implies, true_implies, eq_self, implies_true, false_and, and_false, Classical.not_not, Int.reduceLT, Int.reduceLE, Int.reduceEq, reduceIte, reduceCtorEq, and_imp, imp_false, false_or, or_false, true_or, or_true]
  refine edge_i h0 h40 hc ?_
  by_cases q : (spn cellOf fewest most counts c size.toInt.toNat).1 ≤ (spn cellOf fewest most counts c size.toInt.toNat).2
  · rw [if_pos q] at hp
    have q' := (fa_le _ _).mp q
    have m9 : (-9 : Int32).toInt = -9 := by decide
    have ne1 : ¬ (spn cellOf fewest most counts c size.toInt.toNat).1 = -9 := fun e => by rw [e] at nn; omega
    have ne2 : ¬ (spn cellOf fewest most counts c size.toInt.toNat).2 = -9 := fun e => by rw [e] at q'; omega
    by_cases e2 : p2 = 0
    · simp +decide only [q, e2, ne2, within_iff, in_iff, all_eq, bz_0, bz_1, bzT, bzF, nem, bz_or, i64, Int32.reduceToInt, Int64.reduceToInt, and_true, true_and, and_self, not_true_eq_false, not_false_eq_true, false_implies, true_implies, eq_self, implies_true, false_and, and_false, Classical.not_not, Int.reduceLT, Int.reduceLE, Int.reduceEq, reduceIte, reduceCtorEq, and_imp, imp_false, false_or, or_false, true_or, or_true]
      refine lost_i hcell ?_
      rw [if_pos e2] at hp
      exact hp
    · simp +decide only [q, e2, ne1, within_iff, in_iff, all_eq, bz_0, bz_1, bzT, bzF, nem, bz_or, i64, Int32.reduceToInt, Int64.reduceToInt, and_true, true_and, and_self, not_true_eq_false, not_false_eq_true, false_implies, true_implies, eq_self, implies_true, false_and, and_false, Classical.not_not, Int.reduceLT, Int.reduceLE, Int.reduceEq, reduceIte, reduceCtorEq, and_imp, imp_false, false_or, or_false, true_or, or_true]
      refine lost_i hcell ?_
      rw [if_neg e2] at hp
      exact hp
  · rw [if_neg q] at hp
    simp +decide only [q, within_iff, in_iff, all_eq, bz_0, bz_1, bzT, bzF, nem, bz_or, i64, Int32.reduceToInt, Int64.reduceToInt, and_true, true_and, and_self, not_true_eq_false, not_false_eq_true, false_implies, true_implies, eq_self, implies_true, false_and, and_false, Classical.not_not, Int.reduceLT, Int.reduceLE, Int.reduceEq, reduceIte, reduceCtorEq, and_imp, imp_false, false_or, or_false, true_or, or_true]
    exact hp
theorem eq_missing {C : Int32 → Int32 → Prop} {sl sh : Int32} (hK : RK kd_low kd_high kd_size m_kinds m_low m_high) (hB : RB st_booked st_parted m_book m_ledger) (hW : RW kd_low kd_high kd_size wg_cellOf wg_fewest wg_most wg_counts wg_size m_weighings m_weighHouse m_weighKind m_weighLess m_weighMore m_isDropped) (hC : ∀ a b, C a b) (p1 p2 p3 : Int32) :
    P_X10_missing (fun r => P_X11_missing (fun r2 a b => ((r = r2 → C a b) ∧ (¬ r = r2 → False))) p1 p2 p3 m_kinds m_low m_high m_book m_ledger m_weighings m_weighHouse m_weighKind m_weighLess m_weighMore m_isDropped sl sh) p1 p2 p3 kd_size st_booked st_parted wg_cellOf wg_fewest wg_most wg_counts wg_size := by
  have hK0 := hK
  have hW0 := hW
  have hcn := hcnt hW
  obtain ⟨rfl, rfl, rfl, k0, k6, hk⟩ := hK
  obtain ⟨rfl, z0, z1, hj, hf⟩ := hW
  obtain ⟨rfl, rfl, -, -⟩ := hB
  have hm : -2147483648 < m_kinds.toInt := by omega
  by_cases h1 : 0 ≤ p1.toInt ∧ p1.toInt ≤ 4
  · by_cases h2 : 0 ≤ p2.toInt ∧ p2.toInt ≤ m_kinds.toInt - 1
    · obtain ⟨c1, -⟩ := cell_no h1 ⟨h2.1, by omega⟩
      simp +decide only [P_X10_missing, cell_iff _ _ _ _ hm, h1, h2, P_X10_cell, within_iff, in_iff, all_eq, bz_0, bz_1, bzT, bzF, nem, bz_or, i64, Int32.reduceToInt, Int64.reduceToInt, and_true, true_and, and_self, not_true_eq_false, not_false_eq_true, false_implies, true_implies, eq_self, implies_true, false_and, and_false, Classical.not_not, Int.reduceLT, Int.reduceLE, Int.reduceEq, reduceIte, reduceCtorEq, and_imp, imp_false, false_or, or_false, true_or, or_true]
      refine missingIn_i z0 z1 hcn (by omega) ?_
      simp +decide only [P_X11_missing, house_iff, isKind_iff _ _ _ hm, h1, h2, within_iff, in_iff, all_eq, bz_0, bz_1, bzT, bzF, nem, bz_or, i64, Int32.reduceToInt, Int64.reduceToInt, and_true, true_and, and_self, not_true_eq_false, not_false_eq_true, false_implies, true_implies, eq_self, implies_true, false_and, and_false, Classical.not_not, Int.reduceLT, Int.reduceLE, Int.reduceEq, reduceIte, reduceCtorEq, and_imp, imp_false, false_or, or_false, true_or, or_true]
      refine laySpan_i hK0 hW0 h1 h2 (n := m_weighings.toInt.toNat) (by omega) (by omega) ?_
      by_cases q : (spn wg_cellOf wg_fewest wg_most wg_counts (p1 * 6 + p2) m_weighings.toInt.toNat).1 ≤ (spn wg_cellOf wg_fewest wg_most wg_counts (p1 * 6 + p2) m_weighings.toInt.toNat).2
      · have q2 := nlt_le.mpr q
        have m9 : (-9 : Int32).toInt = -9 := by decide
        have ne : ∀ t, ¬ misF m_book m_ledger (p1 * 6 + p2).toInt.toNat t = -9 := fun t e => by
          have := mis_nn m_book m_ledger (p1 * 6 + p2).toInt.toNat t
          rw [e] at this; omega
        simp +decide only [q, q2, ne, within_iff, in_iff, all_eq, bz_0, bz_1, bzT, bzF, nem, bz_or, i64, Int32.reduceToInt, Int64.reduceToInt, and_true, true_and, and_self, not_true_eq_false, not_false_eq_true, false_implies, true_implies, eq_self, implies_true, false_and, and_false, Classical.not_not, Int.reduceLT, Int.reduceLE, Int.reduceEq, reduceIte, reduceCtorEq, and_imp, imp_false, false_or, or_false, true_or, or_true]
        refine missingOf_i h1 ⟨h2.1, by omega⟩ ?_
        simp +decide only [within_iff, in_iff, all_eq, bz_0, bz_1, bzT, bzF, nem, bz_or, i64, Int32.reduceToInt, Int64.reduceToInt, and_true, true_and, and_self, not_true_eq_false, not_false_eq_true, false_implies, true_implies, eq_self, implies_true, false_and, and_false, Classical.not_not, Int.reduceLT, Int.reduceLE, Int.reduceEq, reduceIte, reduceCtorEq, and_imp, imp_false, false_or, or_false, true_or, or_true]
        exact hC _ _
      · have q2 := Classical.not_not.mp (fun z => q (nlt_le.mp z))
        simp +decide only [q, q2, within_iff, in_iff, all_eq, bz_0, bz_1, bzT, bzF, nem, bz_or, i64, Int32.reduceToInt, Int64.reduceToInt, and_true, true_and, and_self, not_true_eq_false, not_false_eq_true, false_implies, true_implies, eq_self, implies_true, false_and, and_false, Classical.not_not, Int.reduceLT, Int.reduceLE, Int.reduceEq, reduceIte, reduceCtorEq, and_imp, imp_false, false_or, or_false, true_or, or_true]
        exact hC _ _
    · simp +decide only [P_X10_missing, P_X11_missing, cell_iff _ _ _ _ hm, house_iff, isKind_iff _ _ _ hm, h1, h2, within_iff, in_iff, all_eq, bz_0, bz_1, bzT, bzF, nem, bz_or, i64, Int32.reduceToInt, Int64.reduceToInt, and_true, true_and, and_self, not_true_eq_false, not_false_eq_true, false_implies, true_implies, eq_self, implies_true, false_and, and_false, Classical.not_not, Int.reduceLT, Int.reduceLE, Int.reduceEq, reduceIte, reduceCtorEq, and_imp, imp_false, false_or, or_false, true_or, or_true]
      exact hC _ _
  · simp +decide only [P_X10_missing, P_X11_missing, cell_iff _ _ _ _ hm, house_iff, isKind_iff _ _ _ hm, h1, within_iff, in_iff, all_eq, bz_0, bz_1, bzT, bzF, nem, bz_or, i64, Int32.reduceToInt, Int64.reduceToInt, and_true, true_and, and_self, not_true_eq_false, not_false_eq_true, false_implies, true_implies, eq_self, implies_true, false_and, and_false, Classical.not_not, Int.reduceLT, Int.reduceLE, Int.reduceEq, reduceIte, reduceCtorEq, and_imp, imp_false, false_or, or_false, true_or, or_true]
    exact hC _ _
end missM
