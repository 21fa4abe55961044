section worstM
variable {kd_low kd_high : Nat → Int32} {kd_size : Int32} {wg_cellOf wg_fewest wg_most wg_counts : Nat → Int32} {wg_size m_weighings : Int32} {m_weighHouse m_weighKind m_weighLess m_weighMore m_isDropped : Nat → Int32} {m_kinds : Int32} {m_low m_high : Nat → Int32} {st_booked st_parted m_book m_ledger : Nat → Int32}
/-- MISSING AT LEAST of a cell, 0 where nothing is SURE -/
def misL (S : Int32 → Int32 × Int32) (booked parted : Nat → Int32) (c : Int32) : Int32 := if (S c).1 ≤ (S c).2 then misF booked parted c.toInt.toNat (S c).2 else 0
def sumL (S : Int32 → Int32 × Int32) (booked parted : Nat → Int32) (h : Int32) : Nat → Int32
  | 0 => 0
  | k + 1 => sumL S booked parted h k + misL S booked parted (h * 6 + nI k)
def wstL (S : Int32 → Int32 × Int32) (booked parted : Nat → Int32) (n : Nat) : Nat → Int32 × Int32
  | 0 => (-9, 0)
  | h + 1 => if sumL S booked parted (nI h) n ≤ (wstL S booked parted n h).2 then wstL S booked parted n h else (nI h, sumL S booked parted (nI h) n)
theorem missingInHouse_i {post : Int32 → Prop} {h : Int32} {cellOf fewest most counts booked parted : Nat → Int32} {size ks : Int32} (h0 : 0 ≤ size.toInt) (h40 : size.toInt ≤ 40) (hc : ∀ j : Nat, (j : Int) < size.toInt → counts j = 1 ∨ counts j = 0) (hh : 0 ≤ h.toInt ∧ h.toInt ≤ 4) (hk : 0 ≤ ks.toInt ∧ ks.toInt ≤ 6)
    (hp : post (sumL (fun c => spn cellOf fewest most counts c size.toInt.toNat) booked parted h ks.toInt.toNat)) : P_X10_missingInHouse post h ks booked parted cellOf fewest most counts size := by
  unfold P_X10_missingInHouse
  intro X hX
  have key : ∀ m i : Nat, i + m = ks.toInt.toNat → X (sumL (fun c => spn cellOf fewest most counts c size.toInt.toNat) booked parted h i) (nI i) := by
    intro m
    induction m with
    | zero =>
      intro i hi
      have e : i = ks.toInt.toNat := by omega
      apply hX
      have : ks.toInt ≤ (i : Int) := by omega
      simp +decide only [nIle (i := i) (by omega), this, within_iff, in_iff, all_eq, bz_0, bz_1, bzT, bzF, nem, bz_or, i64, Int32.reduceToInt, Int64.reduceToInt, and_true, true_and, and_self, not_true_eq_false, not_false_eq_true, false_implies, true_implies, eq_self, implies_true, false_and, and_false, Classical.not_not, Int.reduceLT, Int.reduceLE, Int.reduceEq, reduceIte, reduceCtorEq, and_imp, imp_false, false_or, or_false, true_or, or_true]
      rw [e]; exact hp
    | succ m ih =>
      intro i hi
      have ih := ih (i + 1) (by omega)
      have hlt : ¬ ks.toInt ≤ (i : Int) := by omega
      have e1 : nI i + 1 = nI (i + 1) := nI_1 i
      have ei : (nI i).toInt = i := nI_toInt (by omega)
      obtain ⟨c1, -⟩ := cell_no hh (k := nI i) (by omega)
      apply hX
      simp +decide only [nIle (i := i) (by omega), hlt, P_X10_cell, e1, within_iff, in_iff, all_eq, bz_0, bz_1, bzT, bzF, nem, bz_or, i64, Int32.reduceToInt, Int64.reduceToInt, and_true, true_and, and_self, not_true_eq_false, not_false_eq_true, false_implies, true_implies, eq_self, implies_true, false_and, and_false, Classical.not_not, Int.reduceLT, Int.reduceLE, Int.reduceEq, reduceIte, reduceCtorEq, and_imp, imp_false, false_or, or_false, true_or, or_true]
      refine missingIn_i h0 h40 hc (by omega) ?_
      rw [sumL] at ih
      unfold misL at ih
      dsimp only at ih
      have nn := mis_nn booked parted (h * 6 + nI i).toInt.toNat (spn cellOf fewest most counts (h * 6 + nI i) size.toInt.toNat).2
      by_cases q : (spn cellOf fewest most counts (h * 6 + nI i) size.toInt.toNat).1 ≤ (spn cellOf fewest most counts (h * 6 + nI i) size.toInt.toNat).2
      · rw [if_pos q] at ih
        have eq : (if 0 < misF booked parted (h * 6 + nI i).toInt.toNat (spn cellOf fewest most counts (h * 6 + nI i) size.toInt.toNat).2 then misF booked parted (h * 6 + nI i).toInt.toNat (spn cellOf fewest most counts (h * 6 + nI i) size.toInt.toNat).2 else 0) = misF booked parted (h * 6 + nI i).toInt.toNat (spn cellOf fewest most counts (h * 6 + nI i) size.toInt.toNat).2 := by
          split
          · rfl
          · rename_i g; rw [fa_eq]; rw [fa_lt] at g; have : (0 : Int32).toInt = 0 := by decide
            omega
        simp +decide only [q, eq, within_iff, in_iff, all_eq, bz_0, bz_1, bzT, bzF, nem, bz_or, i64, Int32.reduceToInt, Int64.reduceToInt, and_true, true_and, and_self, not_true_eq_false, not_false_eq_true, false_implies, true_implies, eq_self, implies_true, false_and, and_false, Classical.not_not, Int.reduceLT, Int.reduceLE, Int.reduceEq, reduceIte, reduceCtorEq, and_imp, imp_false, false_or, or_false, true_or, or_true]
        exact ih
      · rw [if_neg q] at ih
        simp +decide only [q, within_iff, in_iff, all_eq, bz_0, bz_1, bzT, bzF, nem, bz_or, i64, Int32.reduceToInt, Int64.reduceToInt, and_true, true_and, and_self, not_true_eq_false, not_false_eq_true, false_implies, true_implies, eq_self, implies_true, false_and, and_false, Classical.not_not, Int.reduceLT, Int.reduceLE, Int.reduceEq, reduceIte, reduceCtorEq, and_imp, imp_false, false_or, or_false, true_or, or_true]
        exact ih
  exact key ks.toInt.toNat 0 (by omega)
theorem eq_worst {C : Int32 → Int32 → Prop} {sl sh : Int32} (hK : RK kd_low kd_high kd_size m_kinds m_low m_high) (hB : RB st_booked st_parted m_book m_ledger) (hW : RW kd_low kd_high kd_size wg_cellOf wg_fewest wg_most wg_counts wg_size m_weighings m_weighHouse m_weighKind m_weighLess m_weighMore m_isDropped) (hC : ∀ a b, C a b) :
    P_X10_worst (fun r => P_X11_worst (fun r2 a b => ((r = r2 → C a b) ∧ (¬ r = r2 → False))) m_kinds m_low m_high m_book m_ledger m_weighings m_weighHouse m_weighKind m_weighLess m_weighMore m_isDropped sl sh) kd_size st_booked st_parted wg_cellOf wg_fewest wg_most wg_counts wg_size := by
  have hK0 := hK
  have hW0 := hW
  have hcn := hcnt hW
  obtain ⟨rfl, rfl, rfl, k0, k6, hk⟩ := hK
  obtain ⟨rfl, z0, z1, hj, hf⟩ := hW
  obtain ⟨rfl, rfl, -, -⟩ := hB
  have e5 : (5 : Int32).toInt = 5 := by decide
  generalize hS : (fun c => spn wg_cellOf wg_fewest wg_most wg_counts c m_weighings.toInt.toNat) = S
  have hSc : ∀ c, S c = spn wg_cellOf wg_fewest wg_most wg_counts c m_weighings.toInt.toNat := fun c => by rw [← hS]
  generalize hn : m_kinds.toInt.toNat = n
  unfold P_X10_worst
  intro X hX
  have key : ∀ m i : Nat, i + m = 5 → X (wstL S m_book m_ledger n i).1 (wstL S m_book m_ledger n i).2 (nI i) := by
    intro m
    induction m with
    | succ m ih =>
      intro i hi
      have ih := ih (i + 1) (by omega)
      have e1 : nI i + 1 = nI (i + 1) := nI_1 i
      have ei : (nI i).toInt = i := nI_toInt (by omega)
      have hlt : ¬ (5 : Int32) ≤ nI i := by rw [fa_le, e5]; omega
      apply hX
      simp +decide only [hlt, e1, within_iff, in_iff, all_eq, bz_0, bz_1, bzT, bzF, nem, bz_or, i64, Int32.reduceToInt, Int64.reduceToInt, and_true, true_and, and_self, not_true_eq_false, not_false_eq_true, false_implies, true_implies, eq_self, implies_true, false_and, and_false, Classical.not_not, Int.reduceLT, Int.reduceLE, Int.reduceEq, reduceIte, reduceCtorEq, and_imp, imp_false, false_or, or_false, true_or, or_true]
      refine missingInHouse_i z0 z1 hcn (by omega) ⟨k0, k6⟩ ?_
      rw [hS, hn]
      rw [wstL] at ih
      refine ⟨fun q => ?_, fun q => ?_⟩
      · rw [if_pos q] at ih; exact ih
      · rw [if_neg q] at ih; exact ih
    | zero =>
      intro i hi
      have hi5 : i = 5 := by omega
      subst hi5
      apply hX
      have hge : (5 : Int32) ≤ nI 5 := by decide
      simp +decide only [hge, within_iff, in_iff, all_eq, bz_0, bz_1, bzT, bzF, nem, bz_or, i64, Int32.reduceToInt, Int64.reduceToInt, and_true, true_and, and_self, not_true_eq_false, not_false_eq_true, false_implies, true_implies, eq_self, implies_true, false_and, and_false, Classical.not_not, Int.reduceLT, Int.reduceLE, Int.reduceEq, reduceIte, reduceCtorEq, and_imp, imp_false, false_or, or_false, true_or, or_true]
      generalize hr : (wstL S m_book m_ledger n 5).1 = r
      unfold P_X11_worst
      intro X7 X18 h7 h18
      have inner : ∀ h : Nat, h < 5 → ∀ a b : Int32, (∀ sl sh, X7 (if sumL S m_book m_ledger (nI h) n ≤ b then a else nI h) (if sumL S m_book m_ledger (nI h) n ≤ b then b else sumL S m_book m_ledger (nI h) n) (nI (h + 1)) sl sh) → ∀ m k : Nat, k + m = n → ∀ sl sh, X18 a b (nI h) (sumL S m_book m_ledger (nI h) k) (nI k) sl sh := by
        intro h hh a b hx m
        have eh : (nI h).toInt = h := nI_toInt (by omega)
        have e1 : nI h + 1 = nI (h + 1) := nI_1 h
        induction m with
        | zero =>
          intro k hkn sl sh
          have : k = n := by omega
          subst this
          apply h18
          have g : m_kinds.toInt ≤ (k : Int) := by omega
          simp +decide only [nIle (i := k) (by omega), g, e1, within_iff, in_iff, all_eq, bz_0, bz_1, bzT, bzF, nem, bz_or, i64, Int32.reduceToInt, Int64.reduceToInt, and_true, true_and, and_self, not_true_eq_false, not_false_eq_true, false_implies, true_implies, eq_self, implies_true, false_and, and_false, Classical.not_not, Int.reduceLT, Int.reduceLE, Int.reduceEq, reduceIte, reduceCtorEq, and_imp, imp_false, false_or, or_false, true_or, or_true]
          exact hx sl sh
        | succ m ih2 =>
          intro k hkn sl sh
          have ih2 := ih2 (k + 1) (by omega)
          have g : ¬ m_kinds.toInt ≤ (k : Int) := by omega
          have ek : nI k + 1 = nI (k + 1) := nI_1 k
          have ei : (nI k).toInt = k := nI_toInt (by omega)
          apply h18
          simp +decide only [nIle (i := k) (by omega), g, ek, within_iff, in_iff, all_eq, bz_0, bz_1, bzT, bzF, nem, bz_or, i64, Int32.reduceToInt, Int64.reduceToInt, and_true, true_and, and_self, not_true_eq_false, not_false_eq_true, false_implies, true_implies, eq_self, implies_true, false_and, and_false, Classical.not_not, Int.reduceLT, Int.reduceLE, Int.reduceEq, reduceIte, reduceCtorEq, and_imp, imp_false, false_or, or_false, true_or, or_true]
          refine laySpan_i hK0 hW0 (by omega) (by omega) (n := m_weighings.toInt.toNat) (by omega) (by omega) ?_
          rw [← hSc]
          rw [sumL] at ih2
          unfold misL at ih2
          by_cases q : (S (nI h * 6 + nI k)).1 ≤ (S (nI h * 6 + nI k)).2
          · have q2 := nlt_le.mpr q
            rw [if_pos q] at ih2
            simp +decide only [q2, within_iff, in_iff, all_eq, bz_0, bz_1, bzT, bzF, nem, bz_or, i64, Int32.reduceToInt, Int64.reduceToInt, and_true, true_and, and_self, not_true_eq_false, not_false_eq_true, false_implies, true_implies, eq_self, implies_true, false_and, and_false, Classical.not_not, Int.reduceLT, Int.reduceLE, Int.reduceEq, reduceIte, reduceCtorEq, and_imp, imp_false, false_or, or_false, true_or, or_true]
            refine missingOf_i (by omega) (by omega) ?_
            simp +decide only [within_iff, in_iff, all_eq, bz_0, bz_1, bzT, bzF, nem, bz_or, i64, Int32.reduceToInt, Int64.reduceToInt, and_true, true_and, and_self, not_true_eq_false, not_false_eq_true, false_implies, true_implies, eq_self, implies_true, false_and, and_false, Classical.not_not, Int.reduceLT, Int.reduceLE, Int.reduceEq, reduceIte, reduceCtorEq, and_imp, imp_false, false_or, or_false, true_or, or_true]
            exact ih2 _ _
          · have q2 := Classical.not_not.mp (fun z => q (nlt_le.mp z))
            rw [if_neg q] at ih2
            simp +decide only [q2, within_iff, in_iff, all_eq, bz_0, bz_1, bzT, bzF, nem, bz_or, i64, Int32.reduceToInt, Int64.reduceToInt, and_true, true_and, and_self, not_true_eq_false, not_false_eq_true, false_implies, true_implies, eq_self, implies_true, false_and, and_false, Classical.not_not, Int.reduceLT, Int.reduceLE, Int.reduceEq, reduceIte, reduceCtorEq, and_imp, imp_false, false_or, or_false, true_or, or_true]
            exact ih2 _ _
      have outer : ∀ m i : Nat, i + m = 5 → ∀ sl sh, X7 (wstL S m_book m_ledger n i).1 (wstL S m_book m_ledger n i).2 (nI i) sl sh := by
        intro m
        induction m with
        | zero =>
          intro i hi sl sh
          have : i = 5 := by omega
          subst this
          apply h7
          simp +decide only [hge, hr, within_iff, in_iff, all_eq, bz_0, bz_1, bzT, bzF, nem, bz_or, i64, Int32.reduceToInt, Int64.reduceToInt, and_true, true_and, and_self, not_true_eq_false, not_false_eq_true, false_implies, true_implies, eq_self, implies_true, false_and, and_false, Classical.not_not, Int.reduceLT, Int.reduceLE, Int.reduceEq, reduceIte, reduceCtorEq, and_imp, imp_false, false_or, or_false, true_or, or_true]
          exact hC _ _
        | succ m ih3 =>
          intro i hi sl sh
          have ih3 := ih3 (i + 1) (by omega)
          have ei : (nI i).toInt = i := nI_toInt (by omega)
          have hlt : ¬ (5 : Int32) ≤ nI i := by rw [fa_le, e5]; omega
          apply h7
          simp +decide only [hlt, within_iff, in_iff, all_eq, bz_0, bz_1, bzT, bzF, nem, bz_or, i64, Int32.reduceToInt, Int64.reduceToInt, and_true, true_and, and_self, not_true_eq_false, not_false_eq_true, false_implies, true_implies, eq_self, implies_true, false_and, and_false, Classical.not_not, Int.reduceLT, Int.reduceLE, Int.reduceEq, reduceIte, reduceCtorEq, and_imp, imp_false, false_or, or_false, true_or, or_true]
          refine inner i (by omega) _ _ (fun sl sh => ?_) n 0 (by omega) sl sh
          rw [wstL] at ih3
          by_cases q : sumL S m_book m_ledger (nI i) n ≤ (wstL S m_book m_ledger n i).2
          · rw [if_pos q] at ih3
            rw [if_pos q, if_pos q]; exact ih3 _ _
          · rw [if_neg q] at ih3
            rw [if_neg q, if_neg q]; exact ih3 _ _
      exact outer 5 0 (by omega) _ _
  exact key 5 0 (by omega)
end worstM
