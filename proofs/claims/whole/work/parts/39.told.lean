section toldM
variable {br_night br_shift br_pieces : Nat → Int32} {br_size m_breakages : Int32} {m_brokeNight m_brokeShift m_brokeMany : Nat → Int32}
/-- no BREAKAGE from o on, of m, is of the same SHIFT and NIGHT as the one at i -/
def frS (night shift : Nat → Int32) (i : Nat) : Nat → Nat → Bool
  | 0, _ => true
  | m + 1, o => if shift o = shift i ∧ night o = night i then false else frS night shift i m (o + 1)
def tlS (night shift pieces : Nat → Int32) (p1 p2 p3 : Int32) : Nat → Int32 × Int32
  | 0 => (0, 0)
  | i + 1 => if shift i = p1 ∧ (p2.toInt ≤ (night i).toInt ∧ (night i).toInt ≤ p3.toInt) then ((tlS night shift pieces p1 p2 p3 i).1 + pieces i, (tlS night shift pieces p1 p2 p3 i).2 + (if frS night shift i i 0 = true then 1 else 0)) else tlS night shift pieces p1 p2 p3 i
theorem isFirst_i {post : Int32 → Prop} {i : Nat} {night shift : Nat → Int32} (hi : i < 60) (h : post (if frS night shift i i 0 = true then 1 else 0)) : P_X1_isFirstOfNight post (nI i) night shift := by
  unfold P_X1_isFirstOfNight
  intro X hX
  have key : ∀ m o : Nat, o + m = i → post (if frS night shift i m o = true then 1 else 0) → X (nI o) := by
    intro m
    induction m with
    | zero =>
      intro o ho hp
      apply hX
      have e : (nI i).toInt ≤ (o : Int) := by rw [nI_toInt (by omega)]; omega
      simp +decide only [nIle (i := o) (by omega), e, within_iff, in_iff, all_eq, bz_0, bz_1, bzT, bzF, nem, bz_or, i64, Int32.reduceToInt, Int64.reduceToInt, and_true, true_and, and_self, not_true_eq_false, not_false_eq_true, false_implies, true_implies, eq_self, implies_true, false_and, and_false, Classical.not_not, Int.reduceLT, Int.reduceLE, Int.reduceEq, reduceIte, reduceCtorEq, and_imp, imp_false, false_or, or_false, true_or, or_true]
      exact hp
    | succ m ih =>
      intro o ho hp
      have ih := ih (o + 1) (by omega)
      have e : ¬ (nI i).toInt ≤ (o : Int) := by rw [nI_toInt (by omega)]; omega
      have e1 : nI o + 1 = nI (o + 1) := nI_1 o
      rw [frS] at hp
      apply hX
      simp +decide only [nIle (i := o) (by omega), e, nIv (i := o) (N := 60) (by omega) (by omega), nIv (i := i) (N := 60) (by omega) (by omega), nIc (i := o) (by omega), nIc (i := i) (by omega), e1, within_iff, in_iff, all_eq, bz_0, bz_1, bzT, bzF, nem, bz_or, i64, Int32.reduceToInt, Int64.reduceToInt, and_true, true_and, and_self, not_true_eq_false, not_false_eq_true, false_implies, true_implies, eq_self, implies_true, false_and, and_false, Classical.not_not, Int.reduceLT, Int.reduceLE, Int.reduceEq, reduceIte, reduceCtorEq, and_imp, imp_false, false_or, or_false, true_or, or_true]
      by_cases q1 : shift o = shift i
      · by_cases q2 : night o = night i
        · rw [if_pos (⟨q1, q2⟩ : shift o = shift i ∧ night o = night i)] at hp
          simp +decide only [q1, q2, within_iff, in_iff, all_eq, bz_0, bz_1, bzT, bzF, nem, bz_or, i64, Int32.reduceToInt, Int64.reduceToInt, and_true, true_and, and_self, not_true_eq_false, not_false_eq_true, false_implies, true_implies, eq_self, implies_true, false_and, and_false, Classical.not_not, Int.reduceLT, Int.reduceLE, Int.reduceEq, reduceIte, reduceCtorEq, and_imp, imp_false, false_or, or_false, true_or, or_true]
          exact hp
        · rw [if_neg (fun q : shift o = shift i ∧ night o = night i => q2 q.2)] at hp
          simp +decide only [q1, q2, within_iff, in_iff, all_eq, bz_0, bz_1, bzT, bzF, nem, bz_or, i64, Int32.reduceToInt, Int64.reduceToInt, and_true, true_and, and_self, not_true_eq_false, not_false_eq_true, false_implies, true_implies, eq_self, implies_true, false_and, and_false, Classical.not_not, Int.reduceLT, Int.reduceLE, Int.reduceEq, reduceIte, reduceCtorEq, and_imp, imp_false, false_or, or_false, true_or, or_true]
          exact ih hp
      · rw [if_neg (fun q : shift o = shift i ∧ night o = night i => q1 q.1)] at hp
        simp +decide only [q1, within_iff, in_iff, all_eq, bz_0, bz_1, bzT, bzF, nem, bz_or, i64, Int32.reduceToInt, Int64.reduceToInt, and_true, true_and, and_self, not_true_eq_false, not_false_eq_true, false_implies, true_implies, eq_self, implies_true, false_and, and_false, Classical.not_not, Int.reduceLT, Int.reduceLE, Int.reduceEq, reduceIte, reduceCtorEq, and_imp, imp_false, false_or, or_false, true_or, or_true]
        exact ih hp
  exact key i 0 (by omega) h
theorem tell_i {post : Int32 → Prop} {p1 p2 p3 : Int32} {night shift pieces : Nat → Int32} {size : Int32} (h0 : 0 ≤ size.toInt) (h60 : size.toInt ≤ 60) (h : post (if (tlS night shift pieces p1 p2 p3 size.toInt.toNat).2 < 3 then -9 else (tlS night shift pieces p1 p2 p3 size.toInt.toNat).1)) : P_X1_tell post p1 p2 p3 night shift pieces size := by
  unfold P_X1_tell
  intro X hX
  have key : ∀ m i : Nat, i + m = size.toInt.toNat → X (tlS night shift pieces p1 p2 p3 i).1 (tlS night shift pieces p1 p2 p3 i).2 (nI i) := by
    intro m
    induction m with
    | zero =>
      intro i hi
      have e : i = size.toInt.toNat := by omega
      apply hX
      have g : size.toInt ≤ (i : Int) := by omega
      simp +decide only [nIle (i := i) (by omega), g, within_iff, in_iff, all_eq, bz_0, bz_1, bzT, bzF, nem, bz_or, i64, Int32.reduceToInt, Int64.reduceToInt, and_true, true_and, and_self, not_true_eq_false, not_false_eq_true, false_implies, true_implies, eq_self, implies_true, false_and, and_false, Classical.not_not, Int.reduceLT, Int.reduceLE, Int.reduceEq, reduceIte, reduceCtorEq, and_imp, imp_false, false_or, or_false, true_or, or_true]
      rw [e]; exact h
    | succ m ih =>
      intro i hi
      have ih := ih (i + 1) (by omega)
      have g : ¬ size.toInt ≤ (i : Int) := by omega
      have e1 : nI i + 1 = nI (i + 1) := nI_1 i
      rw [tlS] at ih
      apply hX
      simp +decide only [nIle (i := i) (by omega), g, nIv (i := i) (N := 60) (by omega) (by omega), nIc (i := i) (by omega), e1, within_iff, in_iff, all_eq, bz_0, bz_1, bzT, bzF, nem, bz_or, i64, Int32.reduceToInt, Int64.reduceToInt, and_true, true_and, and_self, not_true_eq_false, not_false_eq_true, false_implies, true_implies, eq_self, implies_true, false_and, and_false, Classical.not_not, Int.reduceLT, Int.reduceLE, Int.reduceEq, reduceIte, reduceCtorEq, and_imp, imp_false, false_or, or_false, true_or, or_true]
      by_cases q1 : shift i = p1
      · by_cases q2 : p2.toInt ≤ (night i).toInt ∧ (night i).toInt ≤ p3.toInt
        · rw [if_pos ⟨q1, q2⟩] at ih
          simp +decide only [q1, q2, within_iff, in_iff, all_eq, bz_0, bz_1, bzT, bzF, nem, bz_or, i64, Int32.reduceToInt, Int64.reduceToInt, and_true, true_and, and_self, not_true_eq_false, not_false_eq_true, false_implies, true_implies, eq_self, implies_true, false_and, and_false, Classical.not_not, Int.reduceLT, Int.reduceLE, Int.reduceEq, reduceIte, reduceCtorEq, and_imp, imp_false, false_or, or_false, true_or, or_true]
          refine isFirst_i (by omega) ?_
          have eb : (if (if frS night shift i i 0 = true then (1 : Int32) else 0) = 0 then (0 : Int32) else 1) = (if frS night shift i i 0 = true then 1 else 0) := by
            by_cases q : frS night shift i i 0 = true
            · rw [if_pos q]; decide
            · rw [if_neg q]; decide
          rw [eb]
          exact ih
        · rw [if_neg (fun q => q2 q.2)] at ih
          simp +decide only [q1, q2, within_iff, in_iff, all_eq, bz_0, bz_1, bzT, bzF, nem, bz_or, i64, Int32.reduceToInt, Int64.reduceToInt, and_true, true_and, and_self, not_true_eq_false, not_false_eq_true, false_implies, true_implies, eq_self, implies_true, false_and, and_false, Classical.not_not, Int.reduceLT, Int.reduceLE, Int.reduceEq, reduceIte, reduceCtorEq, and_imp, imp_false, false_or, or_false, true_or, or_true]
          exact ⟨ih, fun a b => absurd ⟨a, b⟩ q2⟩
      · rw [if_neg (fun q => q1 q.1)] at ih
        simp +decide only [q1, within_iff, in_iff, all_eq, bz_0, bz_1, bzT, bzF, nem, bz_or, i64, Int32.reduceToInt, Int64.reduceToInt, and_true, true_and, and_self, not_true_eq_false, not_false_eq_true, false_implies, true_implies, eq_self, implies_true, false_and, and_false, Classical.not_not, Int.reduceLT, Int.reduceLE, Int.reduceEq, reduceIte, reduceCtorEq, and_imp, imp_false, false_or, or_false, true_or, or_true]
        exact ih
  exact key size.toInt.toNat 0 (by omega)
theorem eq_told {C : Prop} (hR : RBr br_night br_shift br_pieces br_size m_breakages m_brokeNight m_brokeShift m_brokeMany) (hC : C) (p1 p2 p3 : Int32) :
    P_X10_told (fun r => P_X11_told (fun r2 => ((r = r2 → C) ∧ (¬ r = r2 → False))) p1 p2 p3 m_breakages m_brokeNight m_brokeShift m_brokeMany) p1 p2 p3 br_night br_shift br_pieces br_size := by
  obtain ⟨⟨rfl, rfl, rfl, rfl⟩, z0, z1, hj⟩ := hR
  by_cases h1 : 0 ≤ p1.toInt ∧ p1.toInt ≤ 2
  · by_cases h2 : 0 ≤ p2.toInt ∧ p2.toInt ≤ 999
    · by_cases h3 : p2.toInt ≤ p3.toInt ∧ p3.toInt ≤ 999
      · simp +decide only [P_X10_told, P_X10_isShift, h1, h2, h3, within_iff, in_iff, all_eq, bz_0, bz_1, bzT, bzF, nem, bz_or, i64, Int32.reduceToInt, Int64.reduceToInt, and_true, true_and, and_self, not_true_eq_false, not_false_eq_true, false_implies, true_implies, eq_self, implies_true, false_and, and_false, Classical.not_not, Int.reduceLT, Int.reduceLE, Int.reduceEq, reduceIte, reduceCtorEq, and_imp, imp_false, false_or, or_false, true_or, or_true]
        refine tell_i z0 z1 ?_
        generalize hT : (fun i => tlS m_brokeNight m_brokeShift m_brokeMany p1 p2 p3 i) = T
        have hTc : ∀ i, tlS m_brokeNight m_brokeShift m_brokeMany p1 p2 p3 i = T i := fun i => by rw [← hT]
        rw [hTc]
        unfold P_X11_told
        intro X49 X93 h49 h93
        simp +decide only [h1, h2, h3, within_iff, in_iff, all_eq, bz_0, bz_1, bzT, bzF, nem, bz_or, i64, Int32.reduceToInt, Int64.reduceToInt, and_true, true_and, and_self, not_true_eq_false, not_false_eq_true, false_implies, true_implies, eq_self, implies_true, false_and, and_false, Classical.not_not, Int.reduceLT, Int.reduceLE, Int.reduceEq, reduceIte, reduceCtorEq, and_imp, imp_false, false_or, or_false, true_or, or_true]
        have inner : ∀ (i : Nat), i < 60 → m_brokeShift i = p1 → ∀ a b : Int32, ∀ m o : Nat, o + m = i → ∀ x7 : Int32, (x7 = 0 ∨ x7 = 1) → X49 (a + (if x7 = 0 then 0 else if frS m_brokeNight m_brokeShift i m o = true then 1 else 0)) (b + m_brokeMany i) (nI (i + 1)) → X93 a b (nI i) x7 (nI o) := by
          intro i hi hs a b m
          induction m with
          | zero =>
            intro o ho x7 hx hk
            apply h93
            have e : (nI i).toInt ≤ (o : Int) := by rw [nI_toInt (by omega)]; omega
            simp +decide only [nIle (i := o) (by omega), e, nIv (i := i) (N := 60) (by omega) (by omega), nIc (i := i) (by omega), nI_1 i, within_iff, in_iff, all_eq, bz_0, bz_1, bzT, bzF, nem, bz_or, i64, Int32.reduceToInt, Int64.reduceToInt, and_true, true_and, and_self, not_true_eq_false, not_false_eq_true, false_implies, true_implies, eq_self, implies_true, false_and, and_false, Classical.not_not, Int.reduceLT, Int.reduceLE, Int.reduceEq, reduceIte, reduceCtorEq, and_imp, imp_false, false_or, or_false, true_or, or_true]
            exact hk
          | succ m ih =>
            intro o ho x7 hx hk
            have ih := ih (o + 1) (by omega)
            apply h93
            have e : ¬ (nI i).toInt ≤ (o : Int) := by rw [nI_toInt (by omega)]; omega
            rw [frS, hs] at hk
            simp +decide only [nIle (i := o) (by omega), e, nIv (i := o) (N := 60) (by omega) (by omega), nIc (i := o) (by omega), nIv (i := i) (N := 60) (by omega) (by omega), nIc (i := i) (by omega), nI_1 o, within_iff, in_iff, all_eq, bz_0, bz_1, bzT, bzF, nem, bz_or, i64, Int32.reduceToInt, Int64.reduceToInt, and_true, true_and, and_self, not_true_eq_false, not_false_eq_true, false_implies, true_implies, eq_self, implies_true, false_and, and_false, Classical.not_not, Int.reduceLT, Int.reduceLE, Int.reduceEq, reduceIte, reduceCtorEq, and_imp, imp_false, false_or, or_false, true_or, or_true]
            rcases hx with rfl | rfl
            · simp +decide only [within_iff, in_iff, all_eq, bz_0, bz_1, bzT, bzF, nem, bz_or, i64, Int32.reduceToInt, Int64.reduceToInt, and_true, true_and, and_self, not_true_eq_false, not_false_eq_true, false_implies, true_implies, eq_self, implies_true, false_and, and_false, Classical.not_not, Int.reduceLT, Int.reduceLE, Int.reduceEq, reduceIte, reduceCtorEq, and_imp, imp_false, false_or, or_false, true_or, or_true]
              refine ih 0 (Or.inl rfl) ?_
              simpa using hk
            · by_cases q1 : m_brokeShift o = p1
              · by_cases q2 : m_brokeNight o = m_brokeNight i
                · rw [if_pos (⟨q1, q2⟩ : m_brokeShift o = p1 ∧ m_brokeNight o = m_brokeNight i)] at hk
                  simp +decide only [q1, q2, within_iff, in_iff, all_eq, bz_0, bz_1, bzT, bzF, nem, bz_or, i64, Int32.reduceToInt, Int64.reduceToInt, and_true, true_and, and_self, not_true_eq_false, not_false_eq_true, false_implies, true_implies, eq_self, implies_true, false_and, and_false, Classical.not_not, Int.reduceLT, Int.reduceLE, Int.reduceEq, reduceIte, reduceCtorEq, and_imp, imp_false, false_or, or_false, true_or, or_true]
                  refine ih 0 (Or.inl rfl) ?_
                  simpa using hk
                · rw [if_neg (fun q : m_brokeShift o = p1 ∧ m_brokeNight o = m_brokeNight i => q2 q.2)] at hk
                  simp +decide only [q1, q2, within_iff, in_iff, all_eq, bz_0, bz_1, bzT, bzF, nem, bz_or, i64, Int32.reduceToInt, Int64.reduceToInt, and_true, true_and, and_self, not_true_eq_false, not_false_eq_true, false_implies, true_implies, eq_self, implies_true, false_and, and_false, Classical.not_not, Int.reduceLT, Int.reduceLE, Int.reduceEq, reduceIte, reduceCtorEq, and_imp, imp_false, false_or, or_false, true_or, or_true]
                  exact ih 1 (Or.inr rfl) hk
              · rw [if_neg (fun q : m_brokeShift o = p1 ∧ m_brokeNight o = m_brokeNight i => q1 q.1)] at hk
                simp +decide only [q1, within_iff, in_iff, all_eq, bz_0, bz_1, bzT, bzF, nem, bz_or, i64, Int32.reduceToInt, Int64.reduceToInt, and_true, true_and, and_self, not_true_eq_false, not_false_eq_true, false_implies, true_implies, eq_self, implies_true, false_and, and_false, Classical.not_not, Int.reduceLT, Int.reduceLE, Int.reduceEq, reduceIte, reduceCtorEq, and_imp, imp_false, false_or, or_false, true_or, or_true]
                exact ih 1 (Or.inr rfl) hk
        have key : ∀ m i : Nat, i + m = m_breakages.toInt.toNat → X49 (T i).2 (T i).1 (nI i) := by
          intro m
          induction m with
          | zero =>
            intro i hi
            have e : i = m_breakages.toInt.toNat := by omega
            apply h49
            have g : m_breakages.toInt ≤ (i : Int) := by omega
            rw [← e]
            have ev : (if (3 : Int32) ≤ (T i).2 then (T i).1 else -9) = (if (T i).2 < 3 then -9 else (T i).1) := by
              by_cases q : (T i).2 < 3
              · rw [if_pos q, if_neg (by rw [fa_le]; rw [fa_lt] at q; omega)]
              · rw [if_neg q, if_pos (by rw [fa_le]; rw [fa_lt] at q; omega)]
            simp +decide only [nIle (i := i) (by omega), g, ev, within_iff, in_iff, all_eq, bz_0, bz_1, bzT, bzF, nem, bz_or, i64, Int32.reduceToInt, Int64.reduceToInt, and_true, true_and, and_self, not_true_eq_false, not_false_eq_true, false_implies, true_implies, eq_self, implies_true, false_and, and_false, Classical.not_not, Int.reduceLT, Int.reduceLE, Int.reduceEq, reduceIte, reduceCtorEq, and_imp, imp_false, false_or, or_false, true_or, or_true]
            exact hC
          | succ m ih =>
            intro i hi
            have ih := ih (i + 1) (by omega)
            have g : ¬ m_breakages.toInt ≤ (i : Int) := by omega
            have e1 : nI i + 1 = nI (i + 1) := nI_1 i
            rw [← hTc, tlS, hTc] at ih
            apply h49
            simp +decide only [nIle (i := i) (by omega), g, nIv (i := i) (N := 60) (by omega) (by omega), nIc (i := i) (by omega), e1, within_iff, in_iff, all_eq, bz_0, bz_1, bzT, bzF, nem, bz_or, i64, Int32.reduceToInt, Int64.reduceToInt, and_true, true_and, and_self, not_true_eq_false, not_false_eq_true, false_implies, true_implies, eq_self, implies_true, false_and, and_false, Classical.not_not, Int.reduceLT, Int.reduceLE, Int.reduceEq, reduceIte, reduceCtorEq, and_imp, imp_false, false_or, or_false, true_or, or_true]
            by_cases q1 : m_brokeShift i = p1
            · by_cases q2 : p2.toInt ≤ (m_brokeNight i).toInt ∧ (m_brokeNight i).toInt ≤ p3.toInt
              · rw [if_pos ⟨q1, q2⟩] at ih
                simp +decide only [q1, q2, within_iff, in_iff, all_eq, bz_0, bz_1, bzT, bzF, nem, bz_or, i64, Int32.reduceToInt, Int64.reduceToInt, and_true, true_and, and_self, not_true_eq_false, not_false_eq_true, false_implies, true_implies, eq_self, implies_true, false_and, and_false, Classical.not_not, Int.reduceLT, Int.reduceLE, Int.reduceEq, reduceIte, reduceCtorEq, and_imp, imp_false, false_or, or_false, true_or, or_true]
                refine inner i (by omega) q1 _ _ i 0 (by omega) 1 (Or.inr rfl) ?_
                simpa using ih
              · rw [if_neg (fun q => q2 q.2)] at ih
                simp +decide only [q1, q2, within_iff, in_iff, all_eq, bz_0, bz_1, bzT, bzF, nem, bz_or, i64, Int32.reduceToInt, Int64.reduceToInt, and_true, true_and, and_self, not_true_eq_false, not_false_eq_true, false_implies, true_implies, eq_self, implies_true, false_and, and_false, Classical.not_not, Int.reduceLT, Int.reduceLE, Int.reduceEq, reduceIte, reduceCtorEq, and_imp, imp_false, false_or, or_false, true_or, or_true]
                exact ⟨ih, fun a b => absurd ⟨a, b⟩ q2⟩
            · rw [if_neg (fun q => q1 q.1)] at ih
              simp +decide only [q1, within_iff, in_iff, all_eq, bz_0, bz_1, bzT, bzF, nem, bz_or, i64, Int32.reduceToInt, Int64.reduceToInt, and_true, true_and, and_self, not_true_eq_false, not_false_eq_true, false_implies, true_implies, eq_self, implies_true, false_and, and_false, Classical.not_not, Int.reduceLT, Int.reduceLE, Int.reduceEq, reduceIte, reduceCtorEq, and_imp, imp_false, false_or, or_false, true_or, or_true]
              exact ih
        have ht0 : T 0 = (0, 0) := by rw [← hTc]; rfl
        have := key m_breakages.toInt.toNat 0 (by omega)
        rw [ht0] at this
        exact this
      · simp +decide only [P_X10_told, P_X10_isShift, h1, h2, h3, within_iff, in_iff, all_eq, bz_0, bz_1, bzT, bzF, nem, bz_or, i64, Int32.reduceToInt, Int64.reduceToInt, and_true, true_and, and_self, not_true_eq_false, not_false_eq_true, false_implies, true_implies, eq_self, implies_true, false_and, and_false, Classical.not_not, Int.reduceLT, Int.reduceLE, Int.reduceEq, reduceIte, reduceCtorEq, and_imp, imp_false, false_or, or_false, true_or, or_true]
        unfold P_X11_told
        intro X49 X93 h49 h93
        simp +decide only [h1, h2, h3, within_iff, in_iff, all_eq, bz_0, bz_1, bzT, bzF, nem, bz_or, i64, Int32.reduceToInt, Int64.reduceToInt, and_true, true_and, and_self, not_true_eq_false, not_false_eq_true, false_implies, true_implies, eq_self, implies_true, false_and, and_false, Classical.not_not, Int.reduceLT, Int.reduceLE, Int.reduceEq, reduceIte, reduceCtorEq, and_imp, imp_false, false_or, or_false, true_or, or_true]
        exact hC
    · simp +decide only [P_X10_told, P_X10_isShift, h1, h2, within_iff, in_iff, all_eq, bz_0, bz_1, bzT, bzF, nem, bz_or, i64, Int32.reduceToInt, Int64.reduceToInt, and_true, true_and, and_self, not_true_eq_false, not_false_eq_true, false_implies, true_implies, eq_self, implies_true, false_and, and_false, Classical.not_not, Int.reduceLT, Int.reduceLE, Int.reduceEq, reduceIte, reduceCtorEq, and_imp, imp_false, false_or, or_false, true_or, or_true]
      unfold P_X11_told
      intro X49 X93 h49 h93
      simp +decide only [h1, h2, within_iff, in_iff, all_eq, bz_0, bz_1, bzT, bzF, nem, bz_or, i64, Int32.reduceToInt, Int64.reduceToInt, and_true, true_and, and_self, not_true_eq_false, not_false_eq_true, false_implies, true_implies, eq_self, implies_true, false_and, and_false, Classical.not_not, Int.reduceLT, Int.reduceLE, Int.reduceEq, reduceIte, reduceCtorEq, and_imp, imp_false, false_or, or_false, true_or, or_true]
      exact hC
  · simp +decide only [P_X10_told, P_X10_isShift, h1, within_iff, in_iff, all_eq, bz_0, bz_1, bzT, bzF, nem, bz_or, i64, Int32.reduceToInt, Int64.reduceToInt, and_true, true_and, and_self, not_true_eq_false, not_false_eq_true, false_implies, true_implies, eq_self, implies_true, false_and, and_false, Classical.not_not, Int.reduceLT, Int.reduceLE, Int.reduceEq, reduceIte, reduceCtorEq, and_imp, imp_false, false_or, or_false, true_or, or_true]
    unfold P_X11_told
    intro X49 X93 h49 h93
    simp +decide only [h1, within_iff, in_iff, all_eq, bz_0, bz_1, bzT, bzF, nem, bz_or, i64, Int32.reduceToInt, Int64.reduceToInt, and_true, true_and, and_self, not_true_eq_false, not_false_eq_true, false_implies, true_implies, eq_self, implies_true, false_and, and_false, Classical.not_not, Int.reduceLT, Int.reduceLE, Int.reduceEq, reduceIte, reduceCtorEq, and_imp, imp_false, false_or, or_false, true_or, or_true]
    exact hC
end toldM
