theorem drawX_iff (post : Int32 → Prop) (n m x : Int32) : P_X10_isDraw post n m x ↔ post (bz ((1 ≤ n.toInt ∧ n.toInt ≤ 60) ∧ (1 ≤ m.toInt ∧ m.toInt ≤ n.toInt) ∧ 0 ≤ x.toInt ∧ x.toInt ≤ m.toInt)) := by
  by_cases h1 : 1 ≤ n.toInt ∧ n.toInt ≤ 60
  · by_cases h2 : 1 ≤ m.toInt ∧ m.toInt ≤ n.toInt
    · by_cases h3 : 0 ≤ x.toInt ∧ x.toInt ≤ m.toInt
      · simp +decide only [P_X10_isDraw, h1, h2, h3, within_iff, in_iff, all_eq, bz_0, bz_1, bzT, bzF, nem, bz_or, i64, Int32.reduceToInt, Int64.reduceToInt, and_true, true_and, and_self, not_true_eq_false, not_false_eq_true, false_implies, true_implies, eq_self, implies_true, false_and, and_false, Classical.not_not, Int.reduceLT, Int.reduceLE, Int.reduceEq, reduceIte, reduceCtorEq, and_imp, imp_false, false_or, or_false, true_or, or_true]
      · simp +decide only [P_X10_isDraw, h1, h2, h3, within_iff, in_iff, all_eq, bz_0, bz_1, bzT, bzF, nem, bz_or, i64, Int32.reduceToInt, Int64.reduceToInt, and_true, true_and, and_self, not_true_eq_false, not_false_eq_true, false_implies, true_implies, eq_self, implies_true, false_and, and_false, Classical.not_not, Int.reduceLT, Int.reduceLE, Int.reduceEq, reduceIte, reduceCtorEq, and_imp, imp_false, false_or, or_false, true_or, or_true]
    · simp +decide only [P_X10_isDraw, h1, h2, within_iff, in_iff, all_eq, bz_0, bz_1, bzT, bzF, nem, bz_or, i64, Int32.reduceToInt, Int64.reduceToInt, and_true, true_and, and_self, not_true_eq_false, not_false_eq_true, false_implies, true_implies, eq_self, implies_true, false_and, and_false, Classical.not_not, Int.reduceLT, Int.reduceLE, Int.reduceEq, reduceIte, reduceCtorEq, and_imp, imp_false, false_or, or_false, true_or, or_true]
  · simp +decide only [P_X10_isDraw, h1, within_iff, in_iff, all_eq, bz_0, bz_1, bzT, bzF, nem, bz_or, i64, Int32.reduceToInt, Int64.reduceToInt, and_true, true_and, and_self, not_true_eq_false, not_false_eq_true, false_implies, true_implies, eq_self, implies_true, false_and, and_false, Classical.not_not, Int.reduceLT, Int.reduceLE, Int.reduceEq, reduceIte, reduceCtorEq, and_imp, imp_false, false_or, or_false, true_or, or_true]
theorem bags_iff (post : Int32 → Prop) (n m x : Int32) : P_X11_areBags post n m x ↔ post (bz ((1 ≤ n.toInt ∧ n.toInt ≤ 60) ∧ (1 ≤ m.toInt ∧ m.toInt ≤ n.toInt) ∧ 0 ≤ x.toInt ∧ x.toInt ≤ m.toInt)) := by
  by_cases h1 : 1 ≤ n.toInt ∧ n.toInt ≤ 60
  · by_cases h2 : 1 ≤ m.toInt ∧ m.toInt ≤ n.toInt
    · by_cases h3 : 0 ≤ x.toInt ∧ x.toInt ≤ m.toInt
      · simp +decide only [P_X11_areBags, h1, h2, h3, within_iff, in_iff, all_eq, bz_0, bz_1, bzT, bzF, nem, bz_or, i64, Int32.reduceToInt, Int64.reduceToInt, and_true, true_and, and_self, not_true_eq_false, not_false_eq_true, false_implies, true_implies, eq_self, implies_true, false_and, and_false, Classical.not_not, Int.reduceLT, Int.reduceLE, Int.reduceEq, reduceIte, reduceCtorEq, and_imp, imp_false, false_or, or_false, true_or, or_true]
      · simp +decide only [P_X11_areBags, h1, h2, h3, within_iff, in_iff, all_eq, bz_0, bz_1, bzT, bzF, nem, bz_or, i64, Int32.reduceToInt, Int64.reduceToInt, and_true, true_and, and_self, not_true_eq_false, not_false_eq_true, false_implies, true_implies, eq_self, implies_true, false_and, and_false, Classical.not_not, Int.reduceLT, Int.reduceLE, Int.reduceEq, reduceIte, reduceCtorEq, and_imp, imp_false, false_or, or_false, true_or, or_true]
    · simp +decide only [P_X11_areBags, h1, h2, within_iff, in_iff, all_eq, bz_0, bz_1, bzT, bzF, nem, bz_or, i64, Int32.reduceToInt, Int64.reduceToInt, and_true, true_and, and_self, not_true_eq_false, not_false_eq_true, false_implies, true_implies, eq_self, implies_true, false_and, and_false, Classical.not_not, Int.reduceLT, Int.reduceLE, Int.reduceEq, reduceIte, reduceCtorEq, and_imp, imp_false, false_or, or_false, true_or, or_true]
  · simp +decide only [P_X11_areBags, h1, within_iff, in_iff, all_eq, bz_0, bz_1, bzT, bzF, nem, bz_or, i64, Int32.reduceToInt, Int64.reduceToInt, and_true, true_and, and_self, not_true_eq_false, not_false_eq_true, false_implies, true_implies, eq_self, implies_true, false_and, and_false, Classical.not_not, Int.reduceLT, Int.reduceLE, Int.reduceEq, reduceIte, reduceCtorEq, and_imp, imp_false, false_or, or_false, true_or, or_true]
theorem nI_as {x : Int32} (h : 0 ≤ x.toInt) : x = nI x.toInt.toNat := by
  rw [fa_eq, nI_toInt (by have := fb_rng x; omega)]; omega
theorem eq_doubted {C : (Nat → Int64) → (Nat → Int64) → Prop} {f g mc : Nat → Int64} (hc : RC mc) (hC : ∀ a b, C a b) (p1 p2 p3 p4 : Int32) :
    P_X10_doubted (fun r a b => P_X11_doubted (fun r2 => ((r = r2 → C a b) ∧ (¬ r = r2 → False))) p1 p2 p3 p4 mc) p1 p2 p3 p4 f g := by
  by_cases h1 : (1 ≤ p1.toInt ∧ p1.toInt ≤ 60) ∧ (1 ≤ p2.toInt ∧ p2.toInt ≤ p1.toInt) ∧ 0 ≤ p3.toInt ∧ p3.toInt ≤ p2.toInt
  · have e1 : (p1 - p2).toInt = p1.toInt - p2.toInt := fb_subI (by omega) (by omega)
    have e2 : (p1 - p2 + p3).toInt = p1.toInt - p2.toInt + p3.toInt := by rw [fb_addI (by omega) (by omega), e1]
    by_cases h2 : p3.toInt ≤ p4.toInt ∧ p4.toInt ≤ p1.toInt - p2.toInt + p3.toInt
    · simp +decide only [P_X10_doubted, drawX_iff, h1, e2, h2, within_iff, in_iff, all_eq, bz_0, bz_1, bzT, bzF, nem, bz_or, i64, Int32.reduceToInt, Int64.reduceToInt, and_true, true_and, and_self, not_true_eq_false, not_false_eq_true, false_implies, true_implies, eq_self, implies_true, false_and, and_false, Classical.not_not, Int.reduceLT, Int.reduceLE, Int.reduceEq, reduceIte, reduceCtorEq, and_imp, imp_false, false_or, or_false, true_or, or_true]
      have a1 := nI_as (x := p1) (by omega)
      have a2 := nI_as (x := p2) (by omega)
      have a3 := nI_as (x := p3) (by omega)
      have a4 := nI_as (x := p4) (by omega)
      generalize hN : p1.toInt.toNat = N at a1
      generalize hM : p2.toInt.toNat = M at a2
      generalize hX : p3.toInt.toNat = X at a3
      generalize hT : p4.toInt.toNat = T at a4
      have goal : P_X0_isDoubted (fun r_5 a b => P_X11_doubted (fun r2 => (((if r_5 = 0 then (0 : Int32) else 1) = r2 → C a b) ∧ ¬ ¬ (if r_5 = 0 then (0 : Int32) else 1) = r2)) p1 p2 p3 p4 mc) (nI N) (nI M) (nI X) (nI T) f g := by
        refine isDoubtedX_i (by omega) (by omega) (by omega) (by omega) (fun a b => ?_)
        simp +decide only [P_X11_doubted, bags_iff, h1, e2, h2, within_iff, in_iff, all_eq, bz_0, bz_1, bzT, bzF, nem, bz_or, i64, Int32.reduceToInt, Int64.reduceToInt, and_true, true_and, and_self, not_true_eq_false, not_false_eq_true, false_implies, true_implies, eq_self, implies_true, false_and, and_false, Classical.not_not, Int.reduceLT, Int.reduceLE, Int.reduceEq, reduceIte, reduceCtorEq, and_imp, imp_false, false_or, or_false, true_or, or_true]
        rw [a1, a2, a3, a4]
        refine isDoubted_i hc (by omega) (by omega) (by omega) (by omega) ?_
        simp +decide only [within_iff, in_iff, all_eq, bz_0, bz_1, bzT, bzF, nem, bz_or, i64, Int32.reduceToInt, Int64.reduceToInt, and_true, true_and, and_self, not_true_eq_false, not_false_eq_true, false_implies, true_implies, eq_self, implies_true, false_and, and_false, Classical.not_not, Int.reduceLT, Int.reduceLE, Int.reduceEq, reduceIte, reduceCtorEq, and_imp, imp_false, false_or, or_false, true_or, or_true]
        exact hC a b
      rw [← a1, ← a2, ← a3, ← a4] at goal
      simpa only [Classical.not_not] using goal
    · simp +decide only [P_X10_doubted, P_X11_doubted, drawX_iff, bags_iff, h1, e2, h2, within_iff, in_iff, all_eq, bz_0, bz_1, bzT, bzF, nem, bz_or, i64, Int32.reduceToInt, Int64.reduceToInt, and_true, true_and, and_self, not_true_eq_false, not_false_eq_true, false_implies, true_implies, eq_self, implies_true, false_and, and_false, Classical.not_not, Int.reduceLT, Int.reduceLE, Int.reduceEq, reduceIte, reduceCtorEq, and_imp, imp_false, false_or, or_false, true_or, or_true]
      exact hC _ _
  · simp +decide only [P_X10_doubted, P_X11_doubted, drawX_iff, bags_iff, h1, within_iff, in_iff, all_eq, bz_0, bz_1, bzT, bzF, nem, bz_or, i64, Int32.reduceToInt, Int64.reduceToInt, and_true, true_and, and_self, not_true_eq_false, not_false_eq_true, false_implies, true_implies, eq_self, implies_true, false_and, and_false, Classical.not_not, Int.reduceLT, Int.reduceLE, Int.reduceEq, reduceIte, reduceCtorEq, and_imp, imp_false, false_or, or_false, true_or, or_true]
    exact hC _ _
/-- the first, the last T that is not doubted -/
noncomputable def fsT (N M X : Nat) : Nat → Nat → Int32
  | 0, _ => -9
  | m + 1, t => if dbV N M X t = 0 then nI t else fsT N M X m (t + 1)
noncomputable def laT (N M X : Nat) : Nat → Int32
  | 0 => -9
  | m + 1 => if dbV N M X (X + m) = 0 then nI (X + m) else laT N M X m
theorem leastKept_i {post : Int32 → (Nat → Int64) → (Nat → Int64) → Prop} {N M X : Nat} (hN : N ≤ 60) (hM : M ≤ N) (hX0 : X ≤ M) {f g : Nat → Int64} (h : ∀ a b, post (fsT N M X (N - M + 1) X) a b) : P_X0_leastKept post (nI N) (nI M) (nI X) f g := by
  unfold P_X0_leastKept
  intro X3 hX
  have e2 : nI N - nI M + nI X = nI (N - M + X) := by rw [pk_sub hM, nI_add]
  have key : ∀ m t : Nat, t + m = N - M + X + 1 → (∀ a b, post (fsT N M X m t) a b) → ∀ a b, X3 (nI t) a b := by
    intro m
    induction m with
    | zero =>
      intro t ht hp a b
      apply hX
      have c : nI (N - M + X) < nI t := (nI_ltI (by omega) (by omega)).mpr (by omega)
      simp +decide only [e2, c, within_iff, in_iff, all_eq, bz_0, bz_1, bzT, bzF, nem, bz_or, i64, Int32.reduceToInt, Int64.reduceToInt, and_true, true_and, and_self, not_true_eq_false, not_false_eq_true, false_implies, true_implies, eq_self, implies_true, false_and, and_false, Classical.not_not, Int.reduceLT, Int.reduceLE, Int.reduceEq, reduceIte, reduceCtorEq, and_imp, imp_false, false_or, or_false, true_or, or_true]
      exact hp a b
    | succ m ih =>
      intro t ht hp a b
      have ih := ih (t + 1) (by omega)
      apply hX
      have c : ¬ nI (N - M + X) < nI t := fun z => by have := (nI_ltI (by omega) (by omega)).mp z; omega
      simp +decide only [e2, c, within_iff, in_iff, all_eq, bz_0, bz_1, bzT, bzF, nem, bz_or, i64, Int32.reduceToInt, Int64.reduceToInt, and_true, true_and, and_self, not_true_eq_false, not_false_eq_true, false_implies, true_implies, eq_self, implies_true, false_and, and_false, Classical.not_not, Int.reduceLT, Int.reduceLE, Int.reduceEq, reduceIte, reduceCtorEq, and_imp, imp_false, false_or, or_false, true_or, or_true]
      refine isDoubtedX_i hN hM hX0 (by omega) (fun a b => ?_)
      rw [fsT] at hp
      by_cases q : dbV N M X t = 0
      · rw [if_pos q] at hp
        simp +decide only [q, within_iff, in_iff, all_eq, bz_0, bz_1, bzT, bzF, nem, bz_or, i64, Int32.reduceToInt, Int64.reduceToInt, and_true, true_and, and_self, not_true_eq_false, not_false_eq_true, false_implies, true_implies, eq_self, implies_true, false_and, and_false, Classical.not_not, Int.reduceLT, Int.reduceLE, Int.reduceEq, reduceIte, reduceCtorEq, and_imp, imp_false, false_or, or_false, true_or, or_true]
        exact hp a b
      · rw [if_neg q] at hp
        simp +decide only [q, nI_1 t, within_iff, in_iff, all_eq, bz_0, bz_1, bzT, bzF, nem, bz_or, i64, Int32.reduceToInt, Int64.reduceToInt, and_true, true_and, and_self, not_true_eq_false, not_false_eq_true, false_implies, true_implies, eq_self, implies_true, false_and, and_false, Classical.not_not, Int.reduceLT, Int.reduceLE, Int.reduceEq, reduceIte, reduceCtorEq, and_imp, imp_false, false_or, or_false, true_or, or_true]
        exact ih hp a b
  exact key (N - M + 1) X (by omega) h f g
theorem greatestKept_i {post : Int32 → (Nat → Int64) → (Nat → Int64) → Prop} {N M X : Nat} (hN : N ≤ 60) (hM : M ≤ N) (hX0 : X ≤ M) {f g : Nat → Int64} (h : ∀ a b, post (laT N M X (N - M + 1)) a b) : P_X0_greatestKept post (nI N) (nI M) (nI X) f g := by
  unfold P_X0_greatestKept
  intro X7 hX
  have e2 : nI N - nI M + nI X = nI (N - M + X) := by rw [pk_sub hM, nI_add]
  have eX : (nI X).toInt = X := nI_toInt (by omega)
  have key : ∀ m : Nat, m ≤ N - M + 1 → (∀ a b, post (laT N M X m) a b) → ∀ x : Int32, x.toInt = (X : Int) + m - 1 → ∀ a b, X7 x a b := by
    intro m
    induction m with
    | zero =>
      intro hm hp x hx a b
      apply hX
      have c : x < nI X := by rw [fa_lt, eX]; omega
      simp +decide only [c, within_iff, in_iff, all_eq, bz_0, bz_1, bzT, bzF, nem, bz_or, i64, Int32.reduceToInt, Int64.reduceToInt, and_true, true_and, and_self, not_true_eq_false, not_false_eq_true, false_implies, true_implies, eq_self, implies_true, false_and, and_false, Classical.not_not, Int.reduceLT, Int.reduceLE, Int.reduceEq, reduceIte, reduceCtorEq, and_imp, imp_false, false_or, or_false, true_or, or_true]
      exact hp a b
    | succ m ih =>
      intro hm hp x hx a b
      have ih := ih (by omega)
      apply hX
      have c : ¬ x < nI X := by rw [fa_lt, eX]; omega
      have ex : x = nI (X + m) := by rw [fa_eq, nI_toInt (by omega), hx]; omega
      simp +decide only [c, within_iff, in_iff, all_eq, bz_0, bz_1, bzT, bzF, nem, bz_or, i64, Int32.reduceToInt, Int64.reduceToInt, and_true, true_and, and_self, not_true_eq_false, not_false_eq_true, false_implies, true_implies, eq_self, implies_true, false_and, and_false, Classical.not_not, Int.reduceLT, Int.reduceLE, Int.reduceEq, reduceIte, reduceCtorEq, and_imp, imp_false, false_or, or_false, true_or, or_true]
      rw [ex]
      refine isDoubtedX_i hN hM hX0 (by omega) (fun a b => ?_)
      rw [laT] at hp
      by_cases q : dbV N M X (X + m) = 0
      · rw [if_pos q] at hp
        simp +decide only [q, within_iff, in_iff, all_eq, bz_0, bz_1, bzT, bzF, nem, bz_or, i64, Int32.reduceToInt, Int64.reduceToInt, and_true, true_and, and_self, not_true_eq_false, not_false_eq_true, false_implies, true_implies, eq_self, implies_true, false_and, and_false, Classical.not_not, Int.reduceLT, Int.reduceLE, Int.reduceEq, reduceIte, reduceCtorEq, and_imp, imp_false, false_or, or_false, true_or, or_true]
        exact hp a b
      · rw [if_neg q] at hp
        simp +decide only [q, within_iff, in_iff, all_eq, bz_0, bz_1, bzT, bzF, nem, bz_or, i64, Int32.reduceToInt, Int64.reduceToInt, and_true, true_and, and_self, not_true_eq_false, not_false_eq_true, false_implies, true_implies, eq_self, implies_true, false_and, and_false, Classical.not_not, Int.reduceLT, Int.reduceLE, Int.reduceEq, reduceIte, reduceCtorEq, and_imp, imp_false, false_or, or_false, true_or, or_true]
        refine ih hp _ ?_ a b
        have em : (-1 : Int32).toInt = -1 := by decide
        have e3 : (nI (X + m)).toInt = ((X + m : Nat) : Int) := nI_toInt (by omega)
        rw [fb_addI (by omega) (by omega), em, e3]; omega
  simp +decide only [e2, within_iff, in_iff, all_eq, bz_0, bz_1, bzT, bzF, nem, bz_or, i64, Int32.reduceToInt, Int64.reduceToInt, and_true, true_and, and_self, not_true_eq_false, not_false_eq_true, false_implies, true_implies, eq_self, implies_true, false_and, and_false, Classical.not_not, Int.reduceLT, Int.reduceLE, Int.reduceEq, reduceIte, reduceCtorEq, and_imp, imp_false, false_or, or_false, true_or, or_true]
  exact key (N - M + 1) (by omega) h _ (by rw [nI_toInt (by omega)]; omega) f g
theorem eq_bound {C : (Nat → Int64) → (Nat → Int64) → Prop} {f g mc : Nat → Int64} (hc : RC mc) (hC : ∀ a b, C a b) (p1 p2 p3 p4 : Int32) :
    P_X10_bound (fun r a b => P_X11_bound (fun r2 => ((r = r2 → C a b) ∧ (¬ r = r2 → False))) p1 p2 p3 p4 mc) p1 p2 p3 p4 f g := by
  by_cases h1 : (1 ≤ p1.toInt ∧ p1.toInt ≤ 60) ∧ (1 ≤ p2.toInt ∧ p2.toInt ≤ p1.toInt) ∧ 0 ≤ p3.toInt ∧ p3.toInt ≤ p2.toInt
  · obtain ⟨N, eN, rfl⟩ : ∃ N : Nat, p1.toInt = N ∧ p1 = nI N := ⟨p1.toInt.toNat, by omega, nI_as (by omega)⟩
    obtain ⟨M, eM, rfl⟩ : ∃ M : Nat, p2.toInt = M ∧ p2 = nI M := ⟨p2.toInt.toNat, by omega, nI_as (by omega)⟩
    obtain ⟨X, eX, rfl⟩ : ∃ X : Nat, p3.toInt = X ∧ p3 = nI X := ⟨p3.toInt.toNat, by omega, nI_as (by omega)⟩
    have hN : N ≤ 60 := by omega
    have hM : M ≤ N := by omega
    have hX : X ≤ M := by omega
    have e2 : nI N - nI M + nI X = nI (N - M + X) := by rw [pk_sub hM, nI_add]
    have nn : ∀ t : Nat, t ≤ 200 → ¬ nI t = -9 := fun t ht e => by
      have := nI_toInt (n := t) (by omega)
      rw [e] at this
      have m9 : (-9 : Int32).toInt = -9 := by decide
      omega
    simp +decide only [P_X10_bound, drawX_iff, h1, within_iff, in_iff, all_eq, bz_0, bz_1, bzT, bzF, nem, bz_or, i64, Int32.reduceToInt, Int64.reduceToInt, and_true, true_and, and_self, not_true_eq_false, not_false_eq_true, false_implies, true_implies, eq_self, implies_true, false_and, and_false, Classical.not_not, Int.reduceLT, Int.reduceLE, Int.reduceEq, reduceIte, reduceCtorEq, and_imp, imp_false, false_or, or_false, true_or, or_true]
    refine ⟨fun q4 => leastKept_i hN hM hX (fun a b => ?_), fun q4 => greatestKept_i hN hM hX (fun a b => ?_)⟩
    · generalize hr : fsT N M X (N - M + 1) X = r
      unfold P_X11_bound
      intro X19 h19
      simp +decide only [bags_iff, h1, within_iff, in_iff, all_eq, bz_0, bz_1, bzT, bzF, nem, bz_or, i64, Int32.reduceToInt, Int64.reduceToInt, and_true, true_and, and_self, not_true_eq_false, not_false_eq_true, false_implies, true_implies, eq_self, implies_true, false_and, and_false, Classical.not_not, Int.reduceLT, Int.reduceLE, Int.reduceEq, reduceIte, reduceCtorEq, and_imp, imp_false, false_or, or_false, true_or, or_true]
      have fin : ∀ m t : Nat, t + m = N - M + X + 1 → ∀ v : Int32, ¬ v = -9 → v = r → X19 v (nI t) := by
        intro m
        induction m with
        | zero =>
          intro t ht v hv he
          apply h19
          have c : nI (N - M + X) < nI t := (nI_ltI (by omega) (by omega)).mpr (by omega)
          simp +decide only [e2, c, he, within_iff, in_iff, all_eq, bz_0, bz_1, bzT, bzF, nem, bz_or, i64, Int32.reduceToInt, Int64.reduceToInt, and_true, true_and, and_self, not_true_eq_false, not_false_eq_true, false_implies, true_implies, eq_self, implies_true, false_and, and_false, Classical.not_not, Int.reduceLT, Int.reduceLE, Int.reduceEq, reduceIte, reduceCtorEq, and_imp, imp_false, false_or, or_false, true_or, or_true]
          exact hC a b
        | succ m ih =>
          intro t ht v hv he
          have ih := ih (t + 1) (by omega) v hv he
          apply h19
          have c : ¬ nI (N - M + X) < nI t := fun z => by have := (nI_ltI (by omega) (by omega)).mp z; omega
          simp +decide only [e2, c, within_iff, in_iff, all_eq, bz_0, bz_1, bzT, bzF, nem, bz_or, i64, Int32.reduceToInt, Int64.reduceToInt, and_true, true_and, and_self, not_true_eq_false, not_false_eq_true, false_implies, true_implies, eq_self, implies_true, false_and, and_false, Classical.not_not, Int.reduceLT, Int.reduceLE, Int.reduceEq, reduceIte, reduceCtorEq, and_imp, imp_false, false_or, or_false, true_or, or_true]
          refine isDoubted_i hc hN hM hX (by omega) ?_
          rcases dbV_0 N M X t with q | q
          · simp +decide only [q, q4, hv, nI_1 t, within_iff, in_iff, all_eq, bz_0, bz_1, bzT, bzF, nem, bz_or, i64, Int32.reduceToInt, Int64.reduceToInt, and_true, true_and, and_self, not_true_eq_false, not_false_eq_true, false_implies, true_implies, eq_self, implies_true, false_and, and_false, Classical.not_not, Int.reduceLT, Int.reduceLE, Int.reduceEq, reduceIte, reduceCtorEq, and_imp, imp_false, false_or, or_false, true_or, or_true]
            exact ih
          · simp +decide only [q, nI_1 t, within_iff, in_iff, all_eq, bz_0, bz_1, bzT, bzF, nem, bz_or, i64, Int32.reduceToInt, Int64.reduceToInt, and_true, true_and, and_self, not_true_eq_false, not_false_eq_true, false_implies, true_implies, eq_self, implies_true, false_and, and_false, Classical.not_not, Int.reduceLT, Int.reduceLE, Int.reduceEq, reduceIte, reduceCtorEq, and_imp, imp_false, false_or, or_false, true_or, or_true]
            exact ih
      have key : ∀ m t : Nat, t + m = N - M + X + 1 → fsT N M X m t = r → X19 (-9) (nI t) := by
        intro m
        induction m with
        | zero =>
          intro t ht he
          apply h19
          have c : nI (N - M + X) < nI t := (nI_ltI (by omega) (by omega)).mpr (by omega)
          have he2 : r = -9 := he.symm
          simp +decide only [e2, c, he2, within_iff, in_iff, all_eq, bz_0, bz_1, bzT, bzF, nem, bz_or, i64, Int32.reduceToInt, Int64.reduceToInt, and_true, true_and, and_self, not_true_eq_false, not_false_eq_true, false_implies, true_implies, eq_self, implies_true, false_and, and_false, Classical.not_not, Int.reduceLT, Int.reduceLE, Int.reduceEq, reduceIte, reduceCtorEq, and_imp, imp_false, false_or, or_false, true_or, or_true]
          exact hC a b
        | succ m ih =>
          intro t ht he
          have ih := ih (t + 1) (by omega)
          apply h19
          have c : ¬ nI (N - M + X) < nI t := fun z => by have := (nI_ltI (by omega) (by omega)).mp z; omega
          simp +decide only [e2, c, within_iff, in_iff, all_eq, bz_0, bz_1, bzT, bzF, nem, bz_or, i64, Int32.reduceToInt, Int64.reduceToInt, and_true, true_and, and_self, not_true_eq_false, not_false_eq_true, false_implies, true_implies, eq_self, implies_true, false_and, and_false, Classical.not_not, Int.reduceLT, Int.reduceLE, Int.reduceEq, reduceIte, reduceCtorEq, and_imp, imp_false, false_or, or_false, true_or, or_true]
          refine isDoubted_i hc hN hM hX (by omega) ?_
          rw [fsT] at he
          rcases dbV_0 N M X t with q | q
          · rw [if_pos q] at he
            simp +decide only [q, q4, nI_1 t, within_iff, in_iff, all_eq, bz_0, bz_1, bzT, bzF, nem, bz_or, i64, Int32.reduceToInt, Int64.reduceToInt, and_true, true_and, and_self, not_true_eq_false, not_false_eq_true, false_implies, true_implies, eq_self, implies_true, false_and, and_false, Classical.not_not, Int.reduceLT, Int.reduceLE, Int.reduceEq, reduceIte, reduceCtorEq, and_imp, imp_false, false_or, or_false, true_or, or_true]
            exact fin m (t + 1) (by omega) (nI t) (nn t (by omega)) he
          · rw [if_neg (by rw [q]; decide)] at he
            simp +decide only [q, nI_1 t, within_iff, in_iff, all_eq, bz_0, bz_1, bzT, bzF, nem, bz_or, i64, Int32.reduceToInt, Int64.reduceToInt, and_true, true_and, and_self, not_true_eq_false, not_false_eq_true, false_implies, true_implies, eq_self, implies_true, false_and, and_false, Classical.not_not, Int.reduceLT, Int.reduceLE, Int.reduceEq, reduceIte, reduceCtorEq, and_imp, imp_false, false_or, or_false, true_or, or_true]
            exact ih he
      exact key (N - M + 1) X (by omega) hr
    · generalize hr : laT N M X (N - M + 1) = r
      unfold P_X11_bound
      intro X19 h19
      simp +decide only [bags_iff, h1, within_iff, in_iff, all_eq, bz_0, bz_1, bzT, bzF, nem, bz_or, i64, Int32.reduceToInt, Int64.reduceToInt, and_true, true_and, and_self, not_true_eq_false, not_false_eq_true, false_implies, true_implies, eq_self, implies_true, false_and, and_false, Classical.not_not, Int.reduceLT, Int.reduceLE, Int.reduceEq, reduceIte, reduceCtorEq, and_imp, imp_false, false_or, or_false, true_or, or_true]
      have key : ∀ m k : Nat, k + m = N - M + 1 → X19 (laT N M X k) (nI (X + k)) := by
        intro m
        induction m with
        | zero =>
          intro k hk
          have ek : k = N - M + 1 := by omega
          apply h19
          have c : nI (N - M + X) < nI (X + k) := (nI_ltI (by omega) (by omega)).mpr (by omega)
          have he : laT N M X k = r := by rw [ek]; exact hr
          simp +decide only [e2, c, he, within_iff, in_iff, all_eq, bz_0, bz_1, bzT, bzF, nem, bz_or, i64, Int32.reduceToInt, Int64.reduceToInt, and_true, true_and, and_self, not_true_eq_false, not_false_eq_true, false_implies, true_implies, eq_self, implies_true, false_and, and_false, Classical.not_not, Int.reduceLT, Int.reduceLE, Int.reduceEq, reduceIte, reduceCtorEq, and_imp, imp_false, false_or, or_false, true_or, or_true]
          exact hC a b
        | succ m ih =>
          intro k hk
          have ih := ih (k + 1) (by omega)
          apply h19
          have c : ¬ nI (N - M + X) < nI (X + k) := fun z => by have := (nI_ltI (by omega) (by omega)).mp z; omega
          simp +decide only [e2, c, within_iff, in_iff, all_eq, bz_0, bz_1, bzT, bzF, nem, bz_or, i64, Int32.reduceToInt, Int64.reduceToInt, and_true, true_and, and_self, not_true_eq_false, not_false_eq_true, false_implies, true_implies, eq_self, implies_true, false_and, and_false, Classical.not_not, Int.reduceLT, Int.reduceLE, Int.reduceEq, reduceIte, reduceCtorEq, and_imp, imp_false, false_or, or_false, true_or, or_true]
          refine isDoubted_i hc hN hM hX (by omega) ?_
          rw [laT] at ih
          have e1 : nI (X + k) + 1 = nI (X + (k + 1)) := nI_1 (X + k)
          rcases dbV_0 N M X (X + k) with q | q
          · rw [if_pos q] at ih
            simp +decide only [q, q4, e1, within_iff, in_iff, all_eq, bz_0, bz_1, bzT, bzF, nem, bz_or, i64, Int32.reduceToInt, Int64.reduceToInt, and_true, true_and, and_self, not_true_eq_false, not_false_eq_true, false_implies, true_implies, eq_self, implies_true, false_and, and_false, Classical.not_not, Int.reduceLT, Int.reduceLE, Int.reduceEq, reduceIte, reduceCtorEq, and_imp, imp_false, false_or, or_false, true_or, or_true]
            exact ih
          · rw [if_neg (by rw [q]; decide)] at ih
            simp +decide only [q, e1, within_iff, in_iff, all_eq, bz_0, bz_1, bzT, bzF, nem, bz_or, i64, Int32.reduceToInt, Int64.reduceToInt, and_true, true_and, and_self, not_true_eq_false, not_false_eq_true, false_implies, true_implies, eq_self, implies_true, false_and, and_false, Classical.not_not, Int.reduceLT, Int.reduceLE, Int.reduceEq, reduceIte, reduceCtorEq, and_imp, imp_false, false_or, or_false, true_or, or_true]
            exact ih
      exact key (N - M + 1) 0 (by omega)
  · simp +decide only [P_X10_bound, drawX_iff, h1, within_iff, in_iff, all_eq, bz_0, bz_1, bzT, bzF, nem, bz_or, i64, Int32.reduceToInt, Int64.reduceToInt, and_true, true_and, and_self, not_true_eq_false, not_false_eq_true, false_implies, true_implies, eq_self, implies_true, false_and, and_false, Classical.not_not, Int.reduceLT, Int.reduceLE, Int.reduceEq, reduceIte, reduceCtorEq, and_imp, imp_false, false_or, or_false, true_or, or_true]
    unfold P_X11_bound
    intro X19 h19
    simp +decide only [bags_iff, h1, within_iff, in_iff, all_eq, bz_0, bz_1, bzT, bzF, nem, bz_or, i64, Int32.reduceToInt, Int64.reduceToInt, and_true, true_and, and_self, not_true_eq_false, not_false_eq_true, false_implies, true_implies, eq_self, implies_true, false_and, and_false, Classical.not_not, Int.reduceLT, Int.reduceLE, Int.reduceEq, reduceIte, reduceCtorEq, and_imp, imp_false, false_or, or_false, true_or, or_true]
    exact hC _ _
