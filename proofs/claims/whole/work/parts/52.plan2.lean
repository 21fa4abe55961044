/-- a state from its numbers -/
def mkP (s : Nat → Nat) : Nat → Nat
  | 0 => 0
  | l + 1 => mkP s l + s l * 2 ^ (4 * l)
theorem mkP_lt {s : Nat → Nat} (hs : ∀ l, l < 4 → s l < 16) : ∀ l : Nat, l ≤ 4 → mkP s l < 2 ^ (4 * l)
  | 0, _ => by simp [mkP]
  | l + 1, h => by
    have h1 := mkP_lt hs l (by omega)
    have h2 := hs l (by omega)
    have e : 2 ^ (4 * (l + 1)) = 16 * 2 ^ (4 * l) := by rw [Nat.mul_add, Nat.pow_add]; omega
    have h3 : s l * 2 ^ (4 * l) ≤ 15 * 2 ^ (4 * l) := Nat.mul_le_mul (by omega) (Nat.le_refl _)
    rw [mkP, e]
    omega
theorem dg_mk {s : Nat → Nat} (hs : ∀ l, l < 4 → s l < 16) {l : Nat} (hl : l < 4) : dgE (mkP s 4) l = s l := by
  have h0 := hs 0 (by omega)
  have h1 := hs 1 (by omega)
  have h2 := hs 2 (by omega)
  have h3 := hs 3 (by omega)
  have e : mkP s 4 = s 0 + s 1 * 16 + s 2 * 256 + s 3 * 4096 := by simp [mkP]
  unfold dgE
  rw [e]
  rcases (show l = 0 ∨ l = 1 ∨ l = 2 ∨ l = 3 by omega) with rfl | rfl | rfl | rfl <;> simp only [Nat.reduceMul, Nat.reducePow] <;> omega
theorem still_i {post : Int32 → Prop} {s : Nat → Nat} {l : Nat} (hs : ∀ l, l < 4 → s l < 16) (hl : l < 4) (h : post (nI (s l))) : P_X7_lastsStill post (nI (mkP s 4)) (nI l) := by
  have := mkP_lt hs 4 (by omega)
  refine lastsStill_i (by omega) hl ?_
  rw [dg_mk hs hl]; exact h
/-- a set from its bits -/
def stP (f : Nat → Bool) : Nat → Nat
  | 0 => 0
  | l + 1 => stP f l + (if f l then 1 else 0) * 2 ^ l
theorem stP_lt (f : Nat → Bool) : ∀ l : Nat, stP f l < 2 ^ l
  | 0 => by simp [stP]
  | l + 1 => by
    have h1 := stP_lt f l
    rw [stP, Nat.pow_succ]
    split <;> omega
theorem stP_bit (f : Nat → Bool) {l : Nat} (hl : l < 4) : (stP f 4).testBit l = f l := by
  have e : stP f 4 = (if f 0 then 1 else 0) + (if f 1 then 1 else 0) * 2 + (if f 2 then 1 else 0) * 4 + (if f 3 then 1 else 0) * 8 := by simp [stP]
  rw [e]
  have d : ∀ a b c d : Bool, ∀ l : Nat, l < 4 → ((if a then 1 else 0) + (if b then 1 else 0) * 2 + (if c then 1 else 0) * 4 + (if d then 1 else 0) * 8 : Nat).testBit l = (if l = 0 then a else if l = 1 then b else if l = 2 then c else d) := by decide
  rw [d _ _ _ _ l hl]
  rcases (show l = 0 ∨ l = 1 ∨ l = 2 ∨ l = 3 by omega) with rfl | rfl | rfl | rfl <;> rfl
theorem put1 (f : Nat → Bool) {l : Nat} {v : Int32} (hl : l < 4) (hv : v = if f l then 1 else 0) : nI (stP f l) ||| (v <<< (nI l &&& 31)) = nI (stP f (l + 1)) := by
  have h1 := stP_lt f l
  have hp : 2 ^ l ≤ 8 := by
    rcases (show l = 0 ∨ l = 1 ∨ l = 2 ∨ l = 3 by omega) with rfl | rfl | rfl | rfl <;> decide
  have ev : v = nI (if f l then 1 else 0) := by rw [hv]; split <;> rfl
  have sh : ((nI l &&& 31).toBitVec.smod 32).toNat = l := by
    rcases (show l = 0 ∨ l = 1 ∨ l = 2 ∨ l = 3 by omega) with rfl | rfl | rfl | rfl <;> decide
  have hm : (if f l then 1 else 0) * 2 ^ l ≤ 8 := by split <;> omega
  rw [ev, pk_shlN _ l sh (by omega), Int32.or_comm]
  have := fa_or_sum (a := stP f l) (k := l) (if f l then 1 else 0) h1
  rw [Nat.mul_comm] at this
  rw [this, stP]
  congr 1
  omega
theorem must_i {post : Int32 → Prop} {s : Nat → Nat} (hs : ∀ l, l < 4 → s l < 16) (h : post (nI (stP (fun l => s l == 0) 4))) : P_X7_lotsThatMust post (nI (mkP s 4)) := by
  unfold P_X7_lotsThatMust
  intro X hX
  have key : ∀ m i : Nat, i + m = 4 → X (nI (stP (fun l => s l == 0) i)) (nI i) := by
    intro m
    induction m with
    | zero =>
      intro i hi
      have e : i = 4 := by omega
      subst e
      apply hX
      have g : (4 : Int32) ≤ nI 4 := by decide
      simp +decide only [g, within_iff, in_iff, all_eq, bz_0, bz_1, bzT, bzF, nem, bz_or, i64, Int32.reduceToInt, Int64.reduceToInt, and_true, true_and, and_self, not_true_eq_false, not_false_eq_true, false_implies, true_implies, eq_self, implies_true, false_and, and_false, Classical.not_not, Int.reduceLT, Int.reduceLE, Int.reduceEq, reduceIte, reduceCtorEq, and_imp, imp_false, false_or, or_false, true_or, or_true]
      exact h
    | succ m ih =>
      intro i hi
      have ih := ih (i + 1) (by omega)
      apply hX
      have g : ¬ (4 : Int32) ≤ nI i := fun z => by have := (nI_leI (a := 4) (by omega) (by omega)).mp z; omega
      simp +decide only [g, within_iff, in_iff, all_eq, bz_0, bz_1, bzT, bzF, nem, bz_or, i64, Int32.reduceToInt, Int64.reduceToInt, and_true, true_and, and_self, not_true_eq_false, not_false_eq_true, false_implies, true_implies, eq_self, implies_true, false_and, and_false, Classical.not_not, Int.reduceLT, Int.reduceLE, Int.reduceEq, reduceIte, reduceCtorEq, and_imp, imp_false, false_or, or_false, true_or, or_true]
      refine still_i hs (by omega) ?_
      have h16 := hs i (by omega)
      have e : nI (s i) = 0 ↔ s i = 0 := by rw [fa_eq, nI_toInt (by omega)]; have : (0 : Int32).toInt = 0 := by decide
                                            omega
      have ep := put1 (fun l => s l == 0) (l := i) (v := if nI (s i) = 0 then 1 else 0) (by omega) (by simp only [e, beq_iff_eq])
      simp +decide only [ep, nI_1 i, within_iff, in_iff, all_eq, bz_0, bz_1, bzT, bzF, nem, bz_or, i64, Int32.reduceToInt, Int64.reduceToInt, and_true, true_and, and_self, not_true_eq_false, not_false_eq_true, false_implies, true_implies, eq_self, implies_true, false_and, and_false, Classical.not_not, Int.reduceLT, Int.reduceLE, Int.reduceEq, reduceIte, reduceCtorEq, and_imp, imp_false, false_or, or_false, true_or, or_true]
      exact ih
  exact key 4 0 (by omega)
theorem may_i {post : Int32 → Prop} {s rn : Nat → Nat} {m : Nat} {renewed : Nat → Int32} (hs : ∀ l, l < 4 → s l < 16) (hm : m < 16) (hr : ∀ l, l < 4 → renewed l = nI (rn l) ∧ rn l < 16) (h : post (nI (stP (fun l => decide (s l < min m (rn l))) 4))) : P_X7_lotsThatMay post (nI m) (nI (mkP s 4)) renewed := by
  unfold P_X7_lotsThatMay
  intro X hX
  have key : ∀ k i : Nat, i + k = 4 → X (nI (stP (fun l => decide (s l < min m (rn l))) i)) (nI i) := by
    intro k
    induction k with
    | zero =>
      intro i hi
      have e : i = 4 := by omega
      subst e
      apply hX
      have g : (4 : Int32) ≤ nI 4 := by decide
      simp +decide only [g, within_iff, in_iff, all_eq, bz_0, bz_1, bzT, bzF, nem, bz_or, i64, Int32.reduceToInt, Int64.reduceToInt, and_true, true_and, and_self, not_true_eq_false, not_false_eq_true, false_implies, true_implies, eq_self, implies_true, false_and, and_false, Classical.not_not, Int.reduceLT, Int.reduceLE, Int.reduceEq, reduceIte, reduceCtorEq, and_imp, imp_false, false_or, or_false, true_or, or_true]
      exact h
    | succ k ih =>
      intro i hi
      have ih := ih (i + 1) (by omega)
      apply hX
      have g : ¬ (4 : Int32) ≤ nI i := fun z => by have := (nI_leI (a := 4) (by omega) (by omega)).mp z; omega
      simp +decide only [g, within_iff, in_iff, all_eq, bz_0, bz_1, bzT, bzF, nem, bz_or, i64, Int32.reduceToInt, Int64.reduceToInt, and_true, true_and, and_self, not_true_eq_false, not_false_eq_true, false_implies, true_implies, eq_self, implies_true, false_and, and_false, Classical.not_not, Int.reduceLT, Int.reduceLE, Int.reduceEq, reduceIte, reduceCtorEq, and_imp, imp_false, false_or, or_false, true_or, or_true]
      refine still_i hs (by omega) ?_
      have h16 := hs i (by omega)
      obtain ⟨r1, r2⟩ := hr i (by omega)
      have e1 : (if nI (rn i) < nI m then nI (rn i) else nI m) = nI (min m (rn i)) := by
        by_cases q : rn i < m
        · rw [if_pos ((nI_ltI (by omega) (by omega)).mpr q), Nat.min_eq_right (by omega)]
        · rw [if_neg (fun z => q ((nI_ltI (by omega) (by omega)).mp z)), Nat.min_eq_left (by omega)]
      have e2 : nI (min m (rn i)) ≤ nI (s i) ↔ min m (rn i) ≤ s i := nI_leI (by omega) (by omega)
      have ep := put1 (fun l => decide (s l < min m (rn l))) (l := i) (v := if (if min m (rn i) ≤ s i then (0 : Int32) else 1) = 0 then 0 else 1) (by omega) (by
        by_cases q : min m (rn i) ≤ s i
        · rw [if_pos q, if_pos rfl, if_neg (by rw [decide_eq_true_eq]; omega)]
        · rw [if_neg q, if_neg (by decide), if_pos (by rw [decide_eq_true_eq]; omega)])
      simp +decide only [nIv (i := i) (N := 4) (by omega) (by omega), nIc (i := i) (by omega), r1, e1, e2, ep, nI_1 i, within_iff, in_iff, all_eq, bz_0, bz_1, bzT, bzF, nem, bz_or, i64, Int32.reduceToInt, Int64.reduceToInt, and_true, true_and, and_self, not_true_eq_false, not_false_eq_true, false_implies, true_implies, eq_self, implies_true, false_and, and_false, Classical.not_not, Int.reduceLT, Int.reduceLE, Int.reduceEq, reduceIte, reduceCtorEq, and_imp, imp_false, false_or, or_false, true_or, or_true]
      exact ih
  exact key 4 0 (by omega)
theorem bitI : ∀ n : Nat, n < 16 → ∀ l : Nat, l < 4 → (((nI n >>> (nI l &&& 31)) &&& 1 = (1 : Int32)) ↔ n.testBit l = true) := by decide +kernel
theorem after_i {post : Int32 → Prop} {s rn : Nat → Nat} {m n : Nat} {renewed : Nat → Int32} (hs : ∀ l, l < 4 → s l < 16) (hm : m < 16) (hn : n < 16) (hr : ∀ l, l < 4 → renewed l = nI (rn l) ∧ rn l < 16) (h : post (nI (mkP (aftS rn m s n) 4))) : P_X7_after post (nI m) (nI (mkP s 4)) (nI n) renewed := by
  unfold P_X7_after
  intro X6 X38 hX h38
  have ha : ∀ l, l < 4 → aftS rn m s n l < 16 := fun l hl => by unfold aftS; omega
  have key : ∀ k i : Nat, i + k = 4 → X6 (nI (mkP (aftS rn m s n) i)) (nI i) := by
    intro k
    induction k with
    | zero =>
      intro i hi
      have e : i = 4 := by omega
      subst e
      apply hX
      have g : (4 : Int32) ≤ nI 4 := by decide
      simp +decide only [g, within_iff, in_iff, all_eq, bz_0, bz_1, bzT, bzF, nem, bz_or, i64, Int32.reduceToInt, Int64.reduceToInt, and_true, true_and, and_self, not_true_eq_false, not_false_eq_true, false_implies, true_implies, eq_self, implies_true, false_and, and_false, Classical.not_not, Int.reduceLT, Int.reduceLE, Int.reduceEq, reduceIte, reduceCtorEq, and_imp, imp_false, false_or, or_false, true_or, or_true]
      exact h
    | succ k ih =>
      intro i hi
      have ih := ih (i + 1) (by omega)
      have st : ∀ v : Nat, v < 16 → v = (if n.testBit i then rn i else s i) → X38 (nI (mkP (aftS rn m s n) i)) (nI i) (nI v) := by
        intro v hv ev
        apply h38
        have e1 : (if nI v < nI m then nI v else nI m) = nI (min m v) := by
          by_cases q : v < m
          · rw [if_pos ((nI_ltI (by omega) (by omega)).mpr q), Nat.min_eq_right (by omega)]
          · rw [if_neg (fun z => q ((nI_ltI (by omega) (by omega)).mp z)), Nat.min_eq_left (by omega)]
        have e2 : (if 0 < nI (min m v) - 1 then nI (min m v) - 1 else (0 : Int32)) = nI (min m v - 1) := by
          have a : ∀ x : Nat, x < 16 → (if 0 < nI x - 1 then nI x - 1 else (0 : Int32)) = nI (x - 1) := by decide +kernel
          exact a _ (by omega)
        have e3 : min m v - 1 = aftS rn m s n i := by unfold aftS; rw [← ev]
        simp +decide only [e1, e2, put4 (E := mkP (aftS rn m s n) i) (d := min m v - 1) (l := i) (mkP_lt ha i (by omega)) (by omega) (by omega), nI_1 i, within_iff, in_iff, all_eq, bz_0, bz_1, bzT, bzF, nem, bz_or, i64, Int32.reduceToInt, Int64.reduceToInt, and_true, true_and, and_self, not_true_eq_false, not_false_eq_true, false_implies, true_implies, eq_self, implies_true, false_and, and_false, Classical.not_not, Int.reduceLT, Int.reduceLE, Int.reduceEq, reduceIte, reduceCtorEq, and_imp, imp_false, false_or, or_false, true_or, or_true]
        rw [e3]
        exact ih
      apply hX
      have g : ¬ (4 : Int32) ≤ nI i := fun z => by have := (nI_leI (a := 4) (by omega) (by omega)).mp z; omega
      obtain ⟨r1, r2⟩ := hr i (by omega)
      have hb := bitI n hn i (by omega)
      by_cases q : n.testBit i = true
      · simp +decide only [g, hb, q, nIv (i := i) (N := 4) (by omega) (by omega), nIc (i := i) (by omega), r1, within_iff, in_iff, all_eq, bz_0, bz_1, bzT, bzF, nem, bz_or, i64, Int32.reduceToInt, Int64.reduceToInt, and_true, true_and, and_self, not_true_eq_false, not_false_eq_true, false_implies, true_implies, eq_self, implies_true, false_and, and_false, Classical.not_not, Int.reduceLT, Int.reduceLE, Int.reduceEq, reduceIte, reduceCtorEq, and_imp, imp_false, false_or, or_false, true_or, or_true]
        exact st _ r2 (by rw [if_pos q])
      · simp +decide only [g, hb, q, within_iff, in_iff, all_eq, bz_0, bz_1, bzT, bzF, nem, bz_or, i64, Int32.reduceToInt, Int64.reduceToInt, and_true, true_and, and_self, not_true_eq_false, not_false_eq_true, false_implies, true_implies, eq_self, implies_true, false_and, and_false, Classical.not_not, Int.reduceLT, Int.reduceLE, Int.reduceEq, reduceIte, reduceCtorEq, and_imp, imp_false, false_or, or_false, true_or, or_true]
        refine still_i hs (by omega) ?_
        exact st _ (hs i (by omega)) (by rw [if_neg q])
  exact key 4 0 (by omega)
