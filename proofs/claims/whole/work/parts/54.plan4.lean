theorem sub_bits : ∀ a : Nat, a < 16 → ∀ b : Nat, b < 16 → ((nI a &&& nI b = nI b) ↔ (∀ l : Nat, l < 4 → b.testBit l = true → a.testBit l = true)) := by decide +kernel
theorem sub_bits2 : ∀ a : Nat, a < 16 → ∀ b : Nat, b < 16 → ((nI a &&& nI b = nI a) ↔ (∀ l : Nat, l < 4 → a.testBit l = true → b.testBit l = true)) := by decide +kernel
theorem onF_le : ∀ n : Nat, onF n ≤ 4 := fun n => by unfold onF; omega
theorem allowed_i {post : Int32 → Prop} {rn s : Nat → Nat} {m n hands : Nat} (hn : n < 16) (hh : hands < 16) (h1 : okS rn hands m s n = true → post 1) (h0 : ¬ okS rn hands m s n = true → post 0) :
    P_X7_allowed post (nI n) (nI (stP (fun l => s l == 0) 4)) (nI (stP (fun l => decide (s l < min m (rn l))) 4)) (nI hands) := by
  have l1 := stP_lt (fun l => s l == 0) 4
  have l2 := stP_lt (fun l => decide (s l < min m (rn l))) 4
  have b1 := sub_bits n hn _ l1
  have b2 := sub_bits2 n hn _ l2
  have ho := onF_le n
  unfold P_X7_allowed
  by_cases q1 : ∀ l : Nat, l < 4 → (stP (fun l => s l == 0) 4).testBit l = true → n.testBit l = true
  · by_cases q2 : ∀ l : Nat, l < 4 → n.testBit l = true → (stP (fun l => decide (s l < min m (rn l))) 4).testBit l = true
    · refine ⟨fun _ => ⟨fun _ => bit_i hn ?_, fun z => absurd (b2.mpr q2) z⟩, fun z => absurd (b1.mpr q1) z⟩
      have a1 : ∀ l, l < 4 → s l = 0 → n.testBit l = true := fun l hl e => q1 l hl (by rw [stP_bit _ hl]; simp [e])
      have a2 : ∀ l, l < 4 → n.testBit l = true → s l < min m (rn l) := fun l hl e => by
        have := q2 l hl e
        rw [stP_bit _ hl, decide_eq_true_eq] at this
        exact this
      intro v ev
      subst ev
      by_cases q3 : onF n ≤ hands
      · rw [if_neg (fun z => by have := (nI_ltI (by omega) (by omega)).mp z; omega)]
        exact h1 (okS_iff.mpr ⟨a1, a2, q3⟩)
      · rw [if_pos ((nI_ltI (by omega) (by omega)).mpr (by omega))]
        exact h0 (fun z => q3 (okS_iff.mp z).2.2)
    · refine ⟨fun _ => ⟨fun z => absurd (b2.mp z) q2, fun _ => h0 (fun z => q2 (fun l hl e => ?_))⟩, fun z => absurd (b1.mpr q1) z⟩
      rw [stP_bit _ hl, decide_eq_true_eq]
      exact (okS_iff.mp z).2.1 l hl e
  · refine ⟨fun z => absurd (b1.mp z) q1, fun _ => h0 (fun z => q1 (fun l hl e => ?_))⟩
    rw [stP_bit _ hl, beq_iff_eq] at e
    exact (okS_iff.mp z).1 l hl e
def slP (m : Nat) (s : Nat → Nat) : Nat → Nat
  | 0 => 0
  | l + 1 => slP m s l * (m + 1) + s l
theorem slotOf_i {post : Int32 → Prop} {m : Nat} {s : Nat → Nat} (h1 : 1 ≤ m) (h7 : m ≤ 7) (hs : ∀ l, l < 4 → s l ≤ m) (h : post (nI (slotN m s))) : P_X7_slotOf post (nI m) (nI (mkP s 4)) := by
  unfold P_X7_slotOf
  intro X hX
  have key : ∀ k i : Nat, i + k = 4 → X (nI (slP m s i)) (nI i) := by
    intro k
    induction k with
    | zero =>
      intro i hi
      have e : i = 4 := by omega
      subst e
      apply hX
      have g : (4 : Int32) ≤ nI 4 := by decide
      have tb : ∀ m : Nat, m < 8 → tBe m = nI (begN m) := by decide
      simp +decide only [g, nIv (i := m) (N := 8) (by omega) (by omega), nIc (i := m) (by omega), tb m (by omega), nI_add, within_iff, in_iff, all_eq, bz_0, bz_1, bzT, bzF, nem, bz_or, i64, Int32.reduceToInt, Int64.reduceToInt, and_true, true_and, and_self, not_true_eq_false, not_false_eq_true, false_implies, true_implies, eq_self, implies_true, false_and, and_false, Classical.not_not, Int.reduceLT, Int.reduceLE, Int.reduceEq, reduceIte, reduceCtorEq, and_imp, imp_false, false_or, or_false, true_or, or_true]
      have e : begN m + slP m s 4 = slotN m s := by simp [slotN, slP]
      rw [e]
      exact h
    | succ k ih =>
      intro i hi
      have ih := ih (i + 1) (by omega)
      apply hX
      have g : ¬ (4 : Int32) ≤ nI i := fun z => by have := (nI_leI (a := 4) (by omega) (by omega)).mp z; omega
      simp +decide only [g, within_iff, in_iff, all_eq, bz_0, bz_1, bzT, bzF, nem, bz_or, i64, Int32.reduceToInt, Int64.reduceToInt, and_true, true_and, and_self, not_true_eq_false, not_false_eq_true, false_implies, true_implies, eq_self, implies_true, false_and, and_false, Classical.not_not, Int.reduceLT, Int.reduceLE, Int.reduceEq, reduceIte, reduceCtorEq, and_imp, imp_false, false_or, or_false, true_or, or_true]
      refine still_i (fun l hl => by have := hs l hl; omega) (by omega) ?_
      simp +decide only [nI_1, pk_mul, nI_add, within_iff, in_iff, all_eq, bz_0, bz_1, bzT, bzF, nem, bz_or, i64, Int32.reduceToInt, Int64.reduceToInt, and_true, true_and, and_self, not_true_eq_false, not_false_eq_true, false_implies, true_implies, eq_self, implies_true, false_and, and_false, Classical.not_not, Int.reduceLT, Int.reduceLE, Int.reduceEq, reduceIte, reduceCtorEq, and_imp, imp_false, false_or, or_false, true_or, or_true]
      exact ih
  exact key 4 0 (by omega)
theorem fewest_i {rn : Nat → Nat} {hands : Nat} {renewed : Nat → Int32} (hr : ∀ l, l < 4 → renewed l = nI (rn l) ∧ rn l < 16) (hh : hands < 16) :
    ∀ (m d : Nat) (s : Nat → Nat) (found : Nat → Int64) (post : Int32 → (Nat → Int64) → Prop), m < d → m ≤ 8 → (∀ l, l < 4 → s l ≤ m) → FOK found rn hands → (∀ f, FOK f rn hands → post (nI (ffc rn hands m s)) f) → P_X7_fewestFrom d post (nI m) (nI (mkP s 4)) renewed found (nI hands) := by
  intro m
  induction m with
  | zero =>
    intro d s found post hd _ hs hF h
    obtain ⟨d, rfl⟩ : ∃ e, d = e + 1 := ⟨d - 1, by omega⟩
    unfold P_X7_fewestFrom
    intro X26 X43 X76 _ _ _
    have g : ¬ (1 : Int32) ≤ nI 0 := by decide
    simp +decide only [g, within_iff, in_iff, all_eq, bz_0, bz_1, bzT, bzF, nem, bz_or, i64, Int32.reduceToInt, Int64.reduceToInt, and_true, true_and, and_self, not_true_eq_false, not_false_eq_true, false_implies, true_implies, eq_self, implies_true, false_and, and_false, Classical.not_not, Int.reduceLT, Int.reduceLE, Int.reduceEq, reduceIte, reduceCtorEq, and_imp, imp_false, false_or, or_false, true_or, or_true]
    exact h _ hF
  | succ m ih =>
    intro d s found post hd h8 hs hF h
    obtain ⟨d, rfl⟩ : ∃ e, d = e + 1 := ⟨d - 1, by omega⟩
    have hs16 : ∀ l, l < 4 → s l < 16 := fun l hl => by have := hs l hl; omega
    have haf : ∀ n l : Nat, l < 4 → aftS rn (m + 1) s n l ≤ m := fun n l _ => by unfold aftS; omega
    unfold P_X7_fewestFrom
    intro X26 X43 X76 h26 h43 h76
    have loop : ∀ slot : Nat, slot ≤ 8771 → (slot < 8771 → m + 1 ≤ 7 ∧ slot = slotN (m + 1) s) → ∀ k n : Nat, n + k = 16 → ∀ f, FOK f rn hands → X76 (nI slot) (nI (mnS (fun set => if okS rn hands (m + 1) s set = true then onF set + ffc rn hands m (aftS rn (m + 1) s set) else 62) n)) (nI (stP (fun l => s l == 0) 4)) (nI (stP (fun l => decide (s l < min (m + 1) (rn l))) 4)) (nI n) f := by
      intro slot hsl hsm k
      induction k with
      | zero =>
        intro n hn f hf
        have e : n = 16 := by omega
        subst e
        apply h76
        have g : (16 : Int32) ≤ nI 16 := by decide
        have ef : mnS (fun set => if okS rn hands (m + 1) s set = true then onF set + ffc rn hands m (aftS rn (m + 1) s set) else 62) 16 = ffc rn hands (m + 1) s := by rw [ffc]
        rw [ef]
        by_cases q : 8771 ≤ slot
        · have c : (8771 : Int32) ≤ nI slot := (nI_leI (a := 8771) (by omega) (by omega)).mpr q
          simp +decide only [g, c, within_iff, in_iff, all_eq, bz_0, bz_1, bzT, bzF, nem, bz_or, i64, Int32.reduceToInt, Int64.reduceToInt, and_true, true_and, and_self, not_true_eq_false, not_false_eq_true, false_implies, true_implies, eq_self, implies_true, false_and, and_false, Classical.not_not, Int.reduceLT, Int.reduceLE, Int.reduceEq, reduceIte, reduceCtorEq, and_imp, imp_false, false_or, or_false, true_or, or_true]
          exact h f hf
        · have c : ¬ (8771 : Int32) ≤ nI slot := fun z => q ((nI_leI (a := 8771) (by omega) (by omega)).mp z)
          simp +decide only [g, c, nI_1, within_iff, in_iff, all_eq, bz_0, bz_1, bzT, bzF, nem, bz_or, i64, Int32.reduceToInt, Int64.reduceToInt, and_true, true_and, and_self, not_true_eq_false, not_false_eq_true, false_implies, true_implies, eq_self, implies_true, false_and, and_false, Classical.not_not, Int.reduceLT, Int.reduceLE, Int.reduceEq, reduceIte, reduceCtorEq, and_imp, imp_false, false_or, or_false, true_or, or_true]
          obtain ⟨a1, a2⟩ := hsm (by omega)
          rw [a2]
          exact keep_i (by omega) a1 hs hf (fun f2 hf2 => h f2 hf2)
      | succ k ihk =>
        intro n hn f hf
        have ihk := ihk (n + 1) (by omega)
        apply h76
        have g : ¬ (16 : Int32) ≤ nI n := fun z => by have := (nI_leI (a := 16) (by omega) (by omega)).mp z; omega
        have hm62 := mnS_le (fun set => if okS rn hands (m + 1) s set = true then onF set + ffc rn hands m (aftS rn (m + 1) s set) else 62) n
        simp +decide only [g, within_iff, in_iff, all_eq, bz_0, bz_1, bzT, bzF, nem, bz_or, i64, Int32.reduceToInt, Int64.reduceToInt, and_true, true_and, and_self, not_true_eq_false, not_false_eq_true, false_implies, true_implies, eq_self, implies_true, false_and, and_false, Classical.not_not, Int.reduceLT, Int.reduceLE, Int.reduceEq, reduceIte, reduceCtorEq, and_imp, imp_false, false_or, or_false, true_or, or_true]
        refine allowed_i (by omega) hh (fun ok => ?_) (fun nok => ?_)
        · simp +decide only [within_iff, in_iff, all_eq, bz_0, bz_1, bzT, bzF, nem, bz_or, i64, Int32.reduceToInt, Int64.reduceToInt, and_true, true_and, and_self, not_true_eq_false, not_false_eq_true, false_implies, true_implies, eq_self, implies_true, false_and, and_false, Classical.not_not, Int.reduceLT, Int.reduceLE, Int.reduceEq, reduceIte, reduceCtorEq, and_imp, imp_false, false_or, or_false, true_or, or_true]
          refine after_i hs16 (by omega) (by omega) hr ?_
          have e1 : nI (m + 1) - 1 = nI m := nI_pred m
          rw [e1]
          refine ih d _ f _ (by omega) (by omega) (haf n) hf (fun f2 hf2 => ?_)
          refine bit_i (by omega) ?_
          have hl := ffc_le rn hands m (aftS rn (m + 1) s n)
          have ho := onF_le n
          have em : (if nI (onF n) + nI (ffc rn hands m (aftS rn (m + 1) s n)) < nI (mnS (fun set => if okS rn hands (m + 1) s set = true then onF set + ffc rn hands m (aftS rn (m + 1) s set) else 62) n) then nI (onF n) + nI (ffc rn hands m (aftS rn (m + 1) s n)) else nI (mnS (fun set => if okS rn hands (m + 1) s set = true then onF set + ffc rn hands m (aftS rn (m + 1) s set) else 62) n)) = nI (mnS (fun set => if okS rn hands (m + 1) s set = true then onF set + ffc rn hands m (aftS rn (m + 1) s set) else 62) (n + 1)) := by
            rw [mnS, if_pos ok, nI_add]
            generalize mnS (fun set => if okS rn hands (m + 1) s set = true then onF set + ffc rn hands m (aftS rn (m + 1) s set) else 62) n = x at *
            by_cases q : onF n + ffc rn hands m (aftS rn (m + 1) s n) < x
            · rw [if_pos ((nI_ltI (by omega) (by omega)).mpr q), Nat.min_eq_right (by omega)]
            · rw [if_neg (fun z => q ((nI_ltI (by omega) (by omega)).mp z)), Nat.min_eq_left (by omega)]
          simp +decide only [em, nI_1, within_iff, in_iff, all_eq, bz_0, bz_1, bzT, bzF, nem, bz_or, i64, Int32.reduceToInt, Int64.reduceToInt, and_true, true_and, and_self, not_true_eq_false, not_false_eq_true, false_implies, true_implies, eq_self, implies_true, false_and, and_false, Classical.not_not, Int.reduceLT, Int.reduceLE, Int.reduceEq, reduceIte, reduceCtorEq, and_imp, imp_false, false_or, or_false, true_or, or_true]
          exact ihk f2 hf2
        · simp +decide only [nI_1, within_iff, in_iff, all_eq, bz_0, bz_1, bzT, bzF, nem, bz_or, i64, Int32.reduceToInt, Int64.reduceToInt, and_true, true_and, and_self, not_true_eq_false, not_false_eq_true, false_implies, true_implies, eq_self, implies_true, false_and, and_false, Classical.not_not, Int.reduceLT, Int.reduceLE, Int.reduceEq, reduceIte, reduceCtorEq, and_imp, imp_false, false_or, or_false, true_or, or_true]
          have := ihk f hf
          rw [mnS, if_neg nok, Nat.min_eq_left hm62] at this
          exact this
    have start : ∀ slot : Nat, slot ≤ 8771 → (slot < 8771 → m + 1 ≤ 7 ∧ slot = slotN (m + 1) s) → X43 (nI slot) 0 found := by
      intro slot hsl hsm
      apply h43
      have g : (0 : Int32) ≤ 0 := by decide
      simp +decide only [g, within_iff, in_iff, all_eq, bz_0, bz_1, bzT, bzF, nem, bz_or, i64, Int32.reduceToInt, Int64.reduceToInt, and_true, true_and, and_self, not_true_eq_false, not_false_eq_true, false_implies, true_implies, eq_self, implies_true, false_and, and_false, Classical.not_not, Int.reduceLT, Int.reduceLE, Int.reduceEq, reduceIte, reduceCtorEq, and_imp, imp_false, false_or, or_false, true_or, or_true]
      refine must_i hs16 ?_
      refine may_i hs16 (by omega) hr ?_
      exact loop slot hsl hsm 16 0 (by omega) found hF
    have g : (1 : Int32) ≤ nI (m + 1) := (nI_leI (a := 1) (by omega) (by omega)).mpr (by omega)
    by_cases q : 8 ≤ m + 1
    · have c : Int32.ofNat 8 ≤ nI (m + 1) := (nI_leI (a := 8) (by omega) (by omega)).mpr q
      simp +decide only [g, c, within_iff, in_iff, all_eq, bz_0, bz_1, bzT, bzF, nem, bz_or, i64, Int32.reduceToInt, Int64.reduceToInt, and_true, true_and, and_self, not_true_eq_false, not_false_eq_true, false_implies, true_implies, eq_self, implies_true, false_and, and_false, Classical.not_not, Int.reduceLT, Int.reduceLE, Int.reduceEq, reduceIte, reduceCtorEq, and_imp, imp_false, false_or, or_false, true_or, or_true]
      apply h26
      have c2 : (8771 : Int32) ≤ 8771 := by decide
      simp +decide only [c2, within_iff, in_iff, all_eq, bz_0, bz_1, bzT, bzF, nem, bz_or, i64, Int32.reduceToInt, Int64.reduceToInt, and_true, true_and, and_self, not_true_eq_false, not_false_eq_true, false_implies, true_implies, eq_self, implies_true, false_and, and_false, Classical.not_not, Int.reduceLT, Int.reduceLE, Int.reduceEq, reduceIte, reduceCtorEq, and_imp, imp_false, false_or, or_false, true_or, or_true]
      exact start 8771 (by omega) (fun z => by omega)
    · have c : ¬ Int32.ofNat 8 ≤ nI (m + 1) := fun z => q ((nI_leI (a := 8) (by omega) (by omega)).mp z)
      simp +decide only [g, c, within_iff, in_iff, all_eq, bz_0, bz_1, bzT, bzF, nem, bz_or, i64, Int32.reduceToInt, Int64.reduceToInt, and_true, true_and, and_self, not_true_eq_false, not_false_eq_true, false_implies, true_implies, eq_self, implies_true, false_and, and_false, Classical.not_not, Int.reduceLT, Int.reduceLE, Int.reduceEq, reduceIte, reduceCtorEq, and_imp, imp_false, false_or, or_false, true_or, or_true]
      refine slotOf_i (by omega) (by omega) hs ?_
      have hl := slot_lt (m := m + 1) (s := s) (by omega) (by omega) hs
      apply h26
      have c2 : ¬ (8771 : Int32) ≤ nI (slotN (m + 1) s) := fun z => by have := (nI_leI (a := 8771) (by omega) (by omega)).mp z; omega
      simp +decide only [c2, within_iff, in_iff, all_eq, bz_0, bz_1, bzT, bzF, nem, bz_or, i64, Int32.reduceToInt, Int64.reduceToInt, and_true, true_and, and_self, not_true_eq_false, not_false_eq_true, false_implies, true_implies, eq_self, implies_true, false_and, and_false, Classical.not_not, Int.reduceLT, Int.reduceLE, Int.reduceEq, reduceIte, reduceCtorEq, and_imp, imp_false, false_or, or_false, true_or, or_true]
      refine recall_i (hF.1 _ (by omega)).1 hl ?_
      rcases hF.2 (m + 1) s (by omega) (by omega) hs with a | a
      · rw [a]
        exact start _ (by omega) (fun _ => ⟨by omega, rfl⟩)
      · rw [a]
        have hl := ffc_le rn hands (m + 1) s
        apply h43
        have g2 : ¬ nI (ffc rn hands (m + 1) s + 1) ≤ 0 := nI_nle (by omega) (by omega)
        simp +decide only [g2, nI_pred, within_iff, in_iff, all_eq, bz_0, bz_1, bzT, bzF, nem, bz_or, i64, Int32.reduceToInt, Int64.reduceToInt, and_true, true_and, and_self, not_true_eq_false, not_false_eq_true, false_implies, true_implies, eq_self, implies_true, false_and, and_false, Classical.not_not, Int.reduceLT, Int.reduceLE, Int.reduceEq, reduceIte, reduceCtorEq, and_imp, imp_false, false_or, or_false, true_or, or_true]
        exact h _ hF
