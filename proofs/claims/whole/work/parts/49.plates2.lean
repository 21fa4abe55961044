/-- how many months a LOT lasts, as far as a PLAN can ask -/
def lstP (wear least plate : Nat) : Nat := if least = 0 then 8 else if plate < least then 0 else if wear = 0 then 8 else min 8 ((plate - least) / wear)
def okS (rn : Nat → Nat) (hands m : Nat) (s : Nat → Nat) (set : Nat) : Bool := (List.range 4).all (fun l => (s l != 0 || set.testBit l) && (!(set.testBit l) || decide (s l < min m (rn l)))) && decide (onF set ≤ hands)
def aftS (rn : Nat → Nat) (m : Nat) (s : Nat → Nat) (set l : Nat) : Nat := min m (if set.testBit l then rn l else s l) - 1
def mnS (f : Nat → Nat) : Nat → Nat
  | 0 => 62
  | k + 1 => min (mnS f k) (f k)
/-- THE FEWEST of m months from such a state, 62 where there is none -/
def ffc (rn : Nat → Nat) (hands : Nat) : Nat → (Nat → Nat) → Nat
  | 0, _ => 0
  | m + 1, s => mnS (fun set => if okS rn hands (m + 1) s set = true then onF set + ffc rn hands m (aftS rn (m + 1) s set) else 62) 16
def begN (m : Nat) : Nat := ([0, 0, 16, 97, 353, 978, 2274, 4675] : List Nat).getD m 0
def slotN (m : Nat) (s : Nat → Nat) : Nat := begN m + (((s 0 * (m + 1) + s 1) * (m + 1) + s 2) * (m + 1) + s 3)
def fldN (found : Nat → Int64) (slot : Nat) : Nat := (found (slot / 10)).toInt.toNat / 2 ^ (6 * (slot % 10)) % 64
/-- what is kept of PLANS is right -/
def FOK (found : Nat → Int64) (rn : Nat → Nat) (hands : Nat) : Prop := (∀ w : Nat, w < 878 → 0 ≤ (found w).toInt ∧ (found w).toInt < 1152921504606846976) ∧ ∀ (m : Nat) (s : Nat → Nat), 1 ≤ m → m ≤ 7 → (∀ l, l < 4 → s l ≤ m) → fldN found (slotN m s) = 0 ∨ fldN found (slotN m s) = ffc rn hands m s + 1
def rnV (v : Nat → Int32) (l : Nat) : Nat := if l < 4 then lstP (v (4 * l + 2)).toInt.toNat (v (4 * l + 3)).toInt.toNat (v (4 * l + 1)).toInt.toNat else 0
theorem slot_lt {m : Nat} {s : Nat → Nat} (h1 : 1 ≤ m) (h7 : m ≤ 7) (hs : ∀ l, l < 4 → s l ≤ m) : slotN m s < 8771 := by
  have a0 := hs 0 (by omega)
  have a1 := hs 1 (by omega)
  have a2 := hs 2 (by omega)
  have a3 := hs 3 (by omega)
  unfold slotN
  generalize s 0 = x0 at *
  generalize s 1 = x1 at *
  generalize s 2 = x2 at *
  generalize s 3 = x3 at *
  rcases (show m = 1 ∨ m = 2 ∨ m = 3 ∨ m = 4 ∨ m = 5 ∨ m = 6 ∨ m = 7 by omega) with rfl | rfl | rfl | rfl | rfl | rfl | rfl <;> simp only [begN, List.getD_cons_succ, List.getD_cons_zero] <;> omega
theorem FOK_0 {found : Nat → Int64} {rn : Nat → Nat} {hands : Nat} (h : ∀ j : Nat, j < 878 → found j = 0) : FOK found rn hands := by
  have z : (0 : Int64).toInt = 0 := by decide
  refine ⟨fun w hw => by rw [h w hw, z]; omega, fun m s h1 h7 hs => Or.inl ?_⟩
  have := slot_lt h1 h7 hs
  unfold fldN
  rw [h _ (by omega), z]
  simp
theorem fill_i {post : (Nat → Int64) → Prop} {arr : Nat → Int64} (h : ∀ a : Nat → Int64, (∀ j : Nat, j < 878 → a j = 0) → post a) : P_J7_fill_d0a16 post (0 : Int64) 878 arr := by
  unfold P_J7_fill_d0a16
  intro X hX
  have key : ∀ m i : Nat, i + m = 878 → ∀ a : Nat → Int64, (∀ j : Nat, j < i → a j = 0) → X (nI i) (nI 878) a := by
    intro m
    induction m with
    | zero =>
      intro i hi a ha
      have e : i = 878 := by omega
      subst e
      apply hX
      have g : nI 878 ≤ nI 878 := by decide
      simp +decide only [g, within_iff, in_iff, all_eq, bz_0, bz_1, bzT, bzF, nem, bz_or, i64, Int32.reduceToInt, Int64.reduceToInt, and_true, true_and, and_self, not_true_eq_false, not_false_eq_true, false_implies, true_implies, eq_self, implies_true, false_and, and_false, Classical.not_not, Int.reduceLT, Int.reduceLE, Int.reduceEq, reduceIte, reduceCtorEq, and_imp, imp_false, false_or, or_false, true_or, or_true]
      exact h a ha
    | succ m ih =>
      intro i hi a ha
      have ih := ih (i + 1) (by omega)
      apply hX
      have g : ¬ nI 878 ≤ nI i := fun z => by have := (nI_leI (by omega) (by omega)).mp z; omega
      simp +decide only [g, nIv (i := i) (N := 878) (by omega) (by omega), nIc (i := i) (by omega), nI_1 i, within_iff, in_iff, all_eq, bz_0, bz_1, bzT, bzF, nem, bz_or, i64, Int32.reduceToInt, Int64.reduceToInt, and_true, true_and, and_self, not_true_eq_false, not_false_eq_true, false_implies, true_implies, eq_self, implies_true, false_and, and_false, Classical.not_not, Int.reduceLT, Int.reduceLE, Int.reduceEq, reduceIte, reduceCtorEq, and_imp, imp_false, false_or, or_false, true_or, or_true]
      refine ih _ (fun j hj => ?_)
      rw [vuL_at]
      by_cases q : j = i
      · rw [if_pos q]
      · rw [if_neg q]; exact ha j (by omega)
  simp +decide only [within_iff, in_iff, all_eq, bz_0, bz_1, bzT, bzF, nem, bz_or, i64, Int32.reduceToInt, Int64.reduceToInt, and_true, true_and, and_self, not_true_eq_false, not_false_eq_true, false_implies, true_implies, eq_self, implies_true, false_and, and_false, Classical.not_not, Int.reduceLT, Int.reduceLE, Int.reduceEq, reduceIte, reduceCtorEq, and_imp, imp_false, false_or, or_false, true_or, or_true]
  exact key 878 0 (by omega) arr (fun j hj => absurd hj (by omega))
theorem eq_crew {C : (Nat → Int64) → Int32 → Int32 → Prop} {pl_values : Nat → Int32} {pl_found : Nat → Int64} {pl_hands : Int32} {m_plate m_plateFull m_wear m_least : Nat → Int32} {m_crew : Int32} (hP : RPv pl_values pl_hands m_plate m_plateFull m_wear m_least m_crew) (hF : FOK pl_found (rnV pl_values) pl_hands.toInt.toNat)
    (hC : ∀ a b c, RPv pl_values b m_plate m_plateFull m_wear m_least c → FOK a (rnV pl_values) b.toInt.toNat → C a b c) (p1 : Int32) :
    P_X10_crew (fun r a b => P_X11_crew (fun r2 c => ((r = r2 → C a b c) ∧ (¬ r = r2 → False))) p1 m_crew) p1 pl_found pl_hands := by
  have hP0 := hP
  obtain ⟨rfl, hh, hl⟩ := hP
  by_cases h1 : 0 ≤ p1.toInt ∧ p1.toInt ≤ 4
  · by_cases h2 : p1 = m_crew
    · subst h2
      simp +decide only [P_X10_crew, P_X7_setHands, P_X11_crew, h1, within_iff, in_iff, all_eq, bz_0, bz_1, bzT, bzF, nem, bz_or, i64, Int32.reduceToInt, Int64.reduceToInt, and_true, true_and, and_self, not_true_eq_false, not_false_eq_true, false_implies, true_implies, eq_self, implies_true, false_and, and_false, Classical.not_not, Int.reduceLT, Int.reduceLE, Int.reduceEq, reduceIte, reduceCtorEq, and_imp, imp_false, false_or, or_false, true_or, or_true]
      exact hC _ _ _ hP0 hF
    · simp +decide only [P_X10_crew, P_X7_setHands, h1, h2, within_iff, in_iff, all_eq, bz_0, bz_1, bzT, bzF, nem, bz_or, i64, Int32.reduceToInt, Int64.reduceToInt, and_true, true_and, and_self, not_true_eq_false, not_false_eq_true, false_implies, true_implies, eq_self, implies_true, false_and, and_false, Classical.not_not, Int.reduceLT, Int.reduceLE, Int.reduceEq, reduceIte, reduceCtorEq, and_imp, imp_false, false_or, or_false, true_or, or_true]
      refine fill_i (fun a ha => ?_)
      simp +decide only [P_X11_crew, h1, within_iff, in_iff, all_eq, bz_0, bz_1, bzT, bzF, nem, bz_or, i64, Int32.reduceToInt, Int64.reduceToInt, and_true, true_and, and_self, not_true_eq_false, not_false_eq_true, false_implies, true_implies, eq_self, implies_true, false_and, and_false, Classical.not_not, Int.reduceLT, Int.reduceLE, Int.reduceEq, reduceIte, reduceCtorEq, and_imp, imp_false, false_or, or_false, true_or, or_true]
      exact hC _ _ _ ⟨rfl, h1, hl⟩ (FOK_0 ha)
  · simp +decide only [P_X10_crew, P_X11_crew, h1, within_iff, in_iff, all_eq, bz_0, bz_1, bzT, bzF, nem, bz_or, i64, Int32.reduceToInt, Int64.reduceToInt, and_true, true_and, and_self, not_true_eq_false, not_false_eq_true, false_implies, true_implies, eq_self, implies_true, false_and, and_false, Classical.not_not, Int.reduceLT, Int.reduceLE, Int.reduceEq, reduceIte, reduceCtorEq, and_imp, imp_false, false_or, or_false, true_or, or_true]
    exact hC _ _ _ hP0 hF
/-- LOTS at first -/
theorem init_X7 {post : (Nat → Int32) → (Nat → Int32) → (Nat → Int64) → Int32 → Prop} (h : post (fun i => if i < 16 then tAt (i % 4) else 0) (fun _ => 0) (fun _ => 0) 1) : P_X7_init post := by
  unfold P_X7_init
  intro X hX
  have key : ∀ m i : Nat, i + m = 16 → X (nI i) (fun j => if j < i then tAt (j % 4) else 0) (fun _ => 0) (fun _ => 0) 1 := by
    intro m
    induction m with
    | zero =>
      intro i hi
      have e : i = 16 := by omega
      subst e
      apply hX
      have g : (16 : Int32) ≤ nI 16 := by decide
      simp +decide only [g, within_iff, in_iff, all_eq, bz_0, bz_1, bzT, bzF, nem, bz_or, i64, Int32.reduceToInt, Int64.reduceToInt, and_true, true_and, and_self, not_true_eq_false, not_false_eq_true, false_implies, true_implies, eq_self, implies_true, false_and, and_false, Classical.not_not, Int.reduceLT, Int.reduceLE, Int.reduceEq, reduceIte, reduceCtorEq, and_imp, imp_false, false_or, or_false, true_or, or_true]
      exact h
    | succ m ih =>
      intro i hi
      have ih := ih (i + 1) (by omega)
      apply hX
      have g : ¬ (16 : Int32) ≤ nI i := by
        rw [fa_le, nI_toInt (by omega)]; have : (16 : Int32).toInt = 16 := by decide
        omega
      have e4 : (4 : Int32) = nI 4 := rfl
      have er : nI i - nI i / (4 : Int32) * (4 : Int32) = nI (i % 4) := by rw [e4]; exact pk_rem (by omega) (by omega) (by omega)
      simp +decide only [g, er, nIv (i := i % 4) (N := 4) (by omega) (by omega), nIv (i := i) (N := 16) (by omega) (by omega), nIc (i := i % 4) (by omega), nIc (i := i) (by omega), nI_1 i, within_iff, in_iff, all_eq, bz_0, bz_1, bzT, bzF, nem, bz_or, i64, Int32.reduceToInt, Int64.reduceToInt, and_true, true_and, and_self, not_true_eq_false, not_false_eq_true, false_implies, true_implies, eq_self, implies_true, false_and, and_false, Classical.not_not, Int.reduceLT, Int.reduceLE, Int.reduceEq, reduceIte, reduceCtorEq, and_imp, imp_false, false_or, or_false, true_or, or_true]
      have eu : upd (fun j => if j < i then tAt (j % 4) else 0) i (tAt (i % 4)) = (fun j => if j < i + 1 then tAt (j % 4) else 0) := by
        funext j
        rw [upd_at]
        by_cases q : j = i
        · rw [if_pos q, if_pos (by omega), q]
        · rw [if_neg q]
          by_cases q2 : j < i
          · rw [if_pos q2, if_pos (by omega)]
          · rw [if_neg q2, if_neg (by omega)]
      rw [eu]
      exact ih
  exact key 16 0 (by omega)
