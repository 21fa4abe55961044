/-- FARNESS at first -/
def far0 (j : Nat) : Int32 := if j < 25 then (if j / 5 = j % 5 then 0 else 1) else 0
theorem far0_v {i : Nat} (h : i < 25) : (if (nI i / (5 : Int32)) = (nI i - nI i / (5 : Int32) * (5 : Int32)) then (0 : Int32) else (1 : Int32)) = far0 i := by
  have e5 : (5 : Int32) = nI 5 := rfl
  rw [e5, pk_div (by omega) (by omega) (by omega), ← pk_div (a := i) (d := 5) (by omega) (by omega) (by omega), pk_rem (by omega) (by omega) (by omega), pk_div (by omega) (by omega) (by omega)]
  unfold far0
  rw [if_pos h]
  have c : nI (i / 5) = nI (i % 5) ↔ i / 5 = i % 5 := nI_eq (by omega) (by omega)
  by_cases q : i / 5 = i % 5
  · rw [if_pos (c.mpr q), if_pos q]
  · rw [if_neg (fun z => q (c.mp z)), if_neg q]
theorem far_step {f : Nat → Int32} {i : Nat} (hf : ∀ j : Nat, f j = if j < i then far0 j else 0) : ∀ j : Nat, upd f i (far0 i) j = if j < i + 1 then far0 j else 0 := by
  intro j
  rw [upd_at]
  by_cases q : j = i
  · rw [if_pos q, if_pos (by omega), q]
  · rw [if_neg q, hf]
    by_cases q2 : j < i
    · rw [if_pos q2, if_pos (by omega)]
    · rw [if_neg q2, if_neg (by omega)]
theorem RF_0 {f : Nat → Int32} (hf : ∀ j : Nat, f j = if j < 25 then far0 j else 0) : f = far0 := by
  funext j
  rw [hf]
  split
  · rfl
  · rename_i q; unfold far0; rw [if_neg q]
theorem RF_init : RF far0 far0 := by
  refine ⟨rfl, fun i => ?_, fun a ha => ?_⟩
  · unfold far0; split
    · split <;> decide
    · decide
  · unfold far0; rw [if_pos (by omega), if_pos (by omega)]
theorem ge25 {i : Nat} (h : i < 25) : ¬ (25 : Int32) ≤ nI i := by
  rw [fa_le, nI_toInt (by omega)]; have : (25 : Int32).toInt = 25 := by decide
  omega
theorem init_X2 {post : (Nat → Int32) → (Nat → Int32) → (Nat → Int32) → (Nat → Int32) → Int32 → (Nat → Int32) → (Nat → Int32) → (Nat → Int32) → (Nat → Int32) → (Nat → Int32) → (Nat → Int32) → (Nat → Int32) → (Nat → Int32) → Prop} (h : post far0 (fun _ => (0 : Int32)) (fun _ => (0 : Int32)) (fun _ => (0 : Int32)) (0 : Int32) (fun _ => (0 : Int32)) (fun _ => (0 : Int32)) (fun _ => (0 : Int32)) (fun _ => (0 : Int32)) (fun _ => (0 : Int32)) (fun _ => (0 : Int32)) (fun _ => (0 : Int32)) (fun _ => (0 : Int32))) : P_X2_init post := by
  unfold P_X2_init
  intro X hX
  have key : ∀ m i : Nat, i + m = 25 → ∀ f : Nat → Int32, (∀ j : Nat, f j = if j < i then far0 j else 0) → X (nI i) f (fun _ => (0 : Int32)) (fun _ => (0 : Int32)) (fun _ => (0 : Int32)) (0 : Int32) (fun _ => (0 : Int32)) (fun _ => (0 : Int32)) (fun _ => (0 : Int32)) (fun _ => (0 : Int32)) (fun _ => (0 : Int32)) (fun _ => (0 : Int32)) (fun _ => (0 : Int32)) (fun _ => (0 : Int32)) := by
    intro m
    induction m with
    | zero =>
      intro i hi f hf
      have e : i = 25 := by omega
      subst e
      rw [RF_0 hf]
      apply hX
      have g : (25 : Int32) ≤ nI 25 := by decide
      simp +decide only [g, within_iff, in_iff, all_eq, bz_0, bz_1, bzT, bzF, nem, bz_or, i64, Int32.reduceToInt, Int64.reduceToInt, and_true, true_and, and_self, not_true_eq_false, not_false_eq_true, false_implies, true_implies, eq_self, implies_true, false_and, and_false, Classical.not_not, Int.reduceLT, Int.reduceLE, Int.reduceEq, reduceIte, reduceCtorEq, and_imp, imp_false, false_or, or_false, true_or, or_true]
      exact h
    | succ m ih =>
      intro i hi f hf
      have ih := ih (i + 1) (by omega) _ (far_step hf)
      apply hX
      simp +decide only [ge25 (i := i) (by omega), nIv (i := i) (N := 25) (by omega) (by omega), nIc (i := i) (by omega), nI_1 i, far0_v (i := i) (by omega), within_iff, in_iff, all_eq, bz_0, bz_1, bzT, bzF, nem, bz_or, i64, Int32.reduceToInt, Int64.reduceToInt, and_true, true_and, and_self, not_true_eq_false, not_false_eq_true, false_implies, true_implies, eq_self, implies_true, false_and, and_false, Classical.not_not, Int.reduceLT, Int.reduceLE, Int.reduceEq, reduceIte, reduceCtorEq, and_imp, imp_false, false_or, or_false, true_or, or_true]
      exact ih
  exact key 25 0 (by omega) _ (fun j => by rw [if_neg (by omega)])
theorem cst_step (c : Int32) (i : Nat) : upd (fun l => if l < i then c else 0) i c = (fun l => if l < i + 1 then c else 0) := by
  funext j
  rw [upd_at]
  by_cases q : j = i
  · rw [if_pos q, if_pos (by omega)]
  · rw [if_neg q]
    by_cases q2 : j < i
    · rw [if_pos q2, if_pos (by omega)]
    · rw [if_neg q2, if_neg (by omega)]
/-- the table of binomials behind n rows and j more -/
def chT (n j : Nat) (mc : Nat → Int64) : Prop := ∀ a b : Nat, b ≤ a → a ≤ 60 → (a < n ∨ (a = n ∧ b < j)) → mc (61 * a + b) = lN (ch a b)
theorem init_X11 {post : Int32 → (Nat → Int32) → (Nat → Int32) → (Nat → Int32) → (Nat → Int32) → Int32 → (Nat → Int32) → (Nat → Int32) → (Nat → Int32) → (Nat → Int32) → (Nat → Int32) → Int32 → Int32 → (Nat → Int32) → Int32 → (Nat → Int32) → (Nat → Int32) → (Nat → Int32) → (Nat → Int32) → (Nat → Int32) → Int32 → (Nat → Int32) → (Nat → Int32) → Int32 → (Nat → Int32) → (Nat → Int32) → (Nat → Int32) → (Nat → Int64) → (Nat → Int64) → (Nat → Int32) → (Nat → Int32) → (Nat → Int32) → (Nat → Int32) → (Nat → Int32) → Int32 → (Nat → Int32) → (Nat → Int32) → (Nat → Int32) → (Nat → Int32) → (Nat → Int32) → (Nat → Int64) → Int32 → (Nat → Int32) → (Nat → Int32) → (Nat → Int32) → Prop} (h : ∀ mc : Nat → Int64, RC mc → post (0 : Int32) (fun _ => (0 : Int32)) (fun _ => (0 : Int32)) (fun _ => (0 : Int32)) (fun _ => (0 : Int32)) (0 : Int32) (fun _ => (0 : Int32)) (fun _ => (0 : Int32)) (fun _ => (0 : Int32)) (fun _ => (0 : Int32)) (fun _ => (0 : Int32)) (0 : Int32) (0 : Int32) far0 (0 : Int32) (fun _ => (0 : Int32)) (fun _ => (0 : Int32)) (fun _ => (0 : Int32)) (fun _ => (0 : Int32)) (fun _ => (0 : Int32)) (0 : Int32) (fun _ => (0 : Int32)) (fun _ => (0 : Int32)) (0 : Int32) (fun _ => (0 : Int32)) (fun _ => (0 : Int32)) (fun _ => (0 : Int32)) (fun _ => (0 : Int64)) (fun _ => (0 : Int64)) (fun _ => (0 : Int32)) (fun l => if l < 4 then (100 : Int32) else 0) (fun l => if l < 4 then (100 : Int32) else 0) (fun l => if l < 4 then (10 : Int32) else 0) (fun l => if l < 4 then (20 : Int32) else 0) (1 : Int32) (fun _ => (0 : Int32)) (fun _ => (0 : Int32)) (fun _ => (0 : Int32)) (fun _ => (0 : Int32)) (fun _ => (0 : Int32)) mc (0 : Int32) (fun _ => (0 : Int32)) (fun _ => (0 : Int32)) (fun _ => (0 : Int32))) : P_X11_init post := by
  unfold P_X11_init
  intro X302 X336 X381 X389 h302 h336 h381 h389
  have g61 : (61 : Int32) ≤ nI 61 := by decide
  have rows : ∀ m n : Nat, n + m = 61 → ∀ mc : Nat → Int64, chT n 0 mc → X381 (nI n) (0 : Int32) (fun _ => (0 : Int32)) (fun _ => (0 : Int32)) (fun _ => (0 : Int32)) (fun _ => (0 : Int32)) (0 : Int32) (fun _ => (0 : Int32)) (fun _ => (0 : Int32)) (fun _ => (0 : Int32)) (fun _ => (0 : Int32)) (fun _ => (0 : Int32)) (0 : Int32) (0 : Int32) far0 (0 : Int32) (fun _ => (0 : Int32)) (fun _ => (0 : Int32)) (fun _ => (0 : Int32)) (fun _ => (0 : Int32)) (fun _ => (0 : Int32)) (0 : Int32) (fun _ => (0 : Int32)) (fun _ => (0 : Int32)) (0 : Int32) (fun _ => (0 : Int32)) (fun _ => (0 : Int32)) (fun _ => (0 : Int32)) (fun _ => (0 : Int64)) (fun _ => (0 : Int64)) (fun _ => (0 : Int32)) (fun l => if l < 4 then (100 : Int32) else 0) (fun l => if l < 4 then (100 : Int32) else 0) (fun l => if l < 4 then (10 : Int32) else 0) (fun l => if l < 4 then (20 : Int32) else 0) (1 : Int32) (fun _ => (0 : Int32)) (fun _ => (0 : Int32)) (fun _ => (0 : Int32)) (fun _ => (0 : Int32)) (fun _ => (0 : Int32)) mc (0 : Int32) (fun _ => (0 : Int32)) (fun _ => (0 : Int32)) (fun _ => (0 : Int32)) := by
    intro m
    induction m with
    | zero =>
      intro n hn mc hmc
      have e : n = 61 := by omega
      subst e
      apply h381
      simp +decide only [g61, within_iff, in_iff, all_eq, bz_0, bz_1, bzT, bzF, nem, bz_or, i64, Int32.reduceToInt, Int64.reduceToInt, and_true, true_and, and_self, not_true_eq_false, not_false_eq_true, false_implies, true_implies, eq_self, implies_true, false_and, and_false, Classical.not_not, Int.reduceLT, Int.reduceLE, Int.reduceEq, reduceIte, reduceCtorEq, and_imp, imp_false, false_or, or_false, true_or, or_true]
      exact h mc (fun a ha b hb => hmc a b hb ha (Or.inl (by omega)))
    | succ m ih =>
      intro n hn mc hmc
      have ih := ih (n + 1) (by omega)
      apply h381
      have gn : ¬ (61 : Int32) ≤ nI n := by
        rw [fa_le, nI_toInt (by omega)]; have : (61 : Int32).toInt = 61 := by decide
        omega
      simp +decide only [gn, within_iff, in_iff, all_eq, bz_0, bz_1, bzT, bzF, nem, bz_or, i64, Int32.reduceToInt, Int64.reduceToInt, and_true, true_and, and_self, not_true_eq_false, not_false_eq_true, false_implies, true_implies, eq_self, implies_true, false_and, and_false, Classical.not_not, Int.reduceLT, Int.reduceLE, Int.reduceEq, reduceIte, reduceCtorEq, and_imp, imp_false, false_or, or_false, true_or, or_true]
      have cols : ∀ k j : Nat, j + k = n + 1 → ∀ mc : Nat → Int64, chT n j mc → X389 (nI n) (nI j) (0 : Int32) (fun _ => (0 : Int32)) (fun _ => (0 : Int32)) (fun _ => (0 : Int32)) (fun _ => (0 : Int32)) (0 : Int32) (fun _ => (0 : Int32)) (fun _ => (0 : Int32)) (fun _ => (0 : Int32)) (fun _ => (0 : Int32)) (fun _ => (0 : Int32)) (0 : Int32) (0 : Int32) far0 (0 : Int32) (fun _ => (0 : Int32)) (fun _ => (0 : Int32)) (fun _ => (0 : Int32)) (fun _ => (0 : Int32)) (fun _ => (0 : Int32)) (0 : Int32) (fun _ => (0 : Int32)) (fun _ => (0 : Int32)) (0 : Int32) (fun _ => (0 : Int32)) (fun _ => (0 : Int32)) (fun _ => (0 : Int32)) (fun _ => (0 : Int64)) (fun _ => (0 : Int64)) (fun _ => (0 : Int32)) (fun l => if l < 4 then (100 : Int32) else 0) (fun l => if l < 4 then (100 : Int32) else 0) (fun l => if l < 4 then (10 : Int32) else 0) (fun l => if l < 4 then (20 : Int32) else 0) (1 : Int32) (fun _ => (0 : Int32)) (fun _ => (0 : Int32)) (fun _ => (0 : Int32)) (fun _ => (0 : Int32)) (fun _ => (0 : Int32)) mc (0 : Int32) (fun _ => (0 : Int32)) (fun _ => (0 : Int32)) (fun _ => (0 : Int32)) := by
        intro k
        induction k with
        | zero =>
          intro j hj mc hmc
          have e : j = n + 1 := by omega
          subst e
          apply h389
          have c : nI n < nI (n + 1) := (nI_ltI (by omega) (by omega)).mpr (by omega)
          simp +decide only [c, nI_1 n, within_iff, in_iff, all_eq, bz_0, bz_1, bzT, bzF, nem, bz_or, i64, Int32.reduceToInt, Int64.reduceToInt, and_true, true_and, and_self, not_true_eq_false, not_false_eq_true, false_implies, true_implies, eq_self, implies_true, false_and, and_false, Classical.not_not, Int.reduceLT, Int.reduceLE, Int.reduceEq, reduceIte, reduceCtorEq, and_imp, imp_false, false_or, or_false, true_or, or_true]
          exact ih mc (fun a b hb ha hab => hmc a b hb ha (by omega))
        | succ k ih2 =>
          intro j hj mc hmc
          have ih2 := ih2 (j + 1) (by omega)
          apply h389
          have c : ¬ nI n < nI j := fun z => by have := (nI_ltI (by omega) (by omega)).mp z; omega
          have z0 : nI j = 0 ↔ j = 0 := nI_eq (a := j) (b := 0) (by omega) (by omega)
          have zn : nI j = nI n ↔ j = n := nI_eq (by omega) (by omega)
          have v : vp_in (nI (61 * n + j)) 3721 := vp_in_nI (by omega) (by omega)
          have nx : ∀ x : Int64, x = lN (ch n j) → X389 (nI n) (nI (j + 1)) (0 : Int32) (fun _ => (0 : Int32)) (fun _ => (0 : Int32)) (fun _ => (0 : Int32)) (fun _ => (0 : Int32)) (0 : Int32) (fun _ => (0 : Int32)) (fun _ => (0 : Int32)) (fun _ => (0 : Int32)) (fun _ => (0 : Int32)) (fun _ => (0 : Int32)) (0 : Int32) (0 : Int32) far0 (0 : Int32) (fun _ => (0 : Int32)) (fun _ => (0 : Int32)) (fun _ => (0 : Int32)) (fun _ => (0 : Int32)) (fun _ => (0 : Int32)) (0 : Int32) (fun _ => (0 : Int32)) (fun _ => (0 : Int32)) (0 : Int32) (fun _ => (0 : Int32)) (fun _ => (0 : Int32)) (fun _ => (0 : Int32)) (fun _ => (0 : Int64)) (fun _ => (0 : Int64)) (fun _ => (0 : Int32)) (fun l => if l < 4 then (100 : Int32) else 0) (fun l => if l < 4 then (100 : Int32) else 0) (fun l => if l < 4 then (10 : Int32) else 0) (fun l => if l < 4 then (20 : Int32) else 0) (1 : Int32) (fun _ => (0 : Int32)) (fun _ => (0 : Int32)) (fun _ => (0 : Int32)) (fun _ => (0 : Int32)) (fun _ => (0 : Int32)) (vp_updL mc (61 * n + j) x) (0 : Int32) (fun _ => (0 : Int32)) (fun _ => (0 : Int32)) (fun _ => (0 : Int32)) := by
            intro x hx
            refine ih2 _ (fun a b hb ha hab => ?_)
            rw [vuL_at]
            by_cases q : 61 * a + b = 61 * n + j
            · rw [if_pos q]
              have : a = n ∧ b = j := by omega
              rw [this.1, this.2]; exact hx
            · rw [if_neg q]
              exact hmc a b hb ha (by omega)
          simp +decide only [c, z0, zn, nI61 (a := n) (b := j) (by omega) (by omega), v, nI_clamp (n := 61 * n + j) (by omega), nI_1 j, within_iff, in_iff, all_eq, bz_0, bz_1, bzT, bzF, nem, bz_or, i64, Int32.reduceToInt, Int64.reduceToInt, and_true, true_and, and_self, not_true_eq_false, not_false_eq_true, false_implies, true_implies, eq_self, implies_true, false_and, and_false, Classical.not_not, Int.reduceLT, Int.reduceLE, Int.reduceEq, reduceIte, reduceCtorEq, and_imp, imp_false, false_or, or_false, true_or, or_true]
          have idx : 1 ≤ n → 1 ≤ j → (61 : Int32) * nI n - 61 + nI j = nI (61 * (n - 1) + j) ∧ (61 : Int32) * nI n - 61 + nI j - 1 = nI (61 * (n - 1) + (j - 1)) := by
            intro hn1 hj1
            have e61 : (61 : Int32) = nI 61 := rfl
            have a1 : (61 : Int32) * nI n - 61 + nI j = nI (61 * (n - 1) + j) := by
              rw [e61, pk_mul, pk_sub (by omega), nI_add]; congr 1; omega
            refine ⟨a1, ?_⟩
            rw [a1]
            have := nI_pred (61 * (n - 1) + (j - 1))
            have e : 61 * (n - 1) + (j - 1) + 1 = 61 * (n - 1) + j := by omega
            rwa [e] at this
          have safe : ¬ j = 0 → ¬ j = n → vp_in ((61 : Int32) * nI n - 61 + nI j - 1) 3721 ∧ vp_in ((61 : Int32) * nI n - 61 + nI j) 3721 := by
            intro a b
            obtain ⟨i1, i2⟩ := idx (by omega) (by omega)
            rw [i2, i1]
            exact ⟨vp_in_nI (by omega) (by omega), vp_in_nI (by omega) (by omega)⟩
          refine ⟨safe, nx _ ?_⟩
          by_cases q0 : j = 0
          · rw [if_pos q0, q0, ch_0]; rfl
          · rw [if_neg q0]
            by_cases q1 : j = n
            · rw [if_pos q1, q1, ch_n]; rfl
            · rw [if_neg q1]
              obtain ⟨i1, i2⟩ := idx (by omega) (by omega)
              rw [i2, i1, nI_clamp (by omega), nI_clamp (by omega), hmc (n - 1) (j - 1) (by omega) (by omega) (Or.inl (by omega)), hmc (n - 1) j (by omega) (by omega) (Or.inl (by omega)), lN_add]
              have e1 : n = (n - 1) + 1 := by omega
              have e2 : j = (j - 1) + 1 := by omega
              have := ch_s (n - 1) (j - 1)
              rw [← e1, ← e2] at this
              rw [this]
      exact cols (n + 1) 0 (by omega) mc hmc
  have g4 : (4 : Int32) ≤ nI 4 := by decide
  have lots : ∀ m l : Nat, l + m = 4 → X336 (nI l) (0 : Int32) (fun _ => (0 : Int32)) (fun _ => (0 : Int32)) (fun _ => (0 : Int32)) (fun _ => (0 : Int32)) (0 : Int32) (fun _ => (0 : Int32)) (fun _ => (0 : Int32)) (fun _ => (0 : Int32)) (fun _ => (0 : Int32)) (fun _ => (0 : Int32)) (0 : Int32) (0 : Int32) far0 (0 : Int32) (fun _ => (0 : Int32)) (fun _ => (0 : Int32)) (fun _ => (0 : Int32)) (fun _ => (0 : Int32)) (fun _ => (0 : Int32)) (0 : Int32) (fun _ => (0 : Int32)) (fun _ => (0 : Int32)) (0 : Int32) (fun _ => (0 : Int32)) (fun _ => (0 : Int32)) (fun _ => (0 : Int32)) (fun _ => (0 : Int64)) (fun _ => (0 : Int64)) (fun _ => (0 : Int32)) (fun i => if i < l then (100 : Int32) else 0) (fun i => if i < l then (100 : Int32) else 0) (fun i => if i < l then (10 : Int32) else 0) (fun i => if i < l then (20 : Int32) else 0) (1 : Int32) (fun _ => (0 : Int32)) (fun _ => (0 : Int32)) (fun _ => (0 : Int32)) (fun _ => (0 : Int32)) (fun _ => (0 : Int32)) (fun _ => (0 : Int64)) (0 : Int32) (fun _ => (0 : Int32)) (fun _ => (0 : Int32)) (fun _ => (0 : Int32)) := by
    intro m
    induction m with
    | zero =>
      intro l hl
      have e : l = 4 := by omega
      subst e
      apply h336
      simp +decide only [g4, within_iff, in_iff, all_eq, bz_0, bz_1, bzT, bzF, nem, bz_or, i64, Int32.reduceToInt, Int64.reduceToInt, and_true, true_and, and_self, not_true_eq_false, not_false_eq_true, false_implies, true_implies, eq_self, implies_true, false_and, and_false, Classical.not_not, Int.reduceLT, Int.reduceLE, Int.reduceEq, reduceIte, reduceCtorEq, and_imp, imp_false, false_or, or_false, true_or, or_true]
      exact rows 61 0 (by omega) _ (fun a b hb ha hab => absurd hab (by omega))
    | succ m ih =>
      intro l hl
      have ih := ih (l + 1) (by omega)
      apply h336
      have gl : ¬ (4 : Int32) ≤ nI l := by
        rw [fa_le, nI_toInt (by omega)]; have : (4 : Int32).toInt = 4 := by decide
        omega
      simp +decide only [gl, nIv (i := l) (N := 4) (by omega) (by omega), nIc (i := l) (by omega), nI_1 l, cst_step, within_iff, in_iff, all_eq, bz_0, bz_1, bzT, bzF, nem, bz_or, i64, Int32.reduceToInt, Int64.reduceToInt, and_true, true_and, and_self, not_true_eq_false, not_false_eq_true, false_implies, true_implies, eq_self, implies_true, false_and, and_false, Classical.not_not, Int.reduceLT, Int.reduceLE, Int.reduceEq, reduceIte, reduceCtorEq, and_imp, imp_false, false_or, or_false, true_or, or_true]
      exact ih
  have fars : ∀ m i : Nat, i + m = 25 → ∀ f : Nat → Int32, (∀ j : Nat, f j = if j < i then far0 j else 0) → X302 (nI i) (0 : Int32) (fun _ => (0 : Int32)) (fun _ => (0 : Int32)) (fun _ => (0 : Int32)) (fun _ => (0 : Int32)) (0 : Int32) (fun _ => (0 : Int32)) (fun _ => (0 : Int32)) (fun _ => (0 : Int32)) (fun _ => (0 : Int32)) (fun _ => (0 : Int32)) (0 : Int32) (0 : Int32) f (0 : Int32) (fun _ => (0 : Int32)) (fun _ => (0 : Int32)) (fun _ => (0 : Int32)) (fun _ => (0 : Int32)) (fun _ => (0 : Int32)) (0 : Int32) (fun _ => (0 : Int32)) (fun _ => (0 : Int32)) (0 : Int32) (fun _ => (0 : Int32)) (fun _ => (0 : Int32)) (fun _ => (0 : Int32)) (fun _ => (0 : Int64)) (fun _ => (0 : Int64)) (fun _ => (0 : Int32)) (fun _ => (0 : Int32)) (fun _ => (0 : Int32)) (fun _ => (0 : Int32)) (fun _ => (0 : Int32)) (1 : Int32) (fun _ => (0 : Int32)) (fun _ => (0 : Int32)) (fun _ => (0 : Int32)) (fun _ => (0 : Int32)) (fun _ => (0 : Int32)) (fun _ => (0 : Int64)) (0 : Int32) (fun _ => (0 : Int32)) (fun _ => (0 : Int32)) (fun _ => (0 : Int32)) := by
    intro m
    induction m with
    | zero =>
      intro i hi f hf
      have e : i = 25 := by omega
      subst e
      rw [RF_0 hf]
      apply h302
      have g : (25 : Int32) ≤ nI 25 := by decide
      simp +decide only [g, within_iff, in_iff, all_eq, bz_0, bz_1, bzT, bzF, nem, bz_or, i64, Int32.reduceToInt, Int64.reduceToInt, and_true, true_and, and_self, not_true_eq_false, not_false_eq_true, false_implies, true_implies, eq_self, implies_true, false_and, and_false, Classical.not_not, Int.reduceLT, Int.reduceLE, Int.reduceEq, reduceIte, reduceCtorEq, and_imp, imp_false, false_or, or_false, true_or, or_true]
      exact lots 4 0 (by omega)
    | succ m ih =>
      intro i hi f hf
      have ih := ih (i + 1) (by omega) _ (far_step hf)
      apply h302
      simp +decide only [ge25 (i := i) (by omega), nIv (i := i) (N := 25) (by omega) (by omega), nIc (i := i) (by omega), nI_1 i, far0_v (i := i) (by omega), within_iff, in_iff, all_eq, bz_0, bz_1, bzT, bzF, nem, bz_or, i64, Int32.reduceToInt, Int64.reduceToInt, and_true, true_and, and_self, not_true_eq_false, not_false_eq_true, false_implies, true_implies, eq_self, implies_true, false_and, and_false, Classical.not_not, Int.reduceLT, Int.reduceLE, Int.reduceEq, reduceIte, reduceCtorEq, and_imp, imp_false, false_or, or_false, true_or, or_true]
      exact ih
  exact fars 25 0 (by omega) _ (fun j => by rw [if_neg (by omega)])
