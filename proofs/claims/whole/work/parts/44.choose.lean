/-- choose k of n -/
def ch : Nat → Nat → Nat
  | _, 0 => 1
  | 0, _ + 1 => 0
  | n + 1, k + 1 => ch n k + ch n (k + 1)
theorem ch_0 (n : Nat) : ch n 0 = 1 := by cases n <;> rfl
theorem ch_s (n k : Nat) : ch (n + 1) (k + 1) = ch n k + ch n (k + 1) := rfl
theorem ch_big : ∀ n k : Nat, n < k → ch n k = 0
  | 0, 0, h => absurd h (by omega)
  | 0, _ + 1, _ => rfl
  | n + 1, 0, h => absurd h (by omega)
  | n + 1, k + 1, h => by rw [ch_s, ch_big n k (by omega), ch_big n (k + 1) (by omega)]
theorem ch_n : ∀ n : Nat, ch n n = 1
  | 0 => rfl
  | n + 1 => by rw [ch_s, ch_n n, ch_big n (n + 1) (by omega)]
/-- (k + 1) choose(n, k + 1) = (n - k) choose(n, k) -/
theorem ch_abs : ∀ n k : Nat, (k + 1) * ch n (k + 1) = (n - k) * ch n k
  | 0, k => by rw [ch_big 0 (k + 1) (by omega)]; simp
  | n + 1, 0 => by
    have h := ch_abs n 0
    rw [ch_0] at h
    rw [ch_s, ch_0, ch_0]
    omega
  | n + 1, k + 1 => by
    have h1 := ch_abs n k
    have h2 := ch_abs n (k + 1)
    rw [ch_s, ch_s]
    by_cases hk : k + 1 ≤ n
    · obtain ⟨d, rfl⟩ : ∃ d, n = k + 1 + d := ⟨n - (k + 1), by omega⟩
      have e1 : k + 1 + d - k = d + 1 := by omega
      have e2 : k + 1 + d - (k + 1) = d := by omega
      have e3 : k + 1 + d + 1 - (k + 1) = d + 1 := by omega
      rw [e1] at h1
      rw [e2] at h2
      rw [e3]
      generalize ch (k + 1 + d) (k + 1) = X at *
      generalize ch (k + 1 + d) k = Y at *
      generalize ch (k + 1 + d) (k + 1 + 1) = Z at *
      have : (k + 1 + 1) * (X + Z) = (k + 1) * X + X + (k + 1 + 1) * Z := by rw [Nat.mul_add, Nat.add_mul (k + 1) 1 X, Nat.one_mul]
      rw [this, h1, h2, Nat.mul_add, Nat.add_mul d 1 X, Nat.one_mul]
      omega
    · have e : n + 1 - (k + 1) = 0 ∨ n = k := by omega
      rcases e with e | e
      · rw [e, Nat.zero_mul, ch_big n (k + 1 + 1) (by omega), ch_big n (k + 1) (by omega), Nat.add_zero, Nat.mul_zero]
      · subst e
        rw [ch_big n (n + 1) (by omega), ch_big n (n + 1 + 1) (by omega)]
        simp
def nxR (l : List Nat) : List Nat := 1 :: List.zipWith (· + ·) l (l.tail ++ [0])
def roR : Nat → List Nat
  | 0 => [1]
  | n + 1 => nxR (roR n)
theorem roR_len : ∀ n, (roR n).length = n + 1
  | 0 => rfl
  | n + 1 => by
    have h := roR_len n
    simp [roR, nxR, h]
theorem roR_ch : ∀ n k : Nat, (roR n).getD k 0 = ch n k
  | 0, 0 => rfl
  | 0, k + 1 => by simp [roR, ch]
  | n + 1, 0 => by simp [roR, nxR, ch_0]
  | n + 1, k + 1 => by
    have l := roR_len n
    have h1 := roR_ch n k
    have h2 := roR_ch n (k + 1)
    rw [ch_s, ← h1, ← h2]
    simp only [roR, nxR, List.getD_cons_succ, List.getD_eq_getElem?_getD]
    rw [List.getElem?_cons_succ, List.getElem?_zipWith]
    by_cases hk : k < n + 1
    · have a1 : (roR n)[k]? = some ((roR n)[k]'(by omega)) := List.getElem?_eq_getElem (by omega)
      rw [a1]
      by_cases hk2 : k < n
      · have a2 : ((roR n).tail ++ [0])[k]? = (roR n)[k + 1]? := by
          rw [List.getElem?_append_left (by rw [List.length_tail]; omega), List.getElem?_tail]
        rw [a2]
        have a3 : (roR n)[k + 1]? = some ((roR n)[k + 1]'(by omega)) := List.getElem?_eq_getElem (by omega)
        rw [a3]
        rfl
      · have a2 : ((roR n).tail ++ [0])[k]? = some 0 := by
          rw [List.getElem?_append_right (by rw [List.length_tail]; omega), List.length_tail]
          have : k - ((roR n).length - 1) = 0 := by omega
          rw [this]; rfl
        have a3 : (roR n)[k + 1]? = none := List.getElem?_eq_none (by omega)
        rw [a2, a3]
        rfl
    · have a1 : (roR n)[k]? = none := List.getElem?_eq_none (by omega)
      have a3 : (roR n)[k + 1]? = none := List.getElem?_eq_none (by omega)
      rw [a1, a3]
      simp
theorem ch_all : (List.range 61).all (fun n => (roR n).all (fun x => decide (x ≤ 118264581564861424))) = true := by decide +kernel
theorem ch_le {n : Nat} (h : n ≤ 60) (k : Nat) : ch n k ≤ 118264581564861424 := by
  have h1 := List.all_eq_true.mp ch_all n (List.mem_range.mpr (by omega))
  rw [← roR_ch n k, List.getD_eq_getElem?_getD]
  cases hx : (roR n)[k]? with
  | none => simp
  | some x => exact of_decide_eq_true (List.all_eq_true.mp h1 x (List.mem_of_getElem? hx))
/-- Vandermonde -/
theorem ch_vand : ∀ a b m : Nat, fb_sm (fun j => ch a j * ch b (m - j)) (m + 1) = ch (a + b) m
  | 0, b, m => by
    have h : fb_sm (fun j => ch 0 j * ch b (m - j)) (1 + m) = _ := fb_sm_split _ 1 m
    have z : fb_sm (fun k => ch 0 (1 + k) * ch b (m - (1 + k))) m = 0 := by
      have : fb_sm (fun k => ch 0 (1 + k) * ch b (m - (1 + k))) m = fb_sm (fun _ => 0) m := fb_sm_cong (fun k _ => by rw [ch_big 0 (1 + k) (by omega), Nat.zero_mul])
      rw [this, fb_sm_const]; simp
    rw [z, Nat.add_comm 1 m] at h
    rw [h, Nat.zero_add]
    simp [fb_sm, ch]
  | a + 1, b, 0 => by simp [fb_sm, ch_0]
  | a + 1, b, m + 1 => by
    have h1 := ch_vand a b (m + 1)
    have h2 := ch_vand a b m
    have s1 : fb_sm (fun j => ch (a + 1) j * ch b (m + 1 - j)) (1 + (m + 1)) = _ := fb_sm_split _ 1 (m + 1)
    have s2 : fb_sm (fun j => ch a j * ch b (m + 1 - j)) (1 + (m + 1)) = _ := fb_sm_split _ 1 (m + 1)
    have e : fb_sm (fun k => ch (a + 1) (1 + k) * ch b (m + 1 - (1 + k))) (m + 1) = fb_sm (fun k => ch a k * ch b (m - k)) (m + 1) + fb_sm (fun k => ch a (1 + k) * ch b (m + 1 - (1 + k))) (m + 1) := by
      rw [← fb_sm_add]
      refine fb_sm_cong (fun k hk => ?_)
      have e1 : 1 + k = k + 1 := by omega
      have e2 : m + 1 - (k + 1) = m - k := by omega
      rw [e1, ch_s, e2, Nat.add_mul]
    have z1 : fb_sm (fun j => ch (a + 1) j * ch b (m + 1 - j)) 1 = ch b (m + 1) := by simp [fb_sm, ch_0]
    have z2 : fb_sm (fun j => ch a j * ch b (m + 1 - j)) 1 = ch b (m + 1) := by simp [fb_sm, ch_0]
    rw [Nat.add_comm 1 (m + 1)] at s1 s2
    rw [s1, z1, e, h2]
    rw [s2, z2] at h1
    have e3 : a + 1 + b = (a + b) + 1 := by omega
    rw [e3, ch_s]
    omega
theorem vuL_at (f : Nat → Int64) (k : Nat) (x : Int64) (j : Nat) : vp_updL f k x j = if j = k then x else f j := rfl
theorem choose_i {post : (Nat → Int64) → Prop} {p1 : Int32} {arr : Nat → Int64} {t : Nat} (ht : p1 = nI t) (h60 : t ≤ 60) (h : ∀ a : Nat → Int64, (∀ k, k ≤ 60 → a k = lN (ch t k)) → post a) : P_X0_choose post p1 61 arr := by
  subst ht
  unfold P_X0_choose
  intro X hX
  have key : ∀ m k : Nat, k + m = 61 → 1 ≤ k → ∀ a : Nat → Int64, (∀ j, j < k → a j = lN (ch t j)) → X (nI k) a := by
    intro m
    induction m with
    | zero =>
      intro k hk _ a ha
      have e : k = 61 := by omega
      subst e
      apply hX
      have g : (60 : Int32) < nI 61 := by decide
      simp +decide only [g, within_iff, in_iff, all_eq, bz_0, bz_1, bzT, bzF, nem, bz_or, i64, Int32.reduceToInt, Int64.reduceToInt, and_true, true_and, and_self, not_true_eq_false, not_false_eq_true, false_implies, true_implies, eq_self, implies_true, false_and, and_false, Classical.not_not, Int.reduceLT, Int.reduceLE, Int.reduceEq, reduceIte, reduceCtorEq, and_imp, imp_false, false_or, or_false, true_or, or_true]
      exact h a (fun j hj => ha j (by omega))
    | succ m ih =>
      intro k hk h1 a ha
      have ih := ih (k + 1) (by omega) (by omega)
      have g : ¬ (60 : Int32) < nI k := by
        rw [fa_lt, nI_toInt (by omega)]; have : (60 : Int32).toInt = 60 := by decide
        omega
      have ek : nI k - 1 = nI (k - 1) := by
        have := nI_pred (k - 1)
        rwa [Nat.sub_add_cancel h1] at this
      have nz : ¬ (nI k).toInt64 = 0 := by
        rw [nI_l (by omega)]
        intro e
        have := (pk_lEQ (a := k) (b := 0) (by omega) (by omega)).mp e
        omega
      have c1 : nI k ≤ nI t ↔ k ≤ t := nI_leI (by omega) (by omega)
      apply hX
      simp +decide only [g, c1, nz, ek, nIv (i := k - 1) (N := 61) (by omega) (by omega), nIv (i := k) (N := 61) (by omega) (by omega), nIc (i := k - 1) (by omega), nIc (i := k) (by omega), nI_1 k, within_iff, in_iff, all_eq, bz_0, bz_1, bzT, bzF, nem, bz_or, i64, Int32.reduceToInt, Int64.reduceToInt, and_true, true_and, and_self, not_true_eq_false, not_false_eq_true, false_implies, true_implies, eq_self, implies_true, false_and, and_false, Classical.not_not, Int.reduceLT, Int.reduceLE, Int.reduceEq, reduceIte, reduceCtorEq, and_imp, imp_false, false_or, or_false, true_or, or_true]
      refine ih _ (fun j hj => ?_)
      rw [vuL_at]
      by_cases e : j = k
      · rw [if_pos e, e]
        by_cases hkt : k ≤ t
        · rw [if_pos hkt, ha (k - 1) (by omega)]
          have e1 : nI t - nI k + 1 = nI (t - k + 1) := by rw [pk_sub hkt, nI_1]
          rw [e1, nI_l (by omega), nI_l (by omega), lN_mul]
          have ab := ch_abs t (k - 1)
          rw [Nat.sub_add_cancel h1] at ab
          have e2 : t - (k - 1) = t - k + 1 := by omega
          rw [e2] at ab
          have e3 : ch t (k - 1) * (t - k + 1) = ch t k * k := by rw [Nat.mul_comm, ← ab, Nat.mul_comm]
          have bd := ch_le h60 k
          have bd2 : ch t k * k ≤ 118264581564861424 * 60 := Nat.mul_le_mul bd (by omega)
          rw [e3, pk_lDiv (by omega) (by omega) (by omega), Nat.mul_div_cancel _ (by omega)]
        · rw [if_neg hkt, ch_big t k (by omega)]; rfl
      · rw [if_neg e]; exact ha j (by omega)
  have v0 : vp_in 0 61 := vp_in_iff.mpr (by decide)
  simp +decide only [v0, c0, within_iff, in_iff, all_eq, bz_0, bz_1, bzT, bzF, nem, bz_or, i64, Int32.reduceToInt, Int64.reduceToInt, and_true, true_and, and_self, not_true_eq_false, not_false_eq_true, false_implies, true_implies, eq_self, implies_true, false_and, and_false, Classical.not_not, Int.reduceLT, Int.reduceLE, Int.reduceEq, reduceIte, reduceCtorEq, and_imp, imp_false, false_or, or_false, true_or, or_true]
  refine key 60 1 (by omega) (by omega) _ (fun j hj => ?_)
  have : j = 0 := by omega
  subst this
  rw [vuL_at, if_pos rfl, ch_0]; rfl
