section ned
variable {ev_day ev_house ev_kind ev_need ev_on : Nat → Int32} {N n D : Nat} {act : Nat → Bool} {dy dd : Nat → Int} {sv : Nat → Nat} {hs : Nat → Nat} {ne : Nat → Int}
theorem nd_j (A : GA N act dy n sv) (B : GD N act dy D dd) {d a : Nat} (hd : d < D) : ndV act dy dd hs ne N d a = sI (fun j => if rkN dy sv j = d ∧ hs (sv j) = a then ne (sv j) else 0) n := by
  have g := A.2.2.1 (fun e => if dd d = dy e ∧ hs e = a then ne e else 0)
  have e1 : ndV act dy dd hs ne N d a = sI (fun e => if act e = true then (if dd d = dy e ∧ hs e = a then ne e else 0) else 0) N := by
    unfold ndV
    refine sI_cong N (fun e _ => ?_)
    show (if act e = true ∧ dd d = dy e ∧ hs e = a then ne e else 0) = if act e = true then (if dd d = dy e ∧ hs e = a then ne e else 0) else 0
    by_cases c : act e = true
    · rw [if_pos c]
      by_cases c2 : dd d = dy e ∧ hs e = a
      · rw [if_pos c2, if_pos ⟨c, c2⟩]
      · rw [if_neg c2, if_neg (fun z => c2 z.2)]
    · rw [if_neg c, if_neg (fun z => c z.1)]
  rw [e1, ← g]
  refine sI_cong n (fun j hj => ?_)
  show (if dd d = dy (sv j) ∧ hs (sv j) = a then ne (sv j) else 0) = if rkN dy sv j = d ∧ hs (sv j) = a then ne (sv j) else 0
  have := rk_iff A B hj hd
  by_cases c : rkN dy sv j = d
  · by_cases c2 : hs (sv j) = a
    · rw [if_pos ⟨this.mp c, c2⟩, if_pos ⟨c, c2⟩]
    · rw [if_neg (fun z => c2 z.2), if_neg (fun z => c2 z.2)]
  · rw [if_neg (fun z => c (this.mpr z.1)), if_neg (fun z => c z.1)]
theorem day_sum (A : GA N act dy n sv) (B : GD N act dy D dd) (hh : ∀ e, e < N → hs e < 5) {d : Nat} (hd : d < D) : sI (fun a => ndV act dy dd hs ne N d a) 5 = dayQ dy sv (fun j => ne (sv j)) n d := by
  rw [sI_cong (g := fun a => sI (fun j => if hs (sv j) = a then (if rkN dy sv j = d then ne (sv j) else 0) else 0) n) 5 (fun a _ => by
    show ndV act dy dd hs ne N d a = _
    rw [nd_j A B hd]
    refine sI_cong n (fun j _ => ?_)
    show (if rkN dy sv j = d ∧ hs (sv j) = a then ne (sv j) else 0) = if hs (sv j) = a then (if rkN dy sv j = d then ne (sv j) else 0) else 0
    by_cases c : hs (sv j) = a
    · rw [if_pos c]
      by_cases c2 : rkN dy sv j = d
      · rw [if_pos ⟨c2, c⟩, if_pos c2]
      · rw [if_neg (fun z => c2 z.1), if_neg c2]
    · rw [if_neg c, if_neg (fun z => c z.2)]), sI_swap]
  unfold dayQ
  refine sI_cong n (fun j hj => ?_)
  show sI (fun a => if hs (sv j) = a then (if rkN dy sv j = d then ne (sv j) else 0) else 0) 5 = _
  rw [sI_pt (fun _ => if rkN dy sv j = d then ne (sv j) else 0), if_pos (hh _ (A.1 j hj).1)]
theorem pre_0 (q : Nat → Int) : preQ dy sv q 0 = q 0 := by
  unfold preQ
  rw [sI, sI, if_pos rfl, Int.zero_add]
theorem pre_same (q : Nat → Int) {j : Nat} (h : rkN dy sv (j + 1) = rkN dy sv j) : preQ dy sv q (j + 1) = preQ dy sv q j + q (j + 1) := by
  unfold preQ
  rw [sI, if_pos rfl, h]
theorem pre_new (q : Nat → Int) {j : Nat} (h : ¬ rkN dy sv (j + 1) = rkN dy sv j) : preQ dy sv q (j + 1) = q (j + 1) := by
  unfold preQ
  rw [sI, if_pos rfl, sI_cong (g := fun _ => 0) _ (fun i hi => by
    show (if rkN dy sv i = rkN dy sv (j + 1) then q i else 0) = 0
    have h1 := rk_le (dy := dy) (sv := sv) (show i ≤ j by omega)
    have h2 := rk_le (dy := dy) (sv := sv) (show j ≤ j + 1 by omega)
    rw [if_neg (by omega)]), sI_0, Int.zero_add]
theorem pre_rng {q : Nat → Int} (hq : ∀ j, j < n → 0 ≤ q j ∧ q j ≤ 500) : ∀ j, j < n → 0 ≤ preQ dy sv q j ∧ preQ dy sv q j ≤ 500 * (j + 1)
  | 0, hj => by rw [pre_0]; have := hq 0 hj; omega
  | j + 1, hj => by
    have ih := pre_rng hq j (by omega)
    have := hq (j + 1) hj
    by_cases c : rkN dy sv (j + 1) = rkN dy sv j
    · rw [pre_same q c]; omega
    · rw [pre_new q c]; omega
def bkV (st : Nat → Int32) (K h : Nat) : Int := (st (6 * h + K)).toInt
theorem bkS_rng {st : Nat → Int32} {K : Nat} (hb : ∀ i : Nat, 0 ≤ (st i).toInt ∧ (st i).toInt ≤ 999) : ∀ h, 0 ≤ sI (fun a => bkV st K a) h ∧ sI (fun a => bkV st K a) h ≤ 999 * h
  | 0 => by rw [sI]; decide
  | h + 1 => by
    have ih := bkS_rng hb h (K := K)
    have := hb (6 * h + K)
    rw [sI]
    unfold bkV at ih ⊢
    omega
theorem bookedOf_i {post : Int32 → Prop} {st : Nat → Int32} {K : Nat} (hb : ∀ i : Nat, 0 ≤ (st i).toInt ∧ (st i).toInt ≤ 999) (hK : K ≤ 5) (h : ∀ v : Int32, v.toInt = sI (fun a => bkV st K a) 5 → post v) : P_X8_bookedOf post (nI K) st := by
  unfold P_X8_bookedOf
  intro X hX
  have iK : (nI K).toInt = K := nI_toInt (by omega)
  have key : ∀ m i : Nat, i + m = 5 → ∀ v : Int32, v.toInt = sI (fun a => bkV st K a) i → X v (nI i) := by
    intro m
    induction m with
    | zero =>
      intro i hi v hv
      have e : i = 5 := by omega
      subst e
      apply hX
      have c : (5 : Int32) ≤ nI 5 := by decide
      exact ⟨fun _ => h v hv, fun z => absurd c z⟩
    | succ m ih =>
      intro i hi v hv
      have ih := ih (i + 1) (by omega)
      have iI : (nI i).toInt = i := nI_toInt (by omega)
      have rg := bkS_rng hb i (K := K)
      have r1 := hb (6 * i + K)
      apply hX
      have c : ¬ (5 : Int32) ≤ nI i := fun z => by have := (nI_leI (a := 5) (by omega) (by omega)).mp z; omega
      refine ⟨fun z => absurd z c, fun _ => ?_⟩
      have ix : nI i * 6 + nI K = nI (6 * i + K) := by
        have e6 : (6 : Int32) = nI 6 := rfl
        rw [e6, pk_mul, nI_add, Nat.mul_comm]
      unfold P_X10_cell
      rw [ix]
      refine ⟨nIv (by omega) (by omega), fun y ey y2 ey2 => ?_⟩
      rw [nI_1] at ey2
      subst ey2
      refine ih y ?_
      rw [ey, nIc (by omega), sI, fb_addI (by omega) (by omega), hv]
      rfl
  exact key 5 0 (by omega) 0 rfl
theorem shortDay_i {post : Int32 → Prop} {pieces : Int32} {served rank : Nat → Int32} (hn12 : n ≤ 12) (hsv : ∀ j, j < n → sv j < 12) (hs : ∀ j, j < n → served j = nI (sv j)) (hr : ∀ j, j < n → rank j = nI (rkN dy sv j)) (hrk : ∀ j, j < n → rkN dy sv j < 12) (hq : ∀ j, j < n → 0 ≤ (ev_need (sv j)).toInt ∧ (ev_need (sv j)).toInt ≤ 500)
    (h9 : (∀ i, i < n → preQ dy sv (fun j => (ev_need (sv j)).toInt) i ≤ pieces.toInt) → post (-9))
    (hd : ∀ j, j < n → pieces.toInt < preQ dy sv (fun j => (ev_need (sv j)).toInt) j → (∀ i, i < j → preQ dy sv (fun j => (ev_need (sv j)).toInt) i ≤ pieces.toInt) → post (ev_day (sv j))) : P_X2_shortDay post pieces ev_day ev_need served rank (nI n) := by
  unfold P_X2_shortDay
  intro X5 X42 h5 h42
  have pr := pre_rng (dy := dy) (sv := sv) (q := fun j => (ev_need (sv j)).toInt) hq
  have key : ∀ m j : Nat, j + m = n → ∀ x : Int32, (∀ i, j = i + 1 → x.toInt = preQ dy sv (fun j => (ev_need (sv j)).toInt) i) → (∀ i, i < j → preQ dy sv (fun j => (ev_need (sv j)).toInt) i ≤ pieces.toInt) → X5 x (nI j) := by
    intro m
    induction m with
    | zero =>
      intro j hj x hx hp
      have e : j = n := by omega
      subst e
      apply h5
      have c : nI j ≤ nI j := (nI_leI (by omega) (by omega)).mpr (Nat.le_refl _)
      exact ⟨fun _ => h9 hp, fun z => absurd c z⟩
    | succ m ih =>
      intro j hj x hx hp
      have ih := ih (j + 1) (by omega)
      have hj12 := hsv j (by omega)
      have on : ∀ y : Int32, y.toInt = preQ dy sv (fun j => (ev_need (sv j)).toInt) j → ((y ≤ pieces → ∀ y2 : Int32, y2 = nI j + 1 → X5 y y2) ∧ (¬ y ≤ pieces → post (ev_day (sv j)))) := by
        intro y hy
        refine ⟨fun z y2 ey2 => ?_, fun z => ?_⟩
        · rw [fa_le, hy] at z
          rw [nI_1] at ey2
          subst ey2
          refine ih y (fun i hi => ?_) (fun i hi => ?_)
          · have : i = j := by omega
            subst this; exact hy
          · by_cases q : i = j
            · subst q; exact z
            · exact hp i (by omega)
        · rw [fa_le, hy] at z
          exact hd j (by omega) (by omega) hp
      have new : (∀ i, j = i + 1 → ¬ rkN dy sv j = rkN dy sv i) → X42 x (nI j) := by
        intro hc
        apply h42
        intro v ev
        rw [if_pos rfl] at ev
        rw [nIc (i := j) (by omega), hs j (by omega), nIc (i := sv j) (by omega)]
        refine ⟨nIv (by omega) (by omega), nIv hj12 (by omega), fun y ey => on y ?_⟩
        rw [ey, ev, Int32.zero_add]
        cases j with
        | zero => rw [pre_0]
        | succ i => rw [pre_new _ (hc i rfl)]
      apply h5
      have c : ¬ nI n ≤ nI j := fun z => by have := (nI_leI (by omega) (by omega)).mp z; omega
      refine ⟨fun z => absurd z c, fun _ => ⟨fun z => new (fun i hi => ?_), fun z => ?_⟩⟩
      · subst hi
        exact absurd z (nI_nle (by omega) (by omega))
      · have j0 : j ≠ 0 := fun e => z (by rw [e]; decide)
        obtain ⟨i, rfl⟩ : ∃ i, j = i + 1 := ⟨j - 1, by omega⟩
        have k1 := hrk (i + 1) (by omega)
        have k2 := hrk i (by omega)
        have eqr : nI (rkN dy sv (i + 1)) = nI (rkN dy sv i) ↔ rkN dy sv (i + 1) = rkN dy sv i := nI_eq (by omega) (by omega)
        rw [nI_pred, nIc (i := i + 1) (by omega), nIc (i := i) (by omega), hr (i + 1) (by omega), hr i (by omega), hs (i + 1) (by omega), nIc (i := sv (i + 1)) (by omega)]
        refine ⟨nIv (by omega) (by omega), nIv (by omega) (by omega), fun w v ev => ⟨nIv hj12 (by omega), fun y ey => on y ?_⟩, fun w => new (fun i2 hi2 => ?_)⟩
        · have c10 : ¬ (1 : Int32) = 0 := by decide
          rw [if_neg c10] at ev
          have hxi := hx i rfl
          have p1 := pr i (by omega)
          have p2 := hq (i + 1) (by omega)
          rw [ey, ev, pre_same _ (eqr.mp w), fb_addI (by omega) (by omega), hxi]
        · have : i2 = i := by omega
          subst this
          exact fun z => w (eqr.mpr z)
  exact key n 0 (by omega) 0 (fun i hi => absurd hi (by omega)) (fun i hi => absurd hi (by omega))
end ned
