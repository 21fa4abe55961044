/-- a way's other end as it lies: -9 for none -/
def enc (o : Option Nat) : Int32 := match o with
  | none => -9
  | some x => nI x
theorem mnZ_ge {b : Int} {F : Nat → Int} {c : Int} : ∀ k, c ≤ b → (∀ j, j < k → c ≤ F j) → c ≤ mnZ b F k
  | 0, h, _ => h
  | k + 1, h, hk => by
    have h1 := mnZ_ge k h (fun j hj => hk j (by omega))
    have h2 := hk k (by omega)
    rw [mnZ]; omega
section seek
variable {n : Nat} {pcZ sentZ : Nat → Nat → Int} {spareZ u w : Nat → Int} {price sent spare : Nat → Int32}
theorem sw_nn {T : Tr} (D : Du T u w) (k : Nat) {s : Nat} (hs : s < T.M) : 0 ≤ sw T k s := by
  by_cases c : sw T k s < NW
  · have h1 := (way_lo D k).1 s hs c
    have h2 := D.nn s hs
    omega
  · have hE : NW = 1000000 := rfl
    omega
theorem ew_nn {T : Tr} (D : Du T u w) (k : Nat) {j : Nat} (hj : j < T.n) : 0 ≤ ew T k j := by
  cases k with
  | zero => rw [ew_0]; decide
  | succ k =>
    induction k with
    | zero =>
      rw [ew_s]
      refine mnZ_ge _ (by rw [ew_0]; decide) (fun s hs => ?_)
      have h1 := sw_nn D 0 hs
      have h2 := (D.p0 s j hs hj).1
      split
      · omega
      · decide
    | succ k ih =>
      rw [ew_s]
      refine mnZ_ge _ ih (fun s hs => ?_)
      have h1 := sw_nn D (k + 1) hs
      have h2 := (D.p0 s j hs hj).1
      split
      · omega
      · decide
theorem reachEvents_i {T : Tr} {post : (Nat → Int32) → (Nat → Int32) → Prop} {wS wE aE : Nat → Int32} {aEo : Nat → Option Nat} {k : Nat} (hn : n ≤ 12) (hTM : T.M = 5 + n) (hTn : T.n = n) (D : Du T u w) (hpc : ∀ s j, s < 5 + n → j < n → (price (12 * s + j)).toInt = T.pc s j) (hS : ∀ s, s < 5 + n → (wS s).toInt = sw T k s) (hE : ∀ j, j < n → (wE j).toInt = ew T k j) (hA : ∀ j, j < n → aE j = enc (aEo j))
    (h : ∀ (wE2 aE2 : Nat → Int32) (aEo2 : Nat → Option Nat), (∀ j, j < n → (wE2 j).toInt = ew T (k + 1) j) → (∀ j, j < n → aE2 j = enc (aEo2 j)) → (∀ j, j < n → (ew T (k + 1) j = ew T k j ∧ aEo2 j = aEo j) ∨ ∃ p, aEo2 j = some p ∧ p < T.M ∧ sw T k p < NW ∧ T.pc p j < NW ∧ ew T (k + 1) j = sw T k p + T.pc p j ∧ ew T (k + 1) j < ew T k j) → post wE2 aE2) : P_X2_reachEvents post (nI n) price wS wE aE := by
  have e5 : (5 : Int32) = nI 5 := rfl
  have e12 : (12 : Int32) = nI 12 := rfl
  have m6 : (1000000 : Int32).toInt = NW := by decide
  have hNW : NW = 1000000 := rfl
  have pc0 : ∀ s j, s < 5 + n → j < n → 0 ≤ T.pc s j := fun s j hs hj => (D.p0 s j (by omega) (by omega)).1
  have s0 : ∀ s, s < 5 + n → 0 ≤ sw T k s ∧ sw T k s ≤ NW := fun s hs => ⟨sw_nn D k (by omega), sw_top k s⟩
  have eN : (5 : Int32) + nI n = nI (5 + n) := by rw [e5, nI_add]
  unfold P_X2_reachEvents
  rw [eN]
  intro X2 X28 h2 h28
  -- what holds of event j after s sources
  have step : ∀ (s j : Nat), s < 5 + n → j < n → ∀ (v : Int) (o : Option Nat), (v = mnZ (ew T k j) (fun s => if sw T k s < NW ∧ T.pc s j < NW then sw T k s + T.pc s j else NW) s ∧ ((v = ew T k j ∧ o = aEo j) ∨ ∃ p, o = some p ∧ p < T.M ∧ sw T k p < NW ∧ T.pc p j < NW ∧ v = sw T k p + T.pc p j ∧ v < ew T k j)) → ((¬ (sw T k s < NW ∧ T.pc s j < NW) ∨ v ≤ sw T k s + T.pc s j) → (v = mnZ (ew T k j) (fun s => if sw T k s < NW ∧ T.pc s j < NW then sw T k s + T.pc s j else NW) (s + 1))) ∧ ((sw T k s < NW ∧ T.pc s j < NW) → ¬ v ≤ sw T k s + T.pc s j → (sw T k s + T.pc s j = mnZ (ew T k j) (fun s => if sw T k s < NW ∧ T.pc s j < NW then sw T k s + T.pc s j else NW) (s + 1) ∧ sw T k s + T.pc s j < ew T k j)) := by
    intro s j hs hj v o hv
    have vb : v ≤ ew T k j := by rw [hv.1]; exact mnZ_b _ _ _
    have tp := ew_top (T := T) k j
    refine ⟨fun hc => ?_, fun hc hl => ?_⟩
    · rw [mnZ, ← hv.1]
      by_cases q : sw T k s < NW ∧ T.pc s j < NW
      · rw [if_pos q]
        rcases hc with w1 | w1
        · exact absurd q w1
        · omega
      · rw [if_neg q]; omega
    · rw [mnZ, ← hv.1, if_pos hc]
      omega
  have outer : ∀ m s : Nat, s + m = 5 + n → ∀ (wE2 aE2 : Nat → Int32) (o2 : Nat → Option Nat), (∀ j, j < n → ((wE2 j).toInt = mnZ (ew T k j) (fun s => if sw T k s < NW ∧ T.pc s j < NW then sw T k s + T.pc s j else NW) s ∧ (((wE2 j).toInt = ew T k j ∧ o2 j = aEo j) ∨ ∃ p, o2 j = some p ∧ p < T.M ∧ sw T k p < NW ∧ T.pc p j < NW ∧ (wE2 j).toInt = sw T k p + T.pc p j ∧ (wE2 j).toInt < ew T k j)) ∧ aE2 j = enc (o2 j)) → X2 (nI s) wE2 aE2 := by
    intro m
    induction m with
    | zero =>
      intro s hs wE2 aE2 o2 hI
      have e : s = 5 + n := by omega
      subst e
      apply h2
      have c : nI (5 + n) ≤ nI (5 + n) := (nI_leI (by omega) (by omega)).mpr (Nat.le_refl _)
      refine ⟨fun _ => h wE2 aE2 o2 (fun j hj => ?_) (fun j hj => (hI j hj).2) (fun j hj => ?_), fun z => absurd c z⟩
      · rw [ew_s, hTM]; exact (hI j hj).1.1
      · have e1 : ew T (k + 1) j = (wE2 j).toInt := by rw [ew_s, hTM]; exact (hI j hj).1.1.symm
        rw [e1]
        exact (hI j hj).1.2
    | succ m ih =>
      intro s hs wE2 aE2 o2 hI
      have ih := ih (s + 1) (by omega)
      have hs5 : s < 5 + n := by omega
      have inner : ∀ i j : Nat, j + i = n → sw T k s < NW → ∀ (wE2 aE2 : Nat → Int32) (o2 : Nat → Option Nat), (∀ x, x < n → ((wE2 x).toInt = mnZ (ew T k x) (fun s => if sw T k s < NW ∧ T.pc s x < NW then sw T k s + T.pc s x else NW) (if x < j then s + 1 else s) ∧ (((wE2 x).toInt = ew T k x ∧ o2 x = aEo x) ∨ ∃ p, o2 x = some p ∧ p < T.M ∧ sw T k p < NW ∧ T.pc p x < NW ∧ (wE2 x).toInt = sw T k p + T.pc p x ∧ (wE2 x).toInt < ew T k x)) ∧ aE2 x = enc (o2 x)) → X28 (nI s) (nI j) wE2 aE2 := by
        intro i
        induction i with
        | zero =>
          intro j hj hsw wE2 aE2 o2 hI
          have e : j = n := by omega
          subst e
          apply h28
          have c : nI j ≤ nI j := (nI_leI (by omega) (by omega)).mpr (Nat.le_refl _)
          refine ⟨fun _ y ey => ?_, fun z => absurd c z⟩
          rw [nI_1] at ey
          subst ey
          refine ih wE2 aE2 o2 (fun x hx => ?_)
          have := hI x hx
          rw [if_pos hx] at this
          exact this
        | succ i ihi =>
          intro j hj hsw wE2 aE2 o2 hI
          have ihi := ihi (j + 1) (by omega) hsw
          have hjn : j < n := by omega
          have cur := hI j hjn
          rw [if_neg (by omega)] at cur
          obtain ⟨st1, st2⟩ := step s j hs5 hjn (wE2 j).toInt (o2 j) cur.1
          have keep : (¬ (sw T k s < NW ∧ T.pc s j < NW) ∨ (wE2 j).toInt ≤ sw T k s + T.pc s j) → ∀ y : Int32, y = nI j + 1 → X28 (nI s) y wE2 aE2 := by
            intro hc y ey
            rw [nI_1] at ey
            subst ey
            refine ihi wE2 aE2 o2 (fun x hx => ?_)
            by_cases q : x = j
            · subst q
              rw [if_pos (by omega)]
              exact ⟨⟨st1 hc, cur.1.2⟩, cur.2⟩
            · have := hI x hx
              by_cases q2 : x < j
              · rw [if_pos q2] at this; rw [if_pos (by omega)]; exact this
              · rw [if_neg q2] at this; rw [if_neg (by omega)]; exact this
          apply h28
          have c : ¬ nI n ≤ nI j := fun z => by have := (nI_leI (by omega) (by omega)).mp z; omega
          refine ⟨fun z => absurd z c, fun _ => ?_⟩
          have ix : nI s * (12 : Int32) + nI j = nI (12 * s + j) := by rw [e12, pk_mul, nI_add, Nat.mul_comm]
          rw [ix, nIc (i := 12 * s + j) (by omega), nIc (i := s) (by omega), nIc (i := j) (by omega)]
          have hp := hpc s j hs5 hjn
          have ss := s0 s hs5
          have pp := pc0 s j hs5 hjn
          refine ⟨nIv (by omega) (by omega), fun y8 e8 => ⟨fun z => keep (Or.inl (fun v => ?_)), fun z => ⟨nIv (by omega) (by omega), nIv (by omega) (by omega), fun z2 => keep (Or.inr ?_), fun z2 => ?_⟩⟩⟩
          · rw [fa_le, e8, hp, m6] at z; omega
          · have hsum : (wS s + y8).toInt = sw T k s + T.pc s j := by
              rw [fa_le, e8, hp, m6] at z
              rw [e8, fb_addI (by rw [hS s hs5, hp]; omega) (by rw [hS s hs5, hp]; omega), hS s hs5, hp]
            rw [fa_le, hsum] at z2
            exact z2
          · have hpl : T.pc s j < NW := by rw [fa_le, e8, hp, m6] at z; omega
            have hsum : (wS s + y8).toInt = sw T k s + T.pc s j := by
              rw [e8, fb_addI (by rw [hS s hs5, hp]; omega) (by rw [hS s hs5, hp]; omega), hS s hs5, hp]
            rw [fa_le, hsum] at z2
            obtain ⟨g1, g2⟩ := st2 ⟨hsw, hpl⟩ z2
            intro wE3 e3 aE3 e4 y5 ey5
            rw [nI_1] at ey5
            subst ey5
            refine ihi wE3 aE3 (fun x => if x = j then some s else o2 x) (fun x hx => ?_)
            rw [e3, e4, upd_at, upd_at]
            by_cases q : x = j
            · subst q
              rw [if_pos rfl, if_pos rfl, if_pos rfl, if_pos (show x < x + 1 by omega), hsum]
              exact ⟨⟨g1, Or.inr ⟨s, rfl, by omega, hsw, hpl, rfl, g2⟩⟩, rfl⟩
            · have := hI x hx
              rw [if_neg q, if_neg q, if_neg q]
              by_cases q2 : x < j
              · rw [if_pos q2] at this; rw [if_pos (by omega)]; exact this
              · rw [if_neg q2] at this; rw [if_neg (by omega)]; exact this
      apply h2
      have c : ¬ nI (5 + n) ≤ nI s := fun z => by have := (nI_leI (by omega) (by omega)).mp z; omega
      refine ⟨fun z => absurd z c, fun _ => ⟨nIv (by omega) (by omega), ?_⟩⟩
      rw [nIc (i := s) (by omega)]
      refine ⟨fun z => ?_, fun z y ey => ?_⟩
      · rw [fa_lt, hS s hs5, m6] at z
        refine inner n 0 (by omega) z wE2 aE2 o2 (fun x hx => ?_)
        rw [if_neg (by omega)]
        exact hI x hx
      · rw [fa_lt, hS s hs5, m6] at z
        rw [nI_1] at ey
        subst ey
        refine ih wE2 aE2 o2 (fun x hx => ?_)
        have cur := hI x hx
        exact ⟨⟨(step s x hs5 hx (wE2 x).toInt (o2 x) cur.1).1 (Or.inl (fun v => z v.1)), cur.1.2⟩, cur.2⟩
  exact outer (5 + n) 0 (by omega) wE aE aEo (fun j hj => ⟨⟨hE j hj, Or.inl ⟨hE j hj, rfl⟩⟩, hA j hj⟩)
theorem reachSources_i {T : Tr} {post : Int32 → (Nat → Int32) → (Nat → Int32) → Prop} {wS wE aS : Nat → Int32} {aSo : Nat → Option Nat} {k : Nat} (hn : n ≤ 12) (hTM : T.M = 5 + n) (hTn : T.n = n) (D : Du T u w) (hpc : ∀ s j, s < 5 + n → j < n → (price (12 * s + j)).toInt = T.pc s j) (hse : ∀ s j, s < 5 + n → j < n → (sent (12 * s + j)).toInt = T.sent s j) (hS : ∀ s, s < 5 + n → (wS s).toInt = sw T k s) (hE : ∀ j, j < n → (wE j).toInt = ew T (k + 1) j) (hA : ∀ s, s < 5 + n → aS s = enc (aSo s))
    (h : ∀ (r : Int32) (wS2 aS2 : Nat → Int32) (aSo2 : Nat → Option Nat), ((r = 0 ∧ ∀ s, s < 5 + n → sw T (k + 1) s = sw T k s) ∨ (r = 1 ∧ ∃ s, s < 5 + n ∧ sw T (k + 1) s < sw T k s)) → (∀ s, s < 5 + n → (wS2 s).toInt = sw T (k + 1) s) → (∀ s, s < 5 + n → aS2 s = enc (aSo2 s)) → (∀ s, s < 5 + n → (sw T (k + 1) s = sw T k s ∧ aSo2 s = aSo s) ∨ ∃ j, aSo2 s = some j ∧ j < T.n ∧ ew T (k + 1) j < NW ∧ 0 < T.sent s j ∧ sw T (k + 1) s = ew T (k + 1) j - T.pc s j ∧ sw T (k + 1) s < sw T k s) → post r wS2 aS2) : P_X2_reachSources post (nI n) price sent wS wE aS := by
  have e5 : (5 : Int32) = nI 5 := rfl
  have e12 : (12 : Int32) = nI 12 := rfl
  have m6 : (1000000 : Int32).toInt = NW := by decide
  have z0 : (0 : Int32).toInt = 0 := by decide
  have hNW : NW = 1000000 := rfl
  have eN : (5 : Int32) + nI n = nI (5 + n) := by rw [e5, nI_add]
  unfold P_X2_reachSources
  rw [eN]
  intro X4 X28 h4 h28
  have step : ∀ (s j : Nat), s < 5 + n → j < n → ∀ v : Int, v = mnZ (sw T k s) (fun j => if ew T (k + 1) j < NW ∧ 0 < T.sent s j then ew T (k + 1) j - T.pc s j else NW) j → ((¬ (ew T (k + 1) j < NW ∧ 0 < T.sent s j) ∨ v ≤ ew T (k + 1) j - T.pc s j) → v = mnZ (sw T k s) (fun j => if ew T (k + 1) j < NW ∧ 0 < T.sent s j then ew T (k + 1) j - T.pc s j else NW) (j + 1)) ∧ ((ew T (k + 1) j < NW ∧ 0 < T.sent s j) → ¬ v ≤ ew T (k + 1) j - T.pc s j → (ew T (k + 1) j - T.pc s j = mnZ (sw T k s) (fun j => if ew T (k + 1) j < NW ∧ 0 < T.sent s j then ew T (k + 1) j - T.pc s j else NW) (j + 1) ∧ ew T (k + 1) j - T.pc s j < sw T k s)) := by
    intro s j hs hj v hv
    have vb : v ≤ sw T k s := by rw [hv]; exact mnZ_b _ _ _
    have tp := sw_top (T := T) k s
    refine ⟨fun hc => ?_, fun hc hl => ?_⟩
    · rw [mnZ, ← hv]
      by_cases q : ew T (k + 1) j < NW ∧ 0 < T.sent s j
      · rw [if_pos q]
        rcases hc with w1 | w1
        · exact absurd q w1
        · omega
      · rw [if_neg q]; omega
    · rw [mnZ, ← hv, if_pos hc]
      omega
  have outer : ∀ m j : Nat, j + m = n → ∀ (r : Int32) (wS2 aS2 : Nat → Int32) (o2 : Nat → Option Nat), ((r = 0 ∧ ∀ s, s < 5 + n → (wS2 s).toInt = sw T k s) ∨ (r = 1 ∧ ∃ s, s < 5 + n ∧ (wS2 s).toInt < sw T k s)) → (∀ s, s < 5 + n → ((wS2 s).toInt = mnZ (sw T k s) (fun j => if ew T (k + 1) j < NW ∧ 0 < T.sent s j then ew T (k + 1) j - T.pc s j else NW) j ∧ (((wS2 s).toInt = sw T k s ∧ o2 s = aSo s) ∨ ∃ p, o2 s = some p ∧ p < T.n ∧ ew T (k + 1) p < NW ∧ 0 < T.sent s p ∧ (wS2 s).toInt = ew T (k + 1) p - T.pc s p ∧ (wS2 s).toInt < sw T k s)) ∧ aS2 s = enc (o2 s)) → X4 r (nI j) wS2 aS2 := by
    intro m
    induction m with
    | zero =>
      intro j hj r wS2 aS2 o2 hr hI
      have e : j = n := by omega
      subst e
      apply h4
      have c : nI j ≤ nI j := (nI_leI (by omega) (by omega)).mpr (Nat.le_refl _)
      have ev : ∀ s, s < 5 + j → sw T (k + 1) s = (wS2 s).toInt := fun s hs => by rw [sw_s, hTn]; exact (hI s hs).1.1.symm
      refine ⟨fun _ => ⟨?_, h r wS2 aS2 o2 ?_ (fun s hs => (ev s hs).symm) (fun s hs => (hI s hs).2) (fun s hs => ?_)⟩, fun z => absurd c z⟩
      · rcases hr with w1 | w1
        · exact Or.inl w1.1
        · exact Or.inr w1.1
      · rcases hr with ⟨w1, w2⟩ | ⟨w1, s, w2, w3⟩
        · exact Or.inl ⟨w1, fun s hs => by rw [ev s hs]; exact w2 s hs⟩
        · exact Or.inr ⟨w1, s, w2, by rw [ev s w2]; exact w3⟩
      · rw [ev s hs]; exact (hI s hs).1.2
    | succ m ih =>
      intro j hj r wS2 aS2 o2 hr hI
      have ih := ih (j + 1) (by omega)
      have hjn : j < n := by omega
      have inner : ∀ i s : Nat, s + i = 5 + n → ew T (k + 1) j < NW → ∀ (r : Int32) (wS2 aS2 : Nat → Int32) (o2 : Nat → Option Nat), ((r = 0 ∧ ∀ s, s < 5 + n → (wS2 s).toInt = sw T k s) ∨ (r = 1 ∧ ∃ s, s < 5 + n ∧ (wS2 s).toInt < sw T k s)) → (∀ x, x < 5 + n → ((wS2 x).toInt = mnZ (sw T k x) (fun j => if ew T (k + 1) j < NW ∧ 0 < T.sent x j then ew T (k + 1) j - T.pc x j else NW) (if x < s then j + 1 else j) ∧ (((wS2 x).toInt = sw T k x ∧ o2 x = aSo x) ∨ ∃ p, o2 x = some p ∧ p < T.n ∧ ew T (k + 1) p < NW ∧ 0 < T.sent x p ∧ (wS2 x).toInt = ew T (k + 1) p - T.pc x p ∧ (wS2 x).toInt < sw T k x)) ∧ aS2 x = enc (o2 x)) → X28 r (nI j) (nI s) wS2 aS2 := by
        intro i
        induction i with
        | zero =>
          intro s hs hew r wS2 aS2 o2 hr hI
          have e : s = 5 + n := by omega
          subst e
          apply h28
          have c : nI (5 + n) ≤ nI (5 + n) := (nI_leI (by omega) (by omega)).mpr (Nat.le_refl _)
          refine ⟨fun _ y ey => ?_, fun z => absurd c z⟩
          rw [nI_1] at ey
          subst ey
          refine ih r wS2 aS2 o2 hr (fun x hx => ?_)
          have := hI x hx
          rw [if_pos hx] at this
          exact this
        | succ i ihi =>
          intro s hs hew r wS2 aS2 o2 hr hI
          have ihi := ihi (s + 1) (by omega) hew
          have hs5 : s < 5 + n := by omega
          have cur := hI s hs5
          rw [if_neg (by omega)] at cur
          obtain ⟨st1, st2⟩ := step s j hs5 hjn (wS2 s).toInt cur.1.1
          have keep : (¬ (ew T (k + 1) j < NW ∧ 0 < T.sent s j) ∨ (wS2 s).toInt ≤ ew T (k + 1) j - T.pc s j) → ∀ y : Int32, y = nI s + 1 → X28 r (nI j) y wS2 aS2 := by
            intro hc y ey
            rw [nI_1] at ey
            subst ey
            refine ihi r wS2 aS2 o2 hr (fun x hx => ?_)
            by_cases q : x = s
            · subst q
              rw [if_pos (by omega)]
              exact ⟨⟨st1 hc, cur.1.2⟩, cur.2⟩
            · have := hI x hx
              by_cases q2 : x < s
              · rw [if_pos q2] at this; rw [if_pos (by omega)]; exact this
              · rw [if_neg q2] at this; rw [if_neg (by omega)]; exact this
          apply h28
          have c : ¬ nI (5 + n) ≤ nI s := fun z => by have := (nI_leI (by omega) (by omega)).mp z; omega
          refine ⟨fun z => absurd z c, fun _ y8 e8 => ?_⟩
          have ix : nI s * (12 : Int32) + nI j = nI (12 * s + j) := by rw [e12, pk_mul, nI_add, Nat.mul_comm]
          rw [ix] at e8
          subst e8
          rw [nIc (i := 12 * s + j) (by omega), nIc (i := s) (by omega), nIc (i := j) (by omega)]
          have hp := hpc s j hs5 hjn
          have ht := hse s j hs5 hjn
          have e0 := ew_nn D (k + 1) (j := j) (by omega)
          refine ⟨nIv (by omega) (by omega), fun z => keep (Or.inl (fun v => ?_)), fun z => ⟨nIv (by omega) (by omega), nIv (by omega) (by omega), ?_⟩⟩
          · rw [fa_le, ht, z0] at z; omega
          · rw [fa_le, ht, z0] at z
            have st0 : 0 < T.sent s j := by omega
            have p0 := D.p0 s j (by omega) (by omega)
            have p4 := p0.2 (D.ti s j (by omega) (by omega) st0).1
            have hsub : (wE j - price (12 * s + j)).toInt = ew T (k + 1) j - T.pc s j := by
              rw [fb_subI (by rw [hE j hjn, hp]; omega) (by rw [hE j hjn, hp]; omega), hE j hjn, hp]
            refine ⟨fun z2 => keep (Or.inr ?_), fun z2 => ?_⟩
            · rw [fa_le, hsub] at z2; exact z2
            · rw [fa_le, hsub] at z2
              obtain ⟨g1, g2⟩ := st2 ⟨hew, st0⟩ z2
              intro wS3 e3 aS3 e4 y5 ey5
              rw [nI_1] at ey5
              subst ey5
              refine ihi 1 wS3 aS3 (fun x => if x = s then some j else o2 x) (Or.inr ⟨rfl, s, hs5, by rw [e3, upd_at, if_pos rfl, hsub]; exact g2⟩) (fun x hx => ?_)
              rw [e3, e4, upd_at, upd_at]
              by_cases q : x = s
              · subst q
                rw [if_pos rfl, if_pos rfl, if_pos rfl, if_pos (show x < x + 1 by omega), hsub]
                exact ⟨⟨g1, Or.inr ⟨j, rfl, by omega, hew, st0, rfl, g2⟩⟩, rfl⟩
              · have := hI x hx
                rw [if_neg q, if_neg q, if_neg q]
                by_cases q2 : x < s
                · rw [if_pos q2] at this; rw [if_pos (by omega)]; exact this
                · rw [if_neg q2] at this; rw [if_neg (by omega)]; exact this
      apply h4
      have c : ¬ nI n ≤ nI j := fun z => by have := (nI_leI (by omega) (by omega)).mp z; omega
      refine ⟨fun z => absurd z c, fun _ => ⟨nIv (by omega) (by omega), ?_⟩⟩
      rw [nIc (i := j) (by omega)]
      refine ⟨fun z => ?_, fun z y ey => ?_⟩
      · rw [fa_lt, hE j hjn, m6] at z
        refine inner (5 + n) 0 (by omega) z r wS2 aS2 o2 hr (fun x hx => ?_)
        rw [if_neg (by omega)]
        exact hI x hx
      · rw [fa_lt, hE j hjn, m6] at z
        rw [nI_1] at ey
        subst ey
        refine ih r wS2 aS2 o2 hr (fun x hx => ?_)
        have cur := hI x hx
        exact ⟨⟨(step x j hx hjn (wS2 x).toInt cur.1.1).1 (Or.inl (fun v => z v.1)), cur.1.2⟩, cur.2⟩
  exact outer n 0 (by omega) 0 wS aS aSo (Or.inl ⟨rfl, hS⟩) (fun s hs => ⟨⟨hS s hs, Or.inl ⟨hS s hs, rfl⟩⟩, hA s hs⟩)
theorem seekWays_i {T : Tr} {post : (Nat → Int32) → (Nat → Int32) → (Nat → Int32) → (Nat → Int32) → Prop} {wS wE aS aE : Nat → Int32} (hn : n ≤ 12) (hTM : T.M = 5 + n) (hTn : T.n = n) (D : Du T u w) (hpc : ∀ s j, s < 5 + n → j < n → (price (12 * s + j)).toInt = T.pc s j) (hse : ∀ s j, s < 5 + n → j < n → (sent (12 * s + j)).toInt = T.sent s j) (hsp : ∀ s, s < 5 + n → (spare s).toInt = T.spare s)
    (h : ∀ K wS wE aS aE aSo aEo, Stl T K → K ≤ 17 → (∀ s, s < 5 + n → (wS s).toInt = sw T K s) → (∀ j, j < n → (wE j).toInt = ew T K j) → AP T K aEo aSo → (∀ s, s < 5 + n → aS s = enc (aSo s)) → (∀ j, j < n → aE j = enc (aEo j)) → post wS wE aS aE) : P_X2_seekWays post (nI n) price sent spare wS wE aS aE := by
  have e5 : (5 : Int32) = nI 5 := rfl
  have m6 : (1000000 : Int32).toInt = NW := by decide
  have z0 : (0 : Int32).toInt = 0 := by decide
  have eN : (5 : Int32) + nI n = nI (5 + n) := by rw [e5, nI_add]
  unfold P_X2_seekWays
  rw [eN]
  intro X2 X69 h2 h69
  have passes : ∀ m k : Nat, k + m = 18 → ∀ (ch : Int32) (wS wE aS aE : Nat → Int32) (aSo aEo : Nat → Option Nat), ((ch = 0 ∧ Stl T k ∧ k ≤ 17) ∨ (ch = 1 ∧ (k = 0 ∨ ∃ s, s < T.M ∧ decS T k s))) → (∀ s, s < 5 + n → (wS s).toInt = sw T k s) → (∀ j, j < n → (wE j).toInt = ew T k j) → AP T k aEo aSo → (∀ s, s < 5 + n → aS s = enc (aSo s)) → (∀ j, j < n → aE j = enc (aEo j)) → X69 ch (nI k) wS wE aS aE := by
    intro m
    induction m with
    | zero =>
      intro k hk ch wS wE aS aE aSo aEo hch hS hE A hA1 hA2
      apply h69
      have c : ¬ (29 : Int32) ≤ nI k := fun z => by have := (nI_leI (a := 29) (by omega) (by omega)).mp z; omega
      refine ⟨fun z => absurd z c, fun _ => ⟨fun z => ?_, fun z => ?_⟩⟩
      · rcases hch with ⟨-, -, w1⟩ | ⟨w1, -⟩
        · omega
        · rw [w1] at z; exact absurd z (by decide)
      · rcases hch with ⟨w1, -⟩ | ⟨-, w1 | ⟨s, hs, w1⟩⟩
        · exact absurd w1 z
        · omega
        · have := dec_lt D hs w1; omega
    | succ m ih =>
      intro k hk ch wS wE aS aE aSo aEo hch hS hE A hA1 hA2
      have ih := ih (k + 1) (by omega)
      apply h69
      have c : ¬ (29 : Int32) ≤ nI k := fun z => by have := (nI_leI (a := 29) (by omega) (by omega)).mp z; omega
      refine ⟨fun z => absurd z c, fun _ => ⟨fun z => ?_, fun z => ?_⟩⟩
      · rcases hch with ⟨-, w1, w2⟩ | ⟨w1, -⟩
        · exact h k wS wE aS aE aSo aEo w1 w2 hS hE A hA1 hA2
        · rw [w1] at z; exact absurd z (by decide)
      · have hk16 : k ≤ 16 := by
          rcases hch with ⟨w1, -⟩ | ⟨-, w1 | ⟨s, hs, w1⟩⟩
          · exact absurd w1 z
          · omega
          · have := dec_lt D hs w1; omega
        refine reachEvents_i hn hTM hTn D hpc hS hE hA2 (fun wE2 aE2 aEo2 q1 q2 q3 => ?_)
        refine reachSources_i hn hTM hTn D hpc hse hS q1 hA1 (fun r wS2 aS2 aSo2 p1 p2 p3 p4 => ?_)
        intro y ey
        rw [nI_1] at ey
        subst ey
        refine ih r wS2 wE2 aS2 aE2 aSo2 aEo2 ?_ p2 q1 (AP_next A (fun j hj => q3 j (by omega)) (fun s hs => p4 s (by omega))) p3 q2
        rcases p1 with ⟨w1, w2⟩ | ⟨w1, s, w2, w3⟩
        · exact Or.inl ⟨w1, ⟨by omega, fun s hs => w2 s (by omega)⟩, by omega⟩
        · refine Or.inr ⟨w1, Or.inr ⟨s, by omega, ?_, fun _ => w3⟩⟩
          have := sw_top (T := T) k s
          omega
  have first : ∀ m s : Nat, s + m = 5 + n → ∀ wS aS : Nat → Int32, (∀ x, x < s → (wS x).toInt = sw T 0 x ∧ aS x = -9) → X2 (nI s) wS wE aS aE := by
    intro m
    induction m with
    | zero =>
      intro s hs wS aS hI
      have e : s = 5 + n := by omega
      subst e
      apply h2
      have c : nI (5 + n) ≤ nI (5 + n) := (nI_leI (by omega) (by omega)).mpr (Nat.le_refl _)
      refine ⟨fun _ => ?_, fun z => absurd c z⟩
      refine fill32 (by omega) (fun wE2 q1 => ?_)
      refine fill32 (by omega) (fun aE2 q2 => ?_)
      exact passes 18 0 (by omega) 1 wS wE2 aS aE2 (fun _ => none) (fun _ => none) (Or.inr ⟨rfl, Or.inl rfl⟩) (fun s hs => (hI s hs).1) (fun j hj => by rw [q1 j (by omega), m6]; rfl) (AP_0 (fun _ => rfl) (fun _ => rfl)) (fun s hs => (hI s hs).2) (fun j hj => q2 j (by omega))
    | succ m ih =>
      intro s hs wS aS hI
      have ih := ih (s + 1) (by omega)
      apply h2
      have c : ¬ nI (5 + n) ≤ nI s := fun z => by have := (nI_leI (by omega) (by omega)).mp z; omega
      refine ⟨fun z => absurd z c, fun _ => ⟨nIv (by omega) (by omega), ?_⟩⟩
      rw [nIc (i := s) (by omega)]
      intro v ev wS2 e1 aS2 e2 y ey
      rw [nI_1] at ey
      subst ey
      refine ih wS2 aS2 (fun x hx => ?_)
      rw [e1, e2, upd_at, upd_at]
      by_cases q : x = s
      · subst q
        rw [if_pos rfl, if_pos rfl, ev, sw_0]
        refine ⟨?_, rfl⟩
        have hx := hsp x (by omega)
        by_cases q2 : spare x ≤ 0
        · rw [if_pos q2]; rw [fa_le, hx, z0] at q2; rw [if_neg (by omega), m6]
        · rw [if_neg q2]; rw [fa_le, hx, z0] at q2; rw [if_pos (by omega)]; rfl
      · rw [if_neg q, if_neg q]; exact hI x (by omega)
  exact first (5 + n) 0 (by omega) wS aS (fun x hx => absurd hx (by omega))
end seek
