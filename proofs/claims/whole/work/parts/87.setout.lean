theorem fill32 {post : (Nat → Int32) → Prop} {arr : Nat → Int32} {v : Int32} {N : Nat} (hN : N ≤ 900) (h : ∀ a : Nat → Int32, (∀ j : Nat, j < N → a j = v) → post a) : P_J7_fill_53178 post v N arr := by
  unfold P_J7_fill_53178
  intro X hX
  have key : ∀ m i : Nat, i + m = N → ∀ a : Nat → Int32, (∀ j : Nat, j < i → a j = v) → X (nI i) (nI N) a := by
    intro m
    induction m with
    | zero =>
      intro i hi a ha
      have e : i = N := by omega
      subst e
      apply hX
      have g : nI i ≤ nI i := (nI_leI (by omega) (by omega)).mpr (by omega)
      exact ⟨fun _ => h a ha, fun z => absurd g z⟩
    | succ m ih =>
      intro i hi a ha
      have ih := ih (i + 1) (by omega)
      apply hX
      have g : ¬ nI N ≤ nI i := fun z => by have := (nI_leI (by omega) (by omega)).mp z; omega
      refine ⟨fun z => absurd z g, fun _ => ⟨nIv (by omega) (by omega), fun a2 e2 y ey => ?_⟩⟩
      rw [nI_1] at ey
      subst ey
      refine ih a2 (fun j hj => ?_)
      rw [e2, nIc (by omega), upd_at]
      by_cases q : j = i
      · rw [if_pos q]
      · rw [if_neg q]; exact ha j (by omega)
  intro y ey
  subst ey
  exact key N 0 (by omega) arr (fun j hj => absurd hj (by omega))
section sout
variable {fa : Nat → Int} {ca_far : Nat → Int32}
theorem leastBetween_i {post : Int32 → Prop} {f : Nat → Int32} {g a b : Nat} (h : FarOk fa) (hfa : ∀ i, i < 25 → (ca_far i).toInt = fa i) (hg : g + 2 ≤ 4) (ha : a < 5) (hb : b < 5) (hf : ∀ c, c < 5 → (f (25 * g + (5 * a + c))).toInt = wk fa (g + 1) a c) (hp : ∀ v : Int32, v.toInt = wk fa (g + 2) a b → post v) : P_X2_leastBetween post (nI (g + 2)) (nI a) (nI b) ca_far f := by
  have e5 : (5 : Int32) = nI 5 := rfl
  have e25 : (25 : Int32) = nI 25 := rfl
  have e2 : (2 : Int32) = nI 2 := rfl
  have m6 : (1000000 : Int32).toInt = NW := by decide
  have hE : NW = 1000000 := rfl
  unfold P_X2_leastBetween
  intro X hX
  have key : ∀ k c : Nat, c + k = 5 → ∀ v : Int32, v.toInt = mnZ NW (fun mid => wk fa (g + 1) a mid + fa (5 * mid + b)) c → X v (nI (25 * g)) (nI c) := by
    intro k
    induction k with
    | zero =>
      intro c hc v hv
      have e : c = 5 := by omega
      subst e
      apply hX
      have cc : (5 : Int32) ≤ nI 5 := by decide
      exact ⟨fun _ => hp v hv, fun z => absurd cc z⟩
    | succ k ih =>
      intro c hc v hv
      have ih := ih (c + 1) (by omega)
      rw [mnZ] at ih
      apply hX
      have cc : ¬ (5 : Int32) ≤ nI c := fun z => by have := (nI_leI (a := 5) (by omega) (by omega)).mp z; omega
      refine ⟨fun z => absurd z cc, fun _ => ?_⟩
      have i1 : nI (25 * g) + nI a * (5 : Int32) + nI c = nI (25 * g + (5 * a + c)) := by
        rw [e5, pk_mul, nI_add, nI_add]; congr 1; omega
      have i2 : nI c * (5 : Int32) + nI b = nI (5 * c + b) := by
        rw [e5, pk_mul, nI_add, Nat.mul_comm]
      rw [i1, i2, nIc (i := 25 * g + (5 * a + c)) (by omega), nIc (i := 5 * c + b) (by omega)]
      refine ⟨nIv (by omega) (by omega), nIv (by omega) (by omega), fun y ey y2 ey2 => ?_⟩
      rw [nI_1] at ey2
      subst ey2
      have r1 := wk_rng h (g + 1) a c ha (by omega)
      have r2 := r1.2 (by omega) (by omega)
      have r3 := h.1 (5 * c + b) (by omega)
      have hs : (f (25 * g + (5 * a + c)) + ca_far (5 * c + b)).toInt = wk fa (g + 1) a c + fa (5 * c + b) := by
        rw [fb_addI (by rw [hf c (by omega), hfa _ (by omega)]; omega) (by rw [hf c (by omega), hfa _ (by omega)]; omega), hf c (by omega), hfa _ (by omega)]
      refine ih y ?_
      rw [ey]
      by_cases q : f (25 * g + (5 * a + c)) + ca_far (5 * c + b) < v
      · rw [if_pos q, hs]; rw [fa_lt, hs, hv] at q; omega
      · rw [if_neg q, hv]; rw [fa_lt, hs, hv] at q; omega
  intro y ey
  have : nI (g + 2) - (2 : Int32) = nI g := by rw [e2, pk_sub (by omega)]; congr 1
  rw [this, e25, pk_mul, Nat.mul_comm] at ey
  subst ey
  exact key 5 0 (by omega) 1000000 m6
/-- the ways in so many goes, as they lie -/
abbrev GW (fa : Nat → Int) (f : Nat → Int32) : Prop := ∀ g a b, g < 4 → a < 5 → b < 5 → (f (25 * g + (5 * a + b))).toInt = wk fa (g + 1) a b
theorem layWays_i {post : (Nat → Int32) → Prop} {f : Nat → Int32} (h : FarOk fa) (hfa : ∀ i, i < 25 → (ca_far i).toInt = fa i) (hp : ∀ f, GW fa f → post f) : P_X2_layWays post ca_far f := by
  have e5 : (5 : Int32) = nI 5 := rfl
  have e25 : (25 : Int32) = nI 25 := rfl
  unfold P_X2_layWays
  intro X17 X24 h17 h24
  have key : ∀ k g : Nat, g + k = 4 → 1 ≤ g → ∀ f : Nat → Int32, (∀ g2 a b, g2 < g → a < 5 → b < 5 → (f (25 * g2 + (5 * a + b))).toInt = wk fa (g2 + 1) a b) → X17 (nI (g + 1)) f := by
    intro k
    induction k with
    | zero =>
      intro g hg g1 f hf
      have e : g = 4 := by omega
      subst e
      apply h17
      have c : (4 : Int32) < nI 5 := by decide
      exact ⟨fun _ => hp f hf, fun z => absurd c z⟩
    | succ k ih =>
      intro g hg g1 f hf
      have ih := ih (g + 1) (by omega) (by omega)
      have cells : ∀ j i : Nat, i + j = 25 → ∀ f : Nat → Int32, (∀ g2 a b, g2 < g → a < 5 → b < 5 → (f (25 * g2 + (5 * a + b))).toInt = wk fa (g2 + 1) a b) → (∀ a b, a < 5 → b < 5 → 5 * a + b < i → (f (25 * g + (5 * a + b))).toInt = wk fa (g + 1) a b) → X24 (nI (g + 1)) (nI i) f := by
        intro j
        induction j with
        | zero =>
          intro i hi f hf hn
          have e : i = 25 := by omega
          subst e
          apply h24
          have c : (25 : Int32) ≤ nI 25 := by decide
          refine ⟨fun _ y ey => ?_, fun z => absurd c z⟩
          rw [nI_1] at ey
          subst ey
          refine ih f (fun g2 a b h1 ha hb => ?_)
          by_cases q : g2 = g
          · subst q; exact hn a b ha hb (by omega)
          · exact hf g2 a b (by omega) ha hb
        | succ j ihj =>
          intro i hi f hf hn
          have ihj := ihj (i + 1) (by omega)
          apply h24
          have c : ¬ (25 : Int32) ≤ nI i := fun z => by have := (nI_leI (a := 25) (by omega) (by omega)).mp z; omega
          refine ⟨fun z => absurd z c, fun _ => ?_⟩
          have er : nI i - nI i / (5 : Int32) * (5 : Int32) = nI (i % 5) := by rw [e5]; exact pk_rem (by omega) (by omega) (by omega)
          have ed : nI i / (5 : Int32) = nI (i / 5) := by rw [e5]; exact pk_div (by omega) (by omega) (by omega)
          rw [er, ed]
          obtain ⟨g0, rfl⟩ : ∃ x, g = x + 1 := ⟨g - 1, by omega⟩
          refine leastBetween_i (g := g0) h hfa (by omega) (by omega) (by omega) (fun c hc => hf g0 (i / 5) c (by omega) (by omega) hc) (fun v hv => ?_)
          have ix : (nI (g0 + 1 + 1) - 1) * (25 : Int32) + nI i = nI (25 * (g0 + 1) + i) := by
            rw [nI_pred, e25, pk_mul, nI_add, Nat.mul_comm]
          rw [ix, nIc (i := 25 * (g0 + 1) + i) (by omega)]
          refine ⟨nIv (by omega) (by omega), fun f2 e2 y ey => ?_⟩
          rw [nI_1] at ey
          subst ey
          refine ihj f2 (fun g2 a b h1 ha hb => ?_) (fun a b ha hb hl => ?_)
          · rw [e2, upd_at, if_neg (by omega)]; exact hf g2 a b h1 ha hb
          · rw [e2, upd_at]
            by_cases q : 5 * a + b = i
            · rw [if_pos (by omega), hv]
              have q1 : i / 5 = a := by omega
              have q2 : i % 5 = b := by omega
              rw [q1, q2]
            · rw [if_neg (by omega)]; exact hn a b ha hb (by omega)
      apply h17
      have c : ¬ (4 : Int32) < nI (g + 1) := fun z => by have := (nI_ltI (a := 4) (by omega) (by omega)).mp z; omega
      exact ⟨fun z => absurd z c, fun _ => cells 25 0 (by omega) f hf (fun a b _ _ hl => absurd hl (by omega))⟩
  intro f1 e1
  have z0 : (0 : Int32).toNatClampNeg = 0 := rfl
  have z25 : (25 : Int32).toNatClampNeg = 25 := rfl
  refine key 3 1 (by omega) (by omega) f1 (fun g2 a b h1 ha hb => ?_)
  have : g2 = 0 := by omega
  subst this
  rw [e1, z0, z25]
  unfold va_cpy
  rw [if_pos (by omega)]
  have e : 0 + (25 * 0 + (5 * a + b) - 0) = 5 * a + b := by omega
  rw [e, hfa _ (by omega)]
  rfl
theorem way_i {post : Int32 → Prop} {f : Nat → Int32} {p1 : Int32} {g : Int} {a b : Nat} (hG : GW fa f) (hg : p1.toInt = g) (ha : a < 5) (hb : b < 5) (hp : ∀ v : Int32, v.toInt = wy fa g.toNat a b → post v) : P_X2_way post p1 (nI a) (nI b) f := by
  have e5 : (5 : Int32) = nI 5 := rfl
  have e25 : (25 : Int32) = nI 25 := rfl
  have o1 : (1 : Int32).toInt = 1 := by decide
  have o4 : (4 : Int32).toInt = 4 := by decide
  unfold P_X2_way
  refine ⟨fun z y ey => ?_, fun z => ?_⟩
  · rw [fa_le, hg, o1] at z
    have ey2 : y = nI (min g.toNat 4 - 1 + 1) := by
      rw [ey]
      by_cases q : (4 : Int32) < p1
      · rw [if_pos q]; rw [fa_lt, hg, o4] at q
        have : min g.toNat 4 - 1 + 1 = 4 := by omega
        rw [this]; rfl
      · rw [if_neg q]; rw [fa_lt, hg, o4] at q
        rw [fa_eq, hg, nI_toInt (by omega)]
        omega
    have ix : (y - 1) * (25 : Int32) + nI a * (5 : Int32) + nI b = nI (25 * (min g.toNat 4 - 1) + (5 * a + b)) := by
      rw [ey2, nI_pred, e25, e5, pk_mul, pk_mul, nI_add, nI_add]
      congr 1
      omega
    rw [ix, nIc (by omega)]
    refine ⟨nIv (by omega) (by omega), hp _ ?_⟩
    rw [hG _ a b (by omega) ha hb]
    unfold wy
    congr 1
    omega
  · rw [fa_le, hg, o1] at z
    refine hp _ ?_
    have : g.toNat = 0 := by omega
    have e0 : wy fa 0 a b = NW := rfl
    rw [this, e0]
    decide
variable {n : Nat} {sv rk gh : Nat → Nat} {served rank ev_house ev_need : Nat → Int32} {f : Nat → Int32}
/-- prices of event j, as they lie -/
abbrev PR (fa : Nat → Int) (rk gh : Nat → Nat) (n : Nat) (price : Nat → Int32) (j : Nat) : Prop := ∀ s, s < 5 + n → (price (12 * s + j)).toInt = pcT fa rk gh s j
theorem setPrices_i {post : (Nat → Int32) → Prop} {price : Nat → Int32} {j : Nat} (hn : n ≤ 12) (hG : GW fa f) (hs : ∀ i, i < n → served i = nI (sv i)) (hsv : ∀ i, i < n → sv i < 12) (hr : ∀ i, i < n → rank i = nI (rk i)) (hrk : ∀ i, i < n → rk i < 12) (hh : ∀ i, i < n → ev_house (sv i) = nI (gh i)) (hgh : ∀ i, i < n → gh i < 5) (hj : j < n)
    (hp : ∀ price2 : Nat → Int32, PR fa rk gh n price2 j → (∀ x, x % 12 ≠ j → price2 x = price x) → post price2) : P_X2_setPrices post (nI j) ev_house f served rank (nI n) price := by
  have e12 : (12 : Int32) = nI 12 := rfl
  have e5 : (5 : Int32) = nI 5 := rfl
  unfold P_X2_setPrices
  intro X15 X57 h15 h57
  have hj1 := hsv j hj
  have rj := hrk j hj
  rw [nIc (i := j) (by omega), hs j hj, nIc (i := sv j) (by omega), hh j hj]
  have evs : ∀ k i : Nat, i + k = n → ∀ price2 : Nat → Int32, (∀ s, s < 5 + i → (price2 (12 * s + j)).toInt = pcT fa rk gh s j) → (∀ x, x % 12 ≠ j → price2 x = price x) → X57 (nI (gh j)) (nI i) price2 := by
    intro k
    induction k with
    | zero =>
      intro i hi price2 h1 h2
      have e : i = n := by omega
      subst e
      apply h57
      have c : nI i ≤ nI i := (nI_leI (by omega) (by omega)).mpr (Nat.le_refl _)
      exact ⟨fun _ => hp price2 h1 h2, fun z => absurd c z⟩
    | succ k ih =>
      intro i hi price2 h1 h2
      have ih := ih (i + 1) (by omega)
      have hi1 := hsv i (by omega)
      have ri := hrk i (by omega)
      apply h57
      have c : ¬ nI n ≤ nI i := fun z => by have := (nI_leI (by omega) (by omega)).mp z; omega
      refine ⟨fun z => absurd z c, fun _ => ?_⟩
      rw [nIc (i := i) (by omega), hs i (by omega), nIc (i := sv i) (by omega), hh i (by omega), nIc (i := j) (by omega), hr j hj, hr i (by omega)]
      refine ⟨nIv (by omega) (by omega), nIv (by omega) (by omega), fun y ey => ⟨nIv (by omega) (by omega), ?_⟩⟩
      rw [ey]
      have sb : (nI (rk j) - nI (rk i)).toInt = (rk j : Int) - rk i := by
        rw [fb_subI (by rw [nI_toInt (by omega), nI_toInt (by omega)]; omega) (by rw [nI_toInt (by omega), nI_toInt (by omega)]; omega), nI_toInt (by omega), nI_toInt (by omega)]
      refine way_i (fa := fa) hG sb (hgh i (by omega)) (hgh j hj) (fun v hv => ?_)
      have ix : ((5 : Int32) + nI i) * (12 : Int32) + nI j = nI (12 * (5 + i) + j) := by
        rw [e5, e12, nI_add, pk_mul, nI_add, Nat.mul_comm]
      rw [ix, nIc (i := 12 * (5 + i) + j) (by omega)]
      refine ⟨nIv (by omega) (by omega), fun p2 e2 y2 ey2 => ?_⟩
      rw [nI_1] at ey2
      subst ey2
      refine ih p2 (fun s hs2 => ?_) (fun x hx => ?_)
      · rw [e2, upd_at]
        by_cases q : s = 5 + i
        · subst q
          rw [if_pos rfl, hv, pcT_e]
          congr 1
          omega
        · rw [if_neg (by omega)]; exact h1 s (by omega)
      · rw [e2, upd_at, if_neg (by omega)]; exact h2 x hx
  have hou : ∀ k a : Nat, a + k = 5 → ∀ price2 : Nat → Int32, (∀ s, s < a → (price2 (12 * s + j)).toInt = pcT fa rk gh s j) → (∀ x, x % 12 ≠ j → price2 x = price x) → X15 (nI (gh j)) (nI a) price2 := by
    intro k
    induction k with
    | zero =>
      intro a ha price2 h1 h2
      have e : a = 5 := by omega
      subst e
      apply h15
      have c : (5 : Int32) ≤ nI 5 := by decide
      exact ⟨fun _ => evs n 0 (by omega) price2 h1 h2, fun z => absurd c z⟩
    | succ k ih =>
      intro a ha price2 h1 h2
      have ih := ih (a + 1) (by omega)
      apply h15
      have c : ¬ (5 : Int32) ≤ nI a := fun z => by have := (nI_leI (a := 5) (by omega) (by omega)).mp z; omega
      refine ⟨fun z => absurd z c, fun _ => ⟨nIv (by omega) (by omega), ?_⟩⟩
      rw [nIc (i := j) (by omega), hr j hj, nI_1 (rk j)]
      refine way_i (fa := fa) (g := ((rk j + 1 : Nat) : Int)) hG (nI_toInt (by omega)) (by omega) (hgh j hj) (fun v hv => ?_)
      have ix : nI a * (12 : Int32) + nI j = nI (12 * a + j) := by
        rw [e12, pk_mul, nI_add, Nat.mul_comm]
      rw [ix, nIc (i := 12 * a + j) (by omega)]
      refine ⟨nIv (by omega) (by omega), fun p2 e2 y2 ey2 => ?_⟩
      rw [nI_1] at ey2
      subst ey2
      refine ih p2 (fun s hs2 => ?_) (fun x hx => ?_)
      · rw [e2, upd_at]
        by_cases q : s = a
        · subst q
          rw [if_pos rfl, hv, pcT_h (by omega)]
          congr 1
        · rw [if_neg (by omega)]; exact h1 s (by omega)
      · rw [e2, upd_at, if_neg (by omega)]; exact h2 x hx
  refine ⟨nIv (by omega) (by omega), nIv (by omega) (by omega), fun y ey => ?_⟩
  subst ey
  exact hou 5 0 (by omega) price (fun s h => absurd h (by omega)) (fun x _ => rfl)
theorem setOut_i {post : (Nat → Int32) → (Nat → Int32) → (Nat → Int32) → (Nat → Int32) → Prop} {st_booked price sent spare unmet : Nat → Int32} {K : Nat} (hK : K ≤ 5) (hn : n ≤ 12) (hG : GW fa f) (hs : ∀ i, i < n → served i = nI (sv i)) (hsv : ∀ i, i < n → sv i < 12) (hr : ∀ i, i < n → rank i = nI (rk i)) (hrk : ∀ i, i < n → rk i < 12) (hh : ∀ i, i < n → ev_house (sv i) = nI (gh i)) (hgh : ∀ i, i < n → gh i < 5)
    (hp : ∀ price2 sent2 spare2 unmet2 : Nat → Int32, (∀ j, j < n → PR fa rk gh n price2 j) → (∀ x, x < 204 → sent2 x = 0) → (∀ a, a < 5 → spare2 a = st_booked (6 * a + K)) → (∀ i, i < n → spare2 (5 + i) = ev_need (sv i)) → (∀ i, i < n → unmet2 i = ev_need (sv i)) → post price2 sent2 spare2 unmet2) :
    P_X2_setOut post (nI K) st_booked ev_house ev_need f served rank (nI n) price sent spare unmet := by
  have e6 : (6 : Int32) = nI 6 := rfl
  have e5 : (5 : Int32) = nI 5 := rfl
  unfold P_X2_setOut
  intro X11 X44 h11 h44
  refine fill32 (by omega) (fun sent2 hz => ?_)
  have evs : ∀ k i : Nat, i + k = n → ∀ price2 spare2 unmet2 : Nat → Int32, (∀ j, j < i → PR fa rk gh n price2 j) → (∀ a, a < 5 → spare2 a = st_booked (6 * a + K)) → (∀ x, x < i → spare2 (5 + x) = ev_need (sv x)) → (∀ x, x < i → unmet2 x = ev_need (sv x)) → X44 (nI i) price2 sent2 spare2 unmet2 := by
    intro k
    induction k with
    | zero =>
      intro i hi price2 spare2 unmet2 h1 h2 h3 h4
      have e : i = n := by omega
      subst e
      apply h44
      have c : nI i ≤ nI i := (nI_leI (by omega) (by omega)).mpr (Nat.le_refl _)
      exact ⟨fun _ => hp price2 sent2 spare2 unmet2 h1 hz h2 h3 h4, fun z => absurd c z⟩
    | succ k ih =>
      intro i hi price2 spare2 unmet2 h1 h2 h3 h4
      have ih := ih (i + 1) (by omega)
      have hi1 := hsv i (by omega)
      apply h44
      have c : ¬ nI n ≤ nI i := fun z => by have := (nI_leI (by omega) (by omega)).mp z; omega
      refine ⟨fun z => absurd z c, fun _ => ?_⟩
      have ix : (5 : Int32) + nI i = nI (5 + i) := by rw [e5, nI_add]
      rw [ix, nIc (i := i) (by omega), hs i (by omega), nIc (i := sv i) (by omega), nIc (i := 5 + i) (by omega)]
      refine ⟨nIv (by omega) (by omega), nIv (by omega) (by omega), fun y ey => ⟨nIv (by omega) (by omega), fun sp e1 un e2 => ?_⟩⟩
      refine setPrices_i hn hG hs hsv hr hrk hh hgh (show i < n by omega) (fun p2 q1 q2 => ?_)
      intro y2 ey2
      rw [nI_1] at ey2
      subst ey2
      refine ih p2 sp un (fun j hj => ?_) (fun a ha => ?_) (fun x hx => ?_) (fun x hx => ?_)
      · by_cases q : j = i
        · subst q; exact q1
        · intro s hs2
          rw [q2 _ (by omega)]
          exact h1 j (by omega) s hs2
      · rw [e1, upd_at, if_neg (by omega)]; exact h2 a ha
      · rw [e1, upd_at]
        by_cases q : x = i
        · rw [if_pos (by omega), q, ey]
        · rw [if_neg (by omega)]; exact h3 x (by omega)
      · rw [e2, upd_at]
        by_cases q : x = i
        · rw [if_pos q, q, ey]
        · rw [if_neg q]; exact h4 x (by omega)
  have hou : ∀ k a : Nat, a + k = 5 → ∀ spare2 : Nat → Int32, (∀ x, x < a → spare2 x = st_booked (6 * x + K)) → X11 (nI a) price sent2 spare2 unmet := by
    intro k
    induction k with
    | zero =>
      intro a ha spare2 h1
      have e : a = 5 := by omega
      subst e
      apply h11
      have c : (5 : Int32) ≤ nI 5 := by decide
      exact ⟨fun _ => evs n 0 (by omega) price spare2 unmet (fun j h => absurd h (by omega)) h1 (fun j h => absurd h (by omega)) (fun j h => absurd h (by omega)), fun z => absurd c z⟩
    | succ k ih =>
      intro a ha spare2 h1
      have ih := ih (a + 1) (by omega)
      apply h11
      have c : ¬ (5 : Int32) ≤ nI a := fun z => by have := (nI_leI (a := 5) (by omega) (by omega)).mp z; omega
      refine ⟨fun z => absurd z c, fun _ => ?_⟩
      have ix : nI a * 6 + nI K = nI (6 * a + K) := by rw [e6, pk_mul, nI_add, Nat.mul_comm]
      unfold P_X10_cell
      rw [ix]
      refine ⟨nIv (by omega) (by omega), nIv (by omega) (by omega), fun sp e1 y ey => ?_⟩
      rw [nIc (i := 6 * a + K) (by omega), nIc (i := a) (by omega)] at e1
      rw [nI_1] at ey
      subst ey
      refine ih sp (fun x hx => ?_)
      rw [e1, upd_at]
      by_cases q : x = a
      · rw [if_pos q, q]
      · rw [if_neg q]; exact h1 x (by omega)
  exact hou 5 0 (by omega) spare (fun x hx => absurd hx (by omega))
end sout
