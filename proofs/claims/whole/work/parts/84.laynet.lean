section lnet
variable {D : Nat} {fa bk nd : Nat → Int}
/-- the first i pairs are laid -/
abbrev LN (D : Nat) (fa bk nd : Nat → Int) (i : Nat) (ef et rm : Nat → Int32) (pc : Nat → Int64) : Prop :=
  ∀ x, x < i → (ef (2 * x) = nI (frP D x) ∧ ef (2 * x + 1) = nI (toP D x)) ∧ (et (2 * x) = nI (toP D x) ∧ et (2 * x + 1) = nI (frP D x)) ∧ ((rm (2 * x)).toInt = cpP D bk nd x ∧ rm (2 * x + 1) = 0) ∧ (pc (2 * x)).toInt = prP D fa x ∧ (pc (2 * x + 1)).toInt = - prP D fa x
theorem nedge_i {post : Int32 → (Nat → Int32) → (Nat → Int32) → (Nat → Int32) → (Nat → Int64) → Prop} {i : Nat} {ef et rm : Nat → Int32} {pc : Nat → Int64} {p1 p2 p3 : Int32} {p4 : Int64} (hi : i < 499) (L : LN D fa bk nd i ef et rm pc) (h1 : p1 = nI (frP D i)) (h2 : p2 = nI (toP D i)) (h3 : p3.toInt = cpP D bk nd i) (h4 : p4.toInt = prP D fa i) (h4r : -10000000 ≤ prP D fa i)
    (h : ∀ ef et rm pc, LN D fa bk nd (i + 1) ef et rm pc → post (nI (2 * (i + 1))) ef et rm pc) : P_X11_edge post p1 p2 p3 p4 (nI (2 * i)) ef et rm pc := by
  unfold P_X11_edge
  have e1 : nI (2 * i) + 1 = nI (2 * i + 1) := nI_1 _
  have e2 : nI (2 * i) + 2 = nI (2 * (i + 1)) := by
    have : (2 : Int32) = nI 2 := rfl
    rw [this, nI_add]
    congr 1
  rw [e1, e2, nIc (i := 2 * i) (by omega), nIc (i := 2 * i + 1) (by omega)]
  refine ⟨nIv (by omega) (by omega), fun a1 b1 a2 b2 a3 b3 a4 b4 => ⟨nIv (by omega) (by omega), fun a5 b5 a6 b6 a7 b7 a8 b8 y ey => ?_⟩⟩
  subst ey
  subst b1; subst b2; subst b3; subst b4; subst b5; subst b6; subst b7; subst b8
  have ng : (-p4).toInt = - p4.toInt := by
    have := fb_rngL p4
    rw [Int64.toInt_neg]
    apply Int.bmod_eq_of_le <;> omega
  refine h _ _ _ _ (fun x hx => ?_)
  simp only [upd_at, vuL_at]
  by_cases q : x = i
  · subst q
    rw [if_neg (by omega), if_pos rfl, if_pos rfl, if_neg (by omega), if_pos rfl, if_pos rfl, if_neg (by omega), if_pos rfl, if_pos rfl, if_neg (by omega), if_pos rfl, if_pos rfl]
    exact ⟨⟨h1, h2⟩, ⟨h2, h1⟩, ⟨h3, rfl⟩, h4, by rw [ng, h4]⟩
  · rw [if_neg (by omega), if_neg (by omega), if_neg (by omega), if_neg (by omega), if_neg (by omega), if_neg (by omega), if_neg (by omega), if_neg (by omega), if_neg (by omega), if_neg (by omega), if_neg (by omega), if_neg (by omega), if_neg (by omega), if_neg (by omega), if_neg (by omega), if_neg (by omega)]
    exact L x (by omega)
theorem layNet_i {post : Int32 → (Nat → Int32) → (Nat → Int32) → (Nat → Int32) → (Nat → Int64) → Prop} {m_book m_farness m_need ef et rm : Nat → Int32} {pc : Nat → Int64} {m_edges : Int32} {K : Nat} (hD : D ≤ 12) (hK : K ≤ 5) (hfa : ∀ i, i < 25 → (m_farness i).toInt = fa i) (hfr : ∀ i, i < 25 → 0 ≤ fa i ∧ fa i ≤ 99) (hbk : ∀ a, a < 5 → (m_book (6 * a + K)).toInt = bk a) (hnd : ∀ i, i < 5 * D → (m_need i).toInt = nd i)
    (h : ∀ ef et rm pc, LN D fa bk nd (10 + 35 * D) ef et rm pc → post (nI (2 * (10 + 35 * D))) ef et rm pc) : P_X11_layNet post (nI K) m_book m_farness (nI D) m_need m_edges ef et rm pc := by
  have e7 : (7 : Int32) = nI 7 := rfl
  have e10 : (10 : Int32) = nI 10 := rfl
  have e5 : (5 : Int32) = nI 5 := rfl
  have e2 : (2 : Int32) = nI 2 := rfl
  have e6 : (6 : Int32) = nI 6 := rfl
  have m6 : (1000000 : Int32).toInt = 1000000 := by decide
  have z64 : (0 : Int64).toInt = 0 := by decide
  have m7 : (-10000000 : Int64).toInt = -10000000 := by decide
  have low : ∀ i, i < 10 + 35 * D → -10000000 ≤ prP D fa i := fun i hi => (p_rng hfr hi).2.2.1
  have from_is : ∀ d a : Nat, d ≤ 12 → a < 5 → (if nI d = (0 : Int32) then ((2 : Int32) + nI a) else ((((7 : Int32) + ((10 : Int32) * nI d)) - (10 : Int32)) + (5 : Int32)) + nI a) = nI (pv d a) := by
    intro d a hd ha
    by_cases c : nI d = (0 : Int32)
    · rw [if_pos c]
      have w : d = 0 := (nI_eq (b := 0) (by omega) (by omega)).mp c
      subst w
      rw [e2, nI_add]; unfold pv; congr 1
    · rw [if_neg c]
      have d0 : d ≠ 0 := fun w => c (by rw [w]; rfl)
      rw [e7, e10, e5, pk_mul, nI_add, pk_sub (by omega), nI_add, nI_add]
      unfold pv
      congr 1
      omega
  have ar_is : ∀ d b : Nat, (7 : Int32) + (10 : Int32) * nI d + nI b = nI (ar d b) := by
    intro d b
    rw [e7, e10, pk_mul, nI_add, nI_add]
    unfold ar
    congr 1
    omega
  have aft_is : ∀ d b : Nat, (7 : Int32) + (10 : Int32) * nI d + (5 : Int32) + nI b = nI (pv (d + 1) b) := by
    intro d b
    rw [e7, e10, e5, pk_mul, nI_add, nI_add, nI_add]
    unfold pv
    congr 1
    omega
  unfold P_X11_layNet
  intro X7 X40 X50 X84 X134 X217 h7 h40 h50 h84 h134 h217
  have sinks : ∀ k a : Nat, a + k = 5 → ∀ ef et rm pc, LN D fa bk nd (5 + 35 * D + a) ef et rm pc → X217 (nI a) (nI (2 * (5 + 35 * D + a))) ef et rm pc := by
    intro k
    induction k with
    | zero =>
      intro a ha ef et rm pc L
      have e : a = 5 := by omega
      subst e
      apply h217
      have c : (5 : Int32) ≤ nI 5 := by decide
      refine ⟨fun _ => ?_, fun z => absurd c z⟩
      have e3 : 5 + 35 * D + 5 = 10 + 35 * D := by omega
      rw [e3] at L ⊢
      exact h ef et rm pc L
    | succ k ih =>
      intro a ha ef et rm pc L
      have ih := ih (a + 1) (by omega)
      obtain ⟨s1, s2, s3, s4⟩ := k_sink D fa bk nd (show a < 5 by omega)
      apply h217
      have c : ¬ (5 : Int32) ≤ nI a := fun z => by have := (nI_leI (a := 5) (by omega) (by omega)).mp z; omega
      refine ⟨fun z => absurd z c, fun _ v ev => ?_⟩
      rw [from_is D a hD (by omega)] at ev
      refine nedge_i (by omega) L (by rw [ev, s1]) (by rw [s2]; rfl) (by rw [s4]; exact m6) (by rw [s3]; exact z64) (low _ (by omega)) (fun ef et rm pc L => ?_)
      intro y ey
      rw [nI_1] at ey
      subst ey
      exact ih ef et rm pc L
  have needsL : ∀ d, d < D → (∀ ef et rm pc, LN D fa bk nd (5 + 35 * (d + 1)) ef et rm pc → X40 (nI (d + 1)) (nI (2 * (5 + 35 * (d + 1)))) ef et rm pc) → ∀ k a : Nat, a + k = 5 → ∀ ef et rm pc, LN D fa bk nd (5 + 35 * d + (25 + 2 * a)) ef et rm pc → X134 (nI d) (nI a) (nI (2 * (5 + 35 * d + (25 + 2 * a)))) ef et rm pc := by
    intro d hd nxt k
    induction k with
    | zero =>
      intro a ha ef et rm pc L
      have e : a = 5 := by omega
      subst e
      apply h134
      have c : (5 : Int32) ≤ nI 5 := by decide
      refine ⟨fun _ y ey => ?_, fun z => absurd c z⟩
      rw [nI_1] at ey
      subst ey
      have e3 : 5 + 35 * d + (25 + 2 * 5) = 5 + 35 * (d + 1) := by omega
      rw [e3] at L ⊢
      exact nxt ef et rm pc L
    | succ k ih =>
      intro a ha ef et rm pc L
      have ih := ih (a + 1) (by omega)
      obtain ⟨s1, s2, s3, s4⟩ := k_need D fa bk nd hd (show a < 5 by omega)
      obtain ⟨t1, t2, t3, t4⟩ := k_idle D fa bk nd hd (show a < 5 by omega)
      apply h134
      have c : ¬ (5 : Int32) ≤ nI a := fun z => by have := (nI_leI (a := 5) (by omega) (by omega)).mp z; omega
      refine ⟨fun z => absurd z c, fun _ => ?_⟩
      have ix : (5 : Int32) * nI d + nI a = nI (5 * d + a) := by rw [e5, pk_mul, nI_add]
      rw [ix, ar_is, aft_is, nIc (i := 5 * d + a) (by omega)]
      refine ⟨nIv (by omega) (by omega), ?_⟩
      refine nedge_i (by omega) L (by rw [s1]) (by rw [s2]) (by rw [s4]; exact hnd _ (by omega)) (by rw [s3]; exact m7) (low _ (by omega)) (fun ef et rm pc L => ?_)
      have e3 : 5 + 35 * d + (25 + 2 * a) + 1 = 5 + 35 * d + (25 + (2 * a + 1)) := by omega
      rw [e3] at L ⊢
      refine nedge_i (by omega) L (by rw [t1]) (by rw [t2]) (by rw [t4]; exact m6) (by rw [t3]; exact z64) (low _ (by omega)) (fun ef et rm pc L => ?_)
      intro y ey
      rw [nI_1] at ey
      subst ey
      have e4 : 5 + 35 * d + (25 + (2 * a + 1)) + 1 = 5 + 35 * d + (25 + 2 * (a + 1)) := by omega
      rw [e4] at L ⊢
      exact ih ef et rm pc L
  have days : ∀ k d : Nat, d + k = D → ∀ ef et rm pc, LN D fa bk nd (5 + 35 * d) ef et rm pc → X40 (nI d) (nI (2 * (5 + 35 * d))) ef et rm pc := by
    intro k
    induction k with
    | zero =>
      intro d hd ef et rm pc L
      have e : d = D := by omega
      subst e
      apply h40
      have c : nI d ≤ nI d := (nI_leI (by omega) (by omega)).mpr (Nat.le_refl _)
      exact ⟨fun _ => sinks 5 0 (by omega) ef et rm pc L, fun z => absurd c z⟩
    | succ k ih =>
      intro d hd ef et rm pc L
      have ih := ih (d + 1) (by omega)
      have hdD : d < D := by omega
      have rows : ∀ j a : Nat, a + j = 5 → ∀ ef et rm pc, LN D fa bk nd (5 + 35 * d + 5 * a) ef et rm pc → X50 (nI d) (nI a) (nI (2 * (5 + 35 * d + 5 * a))) ef et rm pc := by
        intro j
        induction j with
        | zero =>
          intro a ha ef et rm pc L
          have e : a = 5 := by omega
          subst e
          apply h50
          have c : (5 : Int32) ≤ nI 5 := by decide
          exact ⟨fun _ => needsL d hdD ih 5 0 (by omega) ef et rm pc L, fun z => absurd c z⟩
        | succ j ihj =>
          intro a ha ef et rm pc L
          have ihj := ihj (a + 1) (by omega)
          have cols : ∀ i b : Nat, b + i = 5 → ∀ ef et rm pc, LN D fa bk nd (5 + 35 * d + (5 * a + b)) ef et rm pc → X84 (nI d) (nI a) (nI (pv d a)) (nI b) (nI (2 * (5 + 35 * d + (5 * a + b)))) ef et rm pc := by
            intro i
            induction i with
            | zero =>
              intro b hb ef et rm pc L
              have e : b = 5 := by omega
              subst e
              apply h84
              have c : (5 : Int32) ≤ nI 5 := by decide
              refine ⟨fun _ y ey => ?_, fun z => absurd c z⟩
              rw [nI_1] at ey
              subst ey
              have e3 : 5 + 35 * d + (5 * a + 5) = 5 + 35 * d + 5 * (a + 1) := by omega
              rw [e3] at L ⊢
              exact ihj ef et rm pc L
            | succ i ihi =>
              intro b hb ef et rm pc L
              have ihi := ihi (b + 1) (by omega)
              obtain ⟨s1, s2, s3, s4⟩ := k_mov D fa bk nd hdD (show a < 5 by omega) (show b < 5 by omega)
              apply h84
              have c : ¬ (5 : Int32) ≤ nI b := fun z => by have := (nI_leI (a := 5) (by omega) (by omega)).mp z; omega
              refine ⟨fun z => absurd z c, fun _ => ?_⟩
              have ix : (5 : Int32) * nI a + nI b = nI (5 * a + b) := by rw [e5, pk_mul, nI_add]
              rw [ix, ar_is, nIc (i := 5 * a + b) (by omega)]
              refine ⟨nIv (by omega) (by omega), ?_⟩
              refine nedge_i (by omega) L (by rw [s1]) (by rw [s2]) (by rw [s4]; exact m6) (by rw [s3, i64]; exact hfa _ (by omega)) (low _ (by omega)) (fun ef et rm pc L => ?_)
              intro y ey
              rw [nI_1] at ey
              subst ey
              have e3 : 5 + 35 * d + (5 * a + b) + 1 = 5 + 35 * d + (5 * a + (b + 1)) := by omega
              rw [e3] at L ⊢
              exact ihi ef et rm pc L
          apply h50
          have c : ¬ (5 : Int32) ≤ nI a := fun z => by have := (nI_leI (a := 5) (by omega) (by omega)).mp z; omega
          refine ⟨fun z => absurd z c, fun _ v ev => ?_⟩
          rw [from_is d a (by omega) (by omega)] at ev
          subst ev
          exact cols 5 0 (by omega) ef et rm pc L
      apply h40
      have c : ¬ nI D ≤ nI d := fun z => by have := (nI_leI (by omega) (by omega)).mp z; omega
      exact ⟨fun z => absurd z c, fun _ => rows 5 0 (by omega) ef et rm pc L⟩
  have srcs : ∀ k a : Nat, a + k = 5 → ∀ ef et rm pc, LN D fa bk nd a ef et rm pc → X7 (nI a) (nI (2 * a)) ef et rm pc := by
    intro k
    induction k with
    | zero =>
      intro a ha ef et rm pc L
      have e : a = 5 := by omega
      subst e
      apply h7
      have c : (5 : Int32) ≤ nI 5 := by decide
      exact ⟨fun _ => days D 0 (by omega) ef et rm pc L, fun z => absurd c z⟩
    | succ k ih =>
      intro a ha ef et rm pc L
      have ih := ih (a + 1) (by omega)
      obtain ⟨s1, s2, s3, s4⟩ := k_src D fa bk nd (show a < 5 by omega)
      apply h7
      have c : ¬ (5 : Int32) ≤ nI a := fun z => by have := (nI_leI (a := 5) (by omega) (by omega)).mp z; omega
      refine ⟨fun z => absurd z c, fun _ => ?_⟩
      have ix : (6 : Int32) * nI a + nI K = nI (6 * a + K) := by rw [e6, pk_mul, nI_add]
      rw [ix, nIc (i := 6 * a + K) (by omega)]
      refine ⟨nIv (by omega) (by omega), ?_⟩
      refine nedge_i (by omega) L (by rw [s1]; rfl) (by rw [s2, e2, nI_add]; unfold pv; congr 1) (by rw [s4]; exact hbk _ (by omega)) (by rw [s3]; exact z64) (low _ (by omega)) (fun ef et rm pc L => ?_)
      intro y ey
      rw [nI_1] at ey
      subst ey
      exact ih ef et rm pc L
  exact srcs 5 0 (by omega) ef et rm pc (fun x hx => absurd hx (by omega))
end lnet
