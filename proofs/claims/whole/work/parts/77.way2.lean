/-- the least FARNESS in g goes -/
def wk (fa : Nat → Int) : Nat → Nat → Nat → Int
  | 0, _, _ => NW
  | 1, a, b => fa (5 * a + b)
  | g + 2, a, b => mnZ NW (fun mid => wk fa (g + 1) a mid + fa (5 * mid + b)) 5
def wy (fa : Nat → Int) (g a b : Nat) : Int := wk fa (min g 4) a b
abbrev FarOk (fa : Nat → Int) : Prop := (∀ i, i < 25 → 0 ≤ fa i ∧ fa i ≤ 99) ∧ ∀ a, a < 5 → fa (5 * a + a) = 0
section ways
variable {fa : Nat → Int}
theorem wk_rng (h : FarOk fa) : ∀ g a b, a < 5 → b < 5 → 0 ≤ wk fa g a b ∧ (1 ≤ g → g ≤ 4 → wk fa g a b ≤ 99 * g)
  | 0, a, b, _, _ => ⟨by rw [wk]; decide, fun z => absurd z (by omega)⟩
  | 1, a, b, ha, hb => by
    rw [wk]
    have := h.1 (5 * a + b) (by omega)
    exact ⟨this.1, fun _ _ => by omega⟩
  | g + 2, a, b, ha, hb => by
    rw [wk]
    refine ⟨?_, fun _ h4 => ?_⟩
    · rcases mnZ_at NW (fun mid => wk fa (g + 1) a mid + fa (5 * mid + b)) 5 with e | ⟨j, hj, e⟩
      · rw [e]; decide
      · rw [e]
        have h1 := (wk_rng h (g + 1) a j ha hj).1
        have h2 := h.1 (5 * j + b) (by omega)
        show 0 ≤ wk fa (g + 1) a j + fa (5 * j + b)
        omega
    · refine Int.le_trans (mnZ_le NW (fun mid => wk fa (g + 1) a mid + fa (5 * mid + b)) 5 0 (by omega)) ?_
      have h1 := (wk_rng h (g + 1) a 0 ha (by omega)).2 (by omega) (by omega)
      have h2 := h.1 (5 * 0 + b) (by omega)
      show wk fa (g + 1) a 0 + fa (5 * 0 + b) ≤ _
      omega
theorem wk_le {g a b mid : Nat} (hg : 1 ≤ g) (hm : mid < 5) : wk fa (g + 1) a b ≤ wk fa g a mid + fa (5 * mid + b) := by
  obtain ⟨g, rfl⟩ : ∃ k, g = k + 1 := ⟨g - 1, by omega⟩
  rw [wk]
  exact mnZ_le NW (fun mid => wk fa (g + 1) a mid + fa (5 * mid + b)) 5 mid hm
theorem wk_at (h : FarOk fa) {g a b : Nat} (hg : 1 ≤ g) (h4 : g + 1 ≤ 4) (ha : a < 5) (hb : b < 5) : ∃ mid, mid < 5 ∧ wk fa (g + 1) a b = wk fa g a mid + fa (5 * mid + b) := by
  have hr := (wk_rng h (g + 1) a b ha hb).2 (by omega) h4
  obtain ⟨g, rfl⟩ : ∃ k, g = k + 1 := ⟨g - 1, by omega⟩
  rcases mnZ_at NW (fun mid => wk fa (g + 1) a mid + fa (5 * mid + b)) 5 with e | ⟨j, hj, e⟩
  · rw [wk, e] at hr
    have hE : NW = 1000000 := rfl
    omega
  · exact ⟨j, hj, by rw [wk]; exact e⟩
/-- five goes are no better than four -/
theorem wk_4 (h : FarOk fa) {a b c : Nat} (ha : a < 5) (hb : b < 5) (hc : c < 5) : wk fa 4 a c ≤ wk fa 4 a b + fa (5 * b + c) := by
  obtain ⟨z, hz, e4⟩ := wk_at h (g := 3) (a := a) (b := b) (by omega) (by omega) ha hb
  obtain ⟨y, hy, e3⟩ := wk_at h (g := 2) (a := a) (b := z) (by omega) (by omega) ha hz
  obtain ⟨x, hx, e2⟩ := wk_at h (g := 1) (a := a) (b := y) (by omega) (by omega) ha hy
  have e1 : wk fa 1 a x = fa (5 * a + x) := rfl
  have s4 : wk fa 4 a b = fa (5 * a + x) + fa (5 * x + y) + fa (5 * y + z) + fa (5 * z + b) := by
    have t4 : wk fa 4 a b = wk fa 3 a z + fa (5 * z + b) := e4
    have t3 : wk fa 3 a z = wk fa 2 a y + fa (5 * y + z) := e3
    have t2 : wk fa 2 a y = wk fa 1 a x + fa (5 * x + y) := e2
    omega
  clear e1 e2 e3 e4
  have U : ∀ x y z, x < 5 → y < 5 → z < 5 → wk fa 4 a c ≤ fa (5 * a + x) + fa (5 * x + y) + fa (5 * y + z) + fa (5 * z + c) := fun x y z hx hy hz => by
    have h1 := wk_le (fa := fa) (g := 3) (a := a) (b := c) (mid := z) (by omega) hz
    have h2 := wk_le (fa := fa) (g := 2) (a := a) (b := z) (mid := y) (by omega) hy
    have h3 := wk_le (fa := fa) (g := 1) (a := a) (b := y) (mid := x) (by omega) hx
    have h4 : wk fa 1 a x = fa (5 * a + x) := rfl
    have t1 : wk fa 4 a c ≤ wk fa 3 a z + fa (5 * z + c) := h1
    have t2 : wk fa 3 a z ≤ wk fa 2 a y + fa (5 * y + z) := h2
    have t3 : wk fa 2 a y ≤ wk fa 1 a x + fa (5 * x + y) := h3
    omega
  have nn : ∀ p r, p < 5 → r < 5 → 0 ≤ fa (5 * p + r) := fun p r hp hr => (h.1 _ (by omega)).1
  have pg : a = x ∨ x = y ∨ y = z ∨ z = b ∨ b = c ∨ a = y ∨ x = z ∨ y = b ∨ z = c ∨ a = z ∨ x = b ∨ y = c ∨ a = b ∨ x = c ∨ a = c := by
    apply Decidable.byContradiction
    intro hn
    simp only [not_or] at hn
    obtain ⟨n1, n2, n3, n4, n5, n6, n7, n8, n9, n10, n11, n12, n13, n14, n15⟩ := hn
    have := pigeon 5 5 (fun k => if k = 0 then a else if k = 1 then x else if k = 2 then y else if k = 3 then z else if k = 4 then b else c) (fun k hk => by
      show (if k = 0 then a else if k = 1 then x else if k = 2 then y else if k = 3 then z else if k = 4 then b else c) < 5
      split
      · exact ha
      · split
        · exact hx
        · split
          · exact hy
          · split
            · exact hz
            · split
              · exact hb
              · exact hc) (fun i j hij hj => by
      rcases (show j = 1 ∨ j = 2 ∨ j = 3 ∨ j = 4 ∨ j = 5 by omega) with rfl | rfl | rfl | rfl | rfl
      · have : i = 0 := by omega
        subst this; simpa using n1
      · rcases (show i = 0 ∨ i = 1 by omega) with rfl | rfl
        · simpa using n6
        · simpa using n2
      · rcases (show i = 0 ∨ i = 1 ∨ i = 2 by omega) with rfl | rfl | rfl
        · simpa using n10
        · simpa using n7
        · simpa using n3
      · rcases (show i = 0 ∨ i = 1 ∨ i = 2 ∨ i = 3 by omega) with rfl | rfl | rfl | rfl
        · simpa using n13
        · simpa using n11
        · simpa using n8
        · simpa using n4
      · rcases (show i = 0 ∨ i = 1 ∨ i = 2 ∨ i = 3 ∨ i = 4 by omega) with rfl | rfl | rfl | rfl | rfl
        · simpa using n15
        · simpa using n14
        · simpa using n12
        · simpa using n9
        · simpa using n5)
    omega
  have a1 := nn a x ha hx
  have a2 := nn x y hx hy
  have a3 := nn y z hy hz
  have a4 := nn z b hz hb
  have a5 := nn b c hb hc
  have zc := h.2 c hc
  rcases pg with e | e | e | e | e | e | e | e | e | e | e | e | e | e | e
  · subst e; have := U y z b hy hz hb; omega
  · subst e; have := U x z b hx hz hb; omega
  · subst e; have := U x y b hx hy hb; omega
  · subst e; have := U x y z hx hy hz; omega
  · subst e; have := U x y z hx hy hz; omega
  · subst e; have := U z b c hz hb hc; omega
  · subst e; have := U x b c hx hb hc; omega
  · subst e; have := U x y c hx hy hc; omega
  · subst e; have := U x y z hx hy hc; omega
  · subst e; have := U b c c hb hc hc; omega
  · subst e; have := U x c c hx hc hc; omega
  · subst e; have := U x y y hx hc hc; omega
  · subst e; have := U c c c hc hc hc; omega
  · subst e; have := U x x x hc hc hc; omega
  · subst e; have := U a a a hc hc hc; omega
theorem wy_step (h : FarOk fa) {g a b c : Nat} (hg : 1 ≤ g) (ha : a < 5) (hb : b < 5) (hc : c < 5) : wy fa (g + 1) a c ≤ wy fa g a b + fa (5 * b + c) := by
  unfold wy
  by_cases q : g + 1 ≤ 4
  · rw [Nat.min_eq_left q, Nat.min_eq_left (by omega)]
    exact wk_le hg hb
  · rw [Nat.min_eq_right (by omega), Nat.min_eq_right (by omega)]
    exact wk_4 h ha hb hc
theorem wy_rng (h : FarOk fa) {g a b : Nat} (hg : 1 ≤ g) (ha : a < 5) (hb : b < 5) : 0 ≤ wy fa g a b ∧ wy fa g a b ≤ 396 := by
  unfold wy
  have := wk_rng h (min g 4) a b ha hb
  have h2 := this.2 (by omega) (by omega)
  exact ⟨this.1, by omega⟩
/-- prices over the days, along the ways -/
theorem day_way (h : FarOk fa) {D : Nat} {p : Nat → Int} (P : DayP D fa p) {d0 a : Nat} (ha : a < 5) : ∀ g, d0 + g < D → ∀ b, b < 5 → p (ar (d0 + g) b) ≤ p (pv d0 a) + wy fa (g + 1) a b
  | 0, hd, b, hb => P.1 d0 a b hd ha hb
  | g + 1, hd, b, hb => by
    have ih := day_way h P (d0 := d0) ha g (by omega)
    have st : ∀ mid, mid < 5 → p (ar (d0 + (g + 1)) b) ≤ p (ar (d0 + g) mid) + fa (5 * mid + b) := fun mid hm => by
      have h1 := P.1 (d0 + (g + 1)) mid b hd hm hb
      have h2 := P.2.1 (d0 + g) mid (by omega) hm
      have e : d0 + g + 1 = d0 + (g + 1) := by omega
      rw [e] at h2
      omega
    by_cases q : g + 2 ≤ 4
    · obtain ⟨mid, hm, e⟩ := wk_at h (g := g + 1) (a := a) (b := b) (by omega) q ha hb
      have h1 := st mid hm
      have h2 := ih mid hm
      unfold wy at h2 ⊢
      rw [Nat.min_eq_left (by omega)] at h2
      rw [Nat.min_eq_left (by omega), e]
      omega
    · have h1 := st b hb
      have h2 := ih b hb
      have z := h.2 b hb
      unfold wy at h2 ⊢
      rw [Nat.min_eq_right (by omega)] at h2 ⊢
      omega
theorem day_low (h : FarOk fa) {D : Nat} {p : Nat → Int} (P : DayP D fa p) {a : Nat} (ha : a < 5) : ∀ k d, d + k = D → p 1 ≤ p (pv d a)
  | 0, d, e => by
    have : d = D := by omega
    subst this; exact P.2.2 a ha
  | k + 1, d, e => by
    have ih := day_low h P ha k (d + 1) (by omega)
    have h1 := P.2.1 d a (by omega) ha
    have h2 := P.1 d a a (by omega) ha ha
    have z := h.2 a ha
    omega
end ways
theorem weak2 {D : Nat} {fa bk nd rm pi p : Nat → Int} {val sum : Int} (F : FI (dNet D fa) (cpP D bk nd) rm val sum pi) (P : DayP D fa p) (p0 : p 0 = 0) (p1 : p 1 = 0) (hsrc : ∀ h, h < 5 → rm (2 * h + 1) = bk h) (hneed : ∀ d h, d < D → h < 5 → rm (2 * (5 + 35 * d + (25 + 2 * h)) + 1) = nd (5 * d + h)) :
    - sI (fun h => bk h * p (pv 0 h)) 5 + sI (fun d => sI (fun h => nd (5 * d + h) * (p (ar d h) - p (pv (d + 1) h) - 10000000)) 5) D ≤ sum := by
  obtain ⟨q1, q2, q3⟩ := P
  have c := d_cons F p
  rw [p0, p1, Int.sub_self, Int.mul_zero] at c
  rw [← d_cost F, ← lowD_sum]
  have le : sI (fun i => rm (2 * i + 1) * (p (toP D i) - p (frP D i)) + lowD D bk nd p i) (10 + 35 * D) ≤ sI (fun i => rm (2 * i + 1) * prP D fa i) (10 + 35 * D) := by
    refine sI_le _ (fun i hi => ?_)
    show rm (2 * i + 1) * (p (toP D i) - p (frP D i)) + lowD D bk nd p i ≤ rm (2 * i + 1) * prP D fa i
    obtain ⟨x0, x1, -⟩ := d_x F hi
    rcases kinds D hi with h | ⟨d, a, b, hd, ha, hb2, rfl⟩ | ⟨d, h, hd, hh, rfl⟩ | ⟨d, h, hd, hh, rfl⟩ | ⟨h, hh, rfl⟩
    · obtain ⟨e1, e2, e3, e4⟩ := k_src D fa bk nd h
      rw [e1, e2, e3, l_src h, p0, hsrc i h, Int.sub_zero, Int.mul_zero]
      omega
    · obtain ⟨e1, e2, e3, e4⟩ := k_mov D fa bk nd hd ha hb2
      rw [e1, e2, e3, l_mov hd (by omega), Int.add_zero]
      exact Int.mul_le_mul_of_nonneg_left (by have := q1 d a b hd ha hb2; omega) x0
    · obtain ⟨e1, e2, e3, e4⟩ := k_need D fa bk nd hd hh
      rw [e1, e2, e3, l_need hd hh, hneed d h hd hh, ← Int.mul_add]
      have : p (pv (d + 1) h) - p (ar d h) + (p (ar d h) - p (pv (d + 1) h) - 10000000) = -10000000 := by omega
      rw [this]
      exact Int.le_refl _
    · obtain ⟨e1, e2, e3, e4⟩ := k_idle D fa bk nd hd hh
      rw [e1, e2, e3, l_idle hd hh, Int.add_zero]
      exact Int.mul_le_mul_of_nonneg_left (by have := q2 d h hd hh; omega) x0
    · obtain ⟨e1, e2, e3, e4⟩ := k_sink D fa bk nd hh
      rw [e1, e2, e3, l_sink, Int.add_zero]
      exact Int.mul_le_mul_of_nonneg_left (by have := q3 h hh; omega) x0
  rw [sI_add, c, Int.zero_add] at le
  exact le
