/-- NO_WAY -/
abbrev NW : Int := 1000000
/-- a transport: M sources, n events; what is far, what is sent, what is left -/
abbrev Tr := Nat × Nat × (Nat → Nat → Int) × (Nat → Nat → Int) × (Nat → Int)
abbrev Tr.M (T : Tr) : Nat := T.1
abbrev Tr.n (T : Tr) : Nat := T.2.1
abbrev Tr.pc (T : Tr) : Nat → Nat → Int := T.2.2.1
abbrev Tr.sent (T : Tr) : Nat → Nat → Int := T.2.2.2.1
abbrev Tr.spare (T : Tr) : Nat → Int := T.2.2.2.2
/-- after k passes: the ways to sources, the ways to events -/
def bfv (T : Tr) : Nat → (Nat → Int) × (Nat → Int)
  | 0 => (fun s => if 0 < T.spare s then 0 else NW, fun _ => NW)
  | k + 1 =>
    let E : Nat → Int := fun j => mnZ ((bfv T k).2 j) (fun s => if (bfv T k).1 s < NW ∧ T.pc s j < NW then (bfv T k).1 s + T.pc s j else NW) T.M
    (fun s => mnZ ((bfv T k).1 s) (fun j => if E j < NW ∧ 0 < T.sent s j then E j - T.pc s j else NW) T.n, E)
def sw (T : Tr) (k s : Nat) : Int := (bfv T k).1 s
def ew (T : Tr) (k j : Nat) : Int := (bfv T k).2 j
theorem sw_0 (T : Tr) (s : Nat) : sw T 0 s = if 0 < T.spare s then 0 else NW := rfl
theorem ew_0 (T : Tr) (j : Nat) : ew T 0 j = NW := rfl
theorem ew_s (T : Tr) (k j : Nat) : ew T (k + 1) j = mnZ (ew T k j) (fun s => if sw T k s < NW ∧ T.pc s j < NW then sw T k s + T.pc s j else NW) T.M := rfl
theorem sw_s (T : Tr) (k s : Nat) : sw T (k + 1) s = mnZ (sw T k s) (fun j => if ew T (k + 1) j < NW ∧ 0 < T.sent s j then ew T (k + 1) j - T.pc s j else NW) T.n := rfl
/-- prices: of a piece at a source, of a piece at an event -/
abbrev Du (T : Tr) (u w : Nat → Int) : Prop :=
  (∀ s j, s < T.M → j < T.n → 0 ≤ T.pc s j ∧ (T.pc s j < NW → T.pc s j ≤ 400)) ∧
  (∀ s j, s < T.M → j < T.n → T.pc s j < NW → w j ≤ u s + T.pc s j) ∧
  (∀ s j, s < T.M → j < T.n → 0 < T.sent s j → T.pc s j < NW ∧ w j = u s + T.pc s j) ∧
  (∀ s, s < T.M → 0 ≤ u s) ∧
  (∀ s, s < T.M → 0 < T.spare s → u s = 0)
theorem Du.p0 {T : Tr} {u w : Nat → Int} (h : Du T u w) : ∀ s j, s < T.M → j < T.n → 0 ≤ T.pc s j ∧ (T.pc s j < NW → T.pc s j ≤ 400) := h.1
theorem Du.le {T : Tr} {u w : Nat → Int} (h : Du T u w) : ∀ s j, s < T.M → j < T.n → T.pc s j < NW → w j ≤ u s + T.pc s j := h.2.1
theorem Du.ti {T : Tr} {u w : Nat → Int} (h : Du T u w) : ∀ s j, s < T.M → j < T.n → 0 < T.sent s j → T.pc s j < NW ∧ w j = u s + T.pc s j := h.2.2.1
theorem Du.nn {T : Tr} {u w : Nat → Int} (h : Du T u w) : ∀ s, s < T.M → 0 ≤ u s := h.2.2.2.1
theorem Du.sp {T : Tr} {u w : Nat → Int} (h : Du T u w) : ∀ s, s < T.M → 0 < T.spare s → u s = 0 := h.2.2.2.2
section way
variable {T : Tr} {u w : Nat → Int}
theorem sw_mono (k s : Nat) : sw T (k + 1) s ≤ sw T k s := by rw [sw_s]; exact mnZ_b _ _ _
theorem ew_mono (k j : Nat) : ew T (k + 1) j ≤ ew T k j := by rw [ew_s]; exact mnZ_b _ _ _
theorem sw_anti (s : Nat) : ∀ (i k : Nat), sw T (k + i) s ≤ sw T k s
  | 0, k => Int.le_refl _
  | i + 1, k => by have := sw_anti s i k; have := sw_mono (T := T) (k + i) s; have e : k + (i + 1) = k + i + 1 := by omega
                   rw [e]; omega
theorem ew_anti (j : Nat) : ∀ (i k : Nat), ew T (k + i) j ≤ ew T k j
  | 0, k => Int.le_refl _
  | i + 1, k => by have := ew_anti j i k; have := ew_mono (T := T) (k + i) j; have e : k + (i + 1) = k + i + 1 := by omega
                   rw [e]; omega
theorem sw_ge {k k2 : Nat} (h : k ≤ k2) (s : Nat) : sw T k2 s ≤ sw T k s := by
  have := sw_anti (T := T) s (k2 - k) k
  have e : k + (k2 - k) = k2 := by omega
  rw [e] at this; exact this
theorem ew_ge {k k2 : Nat} (h : k ≤ k2) (j : Nat) : ew T k2 j ≤ ew T k j := by
  have := ew_anti (T := T) j (k2 - k) k
  have e : k + (k2 - k) = k2 := by omega
  rw [e] at this; exact this
theorem sw_top (k s : Nat) : sw T k s ≤ NW := by
  refine Int.le_trans (sw_ge (Nat.zero_le k) s) ?_
  rw [sw_0]; split <;> decide
theorem ew_top (k j : Nat) : ew T k j ≤ NW := Int.le_trans (ew_ge (Nat.zero_le k) j) (Int.le_refl _)
/-- where a way to an event has got shorter -/
theorem ew_dec {k j : Nat} (h : ew T (k + 1) j < ew T k j) : ∃ s, s < T.M ∧ sw T k s < NW ∧ T.pc s j < NW ∧ ew T (k + 1) j = sw T k s + T.pc s j := by
  have top := ew_top (T := T) k j
  rcases mnZ_at (ew T k j) (fun s => if sw T k s < NW ∧ T.pc s j < NW then sw T k s + T.pc s j else NW) T.M with e | ⟨s, hs, e⟩
  · rw [ew_s] at h; omega
  · rw [← ew_s] at e
    by_cases c : sw T k s < NW ∧ T.pc s j < NW
    · rw [if_pos c] at e; exact ⟨s, hs, c.1, c.2, e⟩
    · rw [if_neg c] at e; omega
theorem sw_dec {k s : Nat} (h : sw T (k + 1) s < sw T k s) : ∃ j, j < T.n ∧ ew T (k + 1) j < NW ∧ 0 < T.sent s j ∧ sw T (k + 1) s = ew T (k + 1) j - T.pc s j := by
  have top := sw_top (T := T) k s
  rcases mnZ_at (sw T k s) (fun j => if ew T (k + 1) j < NW ∧ 0 < T.sent s j then ew T (k + 1) j - T.pc s j else NW) T.n with e | ⟨j, hj, e⟩
  · rw [sw_s] at h; omega
  · rw [← sw_s] at e
    by_cases c : ew T (k + 1) j < NW ∧ 0 < T.sent s j
    · rw [if_pos c] at e; exact ⟨j, hj, c.1, c.2, e⟩
    · rw [if_neg c] at e; omega
theorem ew_rel {k s j : Nat} (hs : s < T.M) (h1 : sw T k s < NW) (h2 : T.pc s j < NW) : ew T (k + 1) j ≤ sw T k s + T.pc s j := by
  have := mnZ_le (ew T k j) (fun s => if sw T k s < NW ∧ T.pc s j < NW then sw T k s + T.pc s j else NW) T.M s hs
  rw [← ew_s, if_pos ⟨h1, h2⟩] at this
  exact this
theorem sw_rel {k s j : Nat} (hj : j < T.n) (h1 : ew T (k + 1) j < NW) (h2 : 0 < T.sent s j) : sw T (k + 1) s ≤ ew T (k + 1) j - T.pc s j := by
  have := mnZ_le (sw T k s) (fun j => if ew T (k + 1) j < NW ∧ 0 < T.sent s j then ew T (k + 1) j - T.pc s j else NW) T.n j hj
  rw [← sw_s, if_pos ⟨h1, h2⟩] at this
  exact this
/-- ways are not below the prices, and not long -/
theorem way_lo (D : Du T u w) : ∀ k, (∀ s, s < T.M → sw T k s < NW → u s ≤ sw T k s) ∧ (∀ j, j < T.n → ew T k j < NW → w j ≤ ew T k j)
  | 0 => by
    refine ⟨fun s hs h => ?_, fun j _ h => ?_⟩
    · rw [sw_0] at h ⊢
      by_cases c : 0 < T.spare s
      · rw [if_pos c, D.sp s hs c]; omega
      · rw [if_neg c] at h; omega
    · rw [ew_0] at h; omega
  | k + 1 => by
    obtain ⟨ih1, ih2⟩ := way_lo D k
    have he : ∀ j, j < T.n → ew T (k + 1) j < NW → w j ≤ ew T (k + 1) j := fun j hj h => by
      by_cases c : ew T (k + 1) j < ew T k j
      · obtain ⟨s, hs, h1, h2, h3⟩ := ew_dec c
        have := ih1 s hs h1
        have := D.le s j hs hj h2
        omega
      · have := ew_mono (T := T) k j
        have := ih2 j hj (by omega)
        omega
    refine ⟨fun s hs h => ?_, he⟩
    by_cases c : sw T (k + 1) s < sw T k s
    · obtain ⟨j, hj, h1, h2, h3⟩ := sw_dec c
      have := he j hj h1
      have := (D.ti s j hs hj h2).2
      omega
    · have := sw_mono (T := T) k s
      have := ih1 s hs (by omega)
      omega
theorem way_hi (D : Du T u w) : ∀ k, (∀ s, s < T.M → sw T k s < NW → sw T k s ≤ 400 * k) ∧ (∀ j, j < T.n → ew T k j < NW → ew T k j ≤ 400 * k)
  | 0 => by
    refine ⟨fun s hs h => ?_, fun j _ h => ?_⟩
    · rw [sw_0] at h ⊢
      by_cases c : 0 < T.spare s
      · rw [if_pos c]; decide
      · rw [if_neg c] at h; omega
    · rw [ew_0] at h; omega
  | k + 1 => by
    obtain ⟨ih1, ih2⟩ := way_hi D k
    have he : ∀ j, j < T.n → ew T (k + 1) j < NW → ew T (k + 1) j ≤ 400 * (k + 1 : Nat) := fun j hj h => by
      by_cases c : ew T (k + 1) j < ew T k j
      · obtain ⟨s, hs, h1, h2, h3⟩ := ew_dec c
        have := ih1 s hs h1
        have := (D.p0 s j hs hj).2 h2
        omega
      · have := ew_mono (T := T) k j
        have := ih2 j hj (by omega)
        omega
    refine ⟨fun s hs h => ?_, he⟩
    by_cases c : sw T (k + 1) s < sw T k s
    · obtain ⟨j, hj, h1, h2, h3⟩ := sw_dec c
      have := he j hj h1
      have := (D.p0 s j hs hj).1
      omega
    · have := sw_mono (T := T) k s
      have := ih1 s hs (by omega)
      omega
/-- pass k has made the way to source s shorter -/
def decS (T : Tr) (k s : Nat) : Prop := sw T k s < NW ∧ (k ≠ 0 → sw T k s < sw T (k - 1) s)
theorem dec_prev (D : Du T u w) {k s : Nat} (hs : s < T.M) (h : decS T (k + 1) s) : ∃ p, p < T.M ∧ decS T k p ∧ sw T k p - u p ≤ sw T (k + 1) s - u s := by
  obtain ⟨h0, h1⟩ := h
  have h1 := h1 (by omega)
  rw [Nat.add_sub_cancel] at h1
  obtain ⟨j, hj, h2, h3, h4⟩ := sw_dec h1
  obtain ⟨t1, t2⟩ := D.ti s j hs hj h3
  have de : ew T (k + 1) j < ew T k j := by
    have mo := ew_mono (T := T) k j
    by_cases c : ew T (k + 1) j < ew T k j
    · exact c
    · exfalso
      have e : ew T k j = ew T (k + 1) j := by omega
      cases k with
      | zero => rw [ew_0] at e; omega
      | succ k =>
        have := sw_rel (k := k) hj (by omega) h3
        omega
  obtain ⟨p, hp, g1, g2, g3⟩ := ew_dec de
  refine ⟨p, hp, ⟨g1, fun k0 => ?_⟩, ?_⟩
  · obtain ⟨k, rfl⟩ : ∃ i, k = i + 1 := ⟨k - 1, by omega⟩
    rw [Nat.add_sub_cancel]
    have mo := sw_mono (T := T) k p
    by_cases c : sw T (k + 1) p < sw T k p
    · exact c
    · exfalso
      have := ew_rel (k := k) (s := p) (j := j) hp (by omega) g2
      omega
  · have := D.le p j hp hj g2
    omega
theorem dec_chain (D : Du T u w) : ∀ k s, s < T.M → decS T k s → ∃ f : Nat → Nat, f k = s ∧ (∀ a, a ≤ k → f a < T.M ∧ decS T a (f a)) ∧ ∀ a b, a ≤ b → b ≤ k → sw T a (f a) - u (f a) ≤ sw T b (f b) - u (f b)
  | 0, s, hs, h => ⟨fun _ => s, rfl, fun a ha => by
      have : a = 0 := by omega
      subst this; exact ⟨hs, h⟩, fun a b ha hb => by
      have e1 : a = 0 := by omega
      have e2 : b = 0 := by omega
      subst e1; subst e2; exact Int.le_refl _⟩
  | k + 1, s, hs, h => by
    obtain ⟨p, hp, hd, hr⟩ := dec_prev D hs h
    obtain ⟨f, f1, f2, f3⟩ := dec_chain D k p hp hd
    refine ⟨fun a => if a = k + 1 then s else f a, by simp, fun a ha => ?_, fun a b ha hb => ?_⟩
    · by_cases c : a = k + 1
      · subst c; simp; exact ⟨hs, h⟩
      · simp [c]; exact f2 a (by omega)
    · by_cases cb : b = k + 1
      · by_cases ca : a = k + 1
        · subst ca; subst cb; exact Int.le_refl _
        · subst cb
          simp [ca]
          have := f3 a k (by omega) (Nat.le_refl _)
          rw [f1] at this
          omega
      · have ca : a ≠ k + 1 := by omega
        simp [ca, cb]
        exact f3 a b ha (by omega)
/-- k + 1 numbers below M, all different: k < M -/
theorem pigeon : ∀ (M k : Nat) (f : Nat → Nat), (∀ a, a ≤ k → f a < M) → (∀ a b, a < b → b ≤ k → f a ≠ f b) → k < M
  | 0, k, f, h, _ => absurd (h 0 (by omega)) (by omega)
  | M + 1, 0, f, _, _ => by omega
  | M + 1, k + 1, f, h, hd => by
    -- the value at k + 1 is taken out: M, wherever it stands, is put in its place
    have h1 := h (k + 1) (by omega)
    have := pigeon M k (fun a => if f a = M then f (k + 1) else f a) (fun a ha => by
      have := h a (by omega)
      have ne := hd a (k + 1) (by omega) (by omega)
      show (if f a = M then f (k + 1) else f a) < M
      split <;> omega) (fun a b hab hb => by
      have n1 := hd a b hab (by omega)
      have n2 := hd a (k + 1) (by omega) (by omega)
      have n3 := hd b (k + 1) (by omega) (by omega)
      show (if f a = M then f (k + 1) else f a) ≠ (if f b = M then f (k + 1) else f b)
      split <;> split <;> omega)
    omega
theorem dec_lt (D : Du T u w) {k s : Nat} (hs : s < T.M) (h : decS T k s) : k < T.M := by
  obtain ⟨f, -, f2, f3⟩ := dec_chain D k s hs h
  refine pigeon T.M k f (fun a ha => (f2 a ha).1) (fun a b hab hb e => ?_)
  have h1 := f3 a b (by omega) hb
  have h2 := (f2 b hb).2.2 (by omega)
  have h3 := sw_ge (T := T) (k := a) (k2 := b - 1) (by omega) (f b)
  rw [e] at h1
  omega
/-- no way gets shorter after pass K -/
def Stl (T : Tr) (K : Nat) : Prop := 1 ≤ K ∧ ∀ s, s < T.M → sw T K s = sw T (K - 1) s
theorem stl_M (D : Du T u w) (hM : 1 ≤ T.M) : Stl T T.M := by
  refine ⟨hM, fun s hs => ?_⟩
  have mo := sw_ge (T := T) (k := T.M - 1) (k2 := T.M) (by omega) s
  by_cases c : sw T T.M s < sw T (T.M - 1) s
  · have top := sw_top (T := T) (T.M - 1) s
    have := dec_lt D hs (k := T.M) ⟨by omega, fun _ => c⟩
    omega
  · omega
theorem stl_ew {K : Nat} (S : Stl T K) {s j : Nat} (hs : s < T.M) (h1 : sw T K s < NW) (h2 : T.pc s j < NW) : ew T K j ≤ sw T K s + T.pc s j := by
  have e := S.2 s hs
  have := ew_rel (k := K - 1) (s := s) (j := j) hs (by omega) h2
  have e2 : K - 1 + 1 = K := by have := S.1; omega
  rw [e2] at this
  omega
theorem stl_sw {K : Nat} (S : Stl T K) {s j : Nat} (hj : j < T.n) (h1 : ew T K j < NW) (h2 : 0 < T.sent s j) : sw T K s ≤ ew T K j - T.pc s j := by
  have e2 : K - 1 + 1 = K := by have := S.1; omega
  have := sw_rel (k := K - 1) (s := s) (j := j) hj (by rw [e2]; exact h1) h2
  rw [e2] at this
  exact this
/-- the next prices -/
def uN (T : Tr) (u : Nat → Int) (K s : Nat) : Int := if sw T K s < NW then sw T K s else u s + 3000000
def wN (T : Tr) (w : Nat → Int) (K j : Nat) : Int := if ew T K j < NW then ew T K j else w j + 3000000
theorem du_next (D : Du T u w) {K : Nat} (S : Stl T K) (hK : K ≤ 100) : Du T (uN T u K) (wN T w K) := by
  obtain ⟨lo1, lo2⟩ := way_lo D K
  obtain ⟨hi1, hi2⟩ := way_hi D K
  have reach : ∀ s j, s < T.M → j < T.n → sw T K s < NW → T.pc s j < NW → ew T K j < NW := fun s j hs hj h1 h2 => by
    have := stl_ew S hs h1 h2
    have := hi1 s hs h1
    have := (D.p0 s j hs hj).2 h2
    have hE : NW = 1000000 := rfl
    omega
  have hE : NW = 1000000 := rfl
  refine ⟨D.p0, fun s j hs hj h => ?_, fun s j hs hj h => ?_, fun s hs => ?_, fun s hs h => ?_⟩
  · unfold uN wN
    have d := D.le s j hs hj h
    by_cases c : sw T K s < NW
    · rw [if_pos c, if_pos (reach s j hs hj c h)]
      exact stl_ew S hs c h
    · rw [if_neg c]
      have := D.nn s hs
      have := (D.p0 s j hs hj).1
      by_cases c2 : ew T K j < NW
      · rw [if_pos c2]; omega
      · rw [if_neg c2]; omega
  · obtain ⟨t1, t2⟩ := D.ti s j hs hj h
    refine ⟨t1, ?_⟩
    unfold uN wN
    by_cases c2 : ew T K j < NW
    · have h2 := stl_sw S hj c2 h
      have p := (D.p0 s j hs hj).1
      have h3 := stl_ew S hs (show sw T K s < NW by omega) t1
      rw [if_pos c2, if_pos (by omega)]
      omega
    · have c : ¬ sw T K s < NW := fun z => c2 (reach s j hs hj z t1)
      rw [if_neg c2, if_neg c]
      omega
  · unfold uN
    have := D.nn s hs
    by_cases c : sw T K s < NW
    · have := lo1 s hs c
      rw [if_pos c]; omega
    · rw [if_neg c]; omega
  · have h0 := sw_ge (T := T) (k := 0) (k2 := K) (by omega) s
    rw [sw_0, if_pos h] at h0
    have := lo1 s hs (by omega)
    have := D.nn s hs
    unfold uN
    rw [if_pos (by omega)]
    omega
end way
