theorem sI_pt (F : Nat → Int) (r : Nat) : ∀ D, sI (fun d => if r = d then F d else 0) D = if r < D then F r else 0
  | 0 => by rw [if_neg (by omega)]; rfl
  | D + 1 => by
    rw [sI, sI_pt F r D]
    by_cases c : r = D
    · subst c; rw [if_neg (by omega), if_pos rfl, if_pos (by omega)]; omega
    · rw [if_neg c]
      by_cases c2 : r < D
      · rw [if_pos c2, if_pos (by omega)]; omega
      · rw [if_neg c2, if_neg (by omega)]; rfl
/-- what each house needs on each day, by events -/
theorem bridge {n D : Nat} {r g : Nat → Nat} {q nd : Nat → Int} (hr : ∀ j, j < n → r j < D) (hg : ∀ j, j < n → g j < 5) (hnd : ∀ d h, d < D → h < 5 → nd (5 * d + h) = sI (fun j => if r j = d ∧ g j = h then q j else 0) n) (G : Nat → Nat → Int) :
    sI (fun d => sI (fun h => nd (5 * d + h) * G d h) 5) D = sI (fun j => q j * G (r j) (g j)) n := by
  have e1 : sI (fun d => sI (fun h => nd (5 * d + h) * G d h) 5) D = sI (fun d => sI (fun j => if r j = d then q j * G d (g j) else 0) n) D := by
    refine sI_cong D (fun d hd => ?_)
    have e2 : sI (fun h => nd (5 * d + h) * G d h) 5 = sI (fun h => sI (fun j => if g j = h then (if r j = d then q j * G d h else 0) else 0) n) 5 := by
      refine sI_cong 5 (fun h hh => ?_)
      show nd (5 * d + h) * G d h = _
      rw [hnd d h hd hh, ← sI_mulr]
      refine sI_cong n (fun j _ => ?_)
      show (if r j = d ∧ g j = h then q j else 0) * G d h = if g j = h then (if r j = d then q j * G d h else 0) else 0
      by_cases c1 : g j = h
      · rw [if_pos c1]
        by_cases c2 : r j = d
        · rw [if_pos ⟨c2, c1⟩, if_pos c2]
        · rw [if_neg (fun z => c2 z.1), if_neg c2, Int.zero_mul]
      · rw [if_neg c1, if_neg (fun z => c1 z.2), Int.zero_mul]
    show sI (fun h => nd (5 * d + h) * G d h) 5 = _
    rw [e2, sI_swap]
    refine sI_cong n (fun j hj => ?_)
    show sI (fun h => if g j = h then (if r j = d then q j * G d h else 0) else 0) 5 = _
    rw [sI_pt (fun h => if r j = d then q j * G d h else 0), if_pos (hg j hj)]
  rw [e1, sI_swap]
  refine sI_cong n (fun j hj => ?_)
  show sI (fun d => if r j = d then q j * G d (g j) else 0) D = _
  rw [sI_pt (fun d => q j * G d (g j)), if_pos (hr j hj)]
section trans
variable {M n : Nat} {pc : Nat → Nat → Int} {sp0 need u w : Nat → Int} {total : Int} {spare unmet : Nat → Int} {sent : Nat → Nat → Int}
theorem tr_sum (F : FT M n pc sp0 need sent spare unmet total u w) (hu : ∀ j, j < n → unmet j = 0) (u2 w2 : Nat → Int) : sI (fun s => sI (fun j => sent s j * (w2 j - u2 s)) n) M = sI (fun j => need j * w2 j) n - sI (fun s => (sp0 s - spare s) * u2 s) M := by
  have e : sI (fun s => sI (fun j => sent s j * (w2 j - u2 s)) n) M = sI (fun s => sI (fun j => sent s j * w2 j) n - sI (fun j => sent s j) n * u2 s) M := by
    refine sI_cong M (fun s _ => ?_)
    rw [← sI_mulr, ← sI_sub]
    exact sI_cong n (fun j _ => Int.mul_sub _ _ _)
  rw [e, sI_sub, sI_swap]
  congr 1
  · refine sI_cong n (fun j hj => ?_)
    show sI (fun s => sent s j * w2 j) M = need j * w2 j
    rw [sI_mulr]
    have := F.col j hj
    rw [hu j hj] at this
    congr 1
    omega
  · refine sI_cong M (fun s hs => ?_)
    show sI (fun j => sent s j) n * u2 s = (sp0 s - spare s) * u2 s
    have := F.row s hs
    congr 1
    omega
/-- no prices say more than what was paid -/
theorem tr_weak (F : FT M n pc sp0 need sent spare unmet total u w) (hu : ∀ j, j < n → unmet j = 0) (u2 w2 : Nat → Int) (hl : ∀ s j, s < M → j < n → pc s j < NW → w2 j ≤ u2 s + pc s j) (hn : ∀ s, s < M → 0 ≤ u2 s) : sI (fun j => need j * w2 j) n - sI (fun s => sp0 s * u2 s) M ≤ total := by
  have h1 := tr_sum F hu u2 w2
  have h2 : sI (fun s => sI (fun j => sent s j * (w2 j - u2 s)) n) M ≤ total := by
    rw [← F.cost]
    unfold allC
    refine sI_le M (fun s hs => sI_le n (fun j hj => ?_))
    show sent s j * (w2 j - u2 s) ≤ sent s j * pc s j
    have h0 := F.nn s j hs hj
    by_cases c : 0 < sent s j
    · have := hl s j hs hj (F.du.ti s j hs hj c).1
      exact Int.mul_le_mul_of_nonneg_left (by omega) h0
    · have : sent s j = 0 := by omega
      rw [this, Int.zero_mul, Int.zero_mul]
      exact Int.le_refl _
  have h3 : sI (fun s => (sp0 s - spare s) * u2 s) M ≤ sI (fun s => sp0 s * u2 s) M := sI_le M (fun s hs => Int.mul_le_mul_of_nonneg_right (by have := F.sn s hs; omega) (hn s hs))
  omega
theorem tr_val (F : FT M n pc sp0 need sent spare unmet total u w) (hu : ∀ j, j < n → unmet j = 0) : sI (fun j => need j * w j) n - sI (fun s => sp0 s * u s) M = total := by
  have h1 := tr_sum F hu u w
  have h2 : sI (fun s => sI (fun j => sent s j * (w j - u s)) n) M = total := by
    rw [← F.cost]
    unfold allC
    refine sI_cong M (fun s hs => sI_cong n (fun j hj => ?_))
    show sent s j * (w j - u s) = sent s j * pc s j
    have h0 := F.nn s j hs hj
    by_cases c : 0 < sent s j
    · have := (F.du.ti s j hs hj c).2
      have this : w j = u s + pc s j := this
      congr 1
      omega
    · have : sent s j = 0 := by omega
      rw [this, Int.zero_mul, Int.zero_mul]
  have h3 : sI (fun s => (sp0 s - spare s) * u s) M = sI (fun s => sp0 s * u s) M := sI_cong M (fun s hs => by
    show (sp0 s - spare s) * u s = sp0 s * u s
    by_cases c : 0 < spare s
    · rw [F.du.sp s hs c, Int.mul_zero, Int.mul_zero]
    · have : spare s = 0 := by have := F.sn s hs; omega
      rw [this, Int.sub_zero])
  omega
end trans
/-- the price of a piece: at each house on each day, ahead of each day -/
def pVA (fa u : Nat → Int) (n : Nat) (r g : Nat → Nat) : Nat → (Nat → Int) × (Nat → Int)
  | 0 => (u, fun b => mnZ (u 0 + fa b) (fun a => u a + fa (5 * a + b)) 5)
  | d + 1 =>
    let V : Nat → Int := fun b => mnZ ((pVA fa u n r g d).2 b) (fun i => if r i = d ∧ g i = b then u (5 + i) else (pVA fa u n r g d).2 b) n
    (V, fun b => mnZ (V 0 + fa b) (fun a => V a + fa (5 * a + b)) 5)
def pNd (fa u : Nat → Int) (n : Nat) (r g : Nat → Nat) (v : Nat) : Int := if v < 2 then 0 else if (v - 2) % 10 < 5 then (pVA fa u n r g ((v - 2) / 10)).1 ((v - 2) % 10) else (pVA fa u n r g ((v - 2) / 10)).2 ((v - 2) % 10 - 5)
section prices
variable {fa u w : Nat → Int} {n : Nat} {r g : Nat → Nat}
theorem pNd_pv {d a : Nat} (ha : a < 5) : pNd fa u n r g (pv d a) = (pVA fa u n r g d).1 a := by
  unfold pNd pv
  have e1 : (10 * d + 2 + a - 2) % 10 = a := by omega
  have e2 : (10 * d + 2 + a - 2) / 10 = d := by omega
  rw [if_neg (by omega), e1, e2, if_pos ha]
theorem pNd_ar {d a : Nat} (ha : a < 5) : pNd fa u n r g (ar d a) = (pVA fa u n r g d).2 a := by
  unfold pNd ar
  have e1 : (10 * d + 7 + a - 2) % 10 = 5 + a := by omega
  have e2 : (10 * d + 7 + a - 2) / 10 = d := by omega
  have e3 : 5 + a - 5 = a := by omega
  rw [if_neg (by omega), e1, e2, if_neg (by omega), e3]
theorem pA_eq (d b : Nat) : (pVA fa u n r g d).2 b = mnZ ((pVA fa u n r g d).1 0 + fa b) (fun a => (pVA fa u n r g d).1 a + fa (5 * a + b)) 5 := by
  cases d <;> rfl
theorem pV_eq (d b : Nat) : (pVA fa u n r g (d + 1)).1 b = mnZ ((pVA fa u n r g d).2 b) (fun i => if r i = d ∧ g i = b then u (5 + i) else (pVA fa u n r g d).2 b) n := rfl
theorem pA_at (d b : Nat) : ∃ a, a < 5 ∧ (pVA fa u n r g d).2 b = (pVA fa u n r g d).1 a + fa (5 * a + b) := by
  rw [pA_eq]
  rcases mnZ_at ((pVA fa u n r g d).1 0 + fa b) (fun a => (pVA fa u n r g d).1 a + fa (5 * a + b)) 5 with e | ⟨j, hj, e⟩
  · exact ⟨0, by omega, by rw [e, Nat.mul_zero, Nat.zero_add]⟩
  · exact ⟨j, hj, e⟩
theorem pV_at (d b : Nat) : (pVA fa u n r g (d + 1)).1 b = (pVA fa u n r g d).2 b ∨ ∃ i, i < n ∧ r i = d ∧ g i = b ∧ (pVA fa u n r g (d + 1)).1 b = u (5 + i) := by
  rw [pV_eq]
  rcases mnZ_at ((pVA fa u n r g d).2 b) (fun i => if r i = d ∧ g i = b then u (5 + i) else (pVA fa u n r g d).2 b) n with e | ⟨j, hj, e⟩
  · exact Or.inl e
  · by_cases c : r j = d ∧ g j = b
    · rw [if_pos c] at e; exact Or.inr ⟨j, hj, c.1, c.2, e⟩
    · rw [if_neg c] at e; exact Or.inl e
theorem p_nn (h : FarOk fa) (hu : ∀ s, s < 5 + n → 0 ≤ u s) : ∀ d a, a < 5 → 0 ≤ (pVA fa u n r g d).1 a
  | 0, a, ha => hu a (by omega)
  | d + 1, a, ha => by
    have nA : 0 ≤ (pVA fa u n r g d).2 a := by
      obtain ⟨x, hx, e⟩ := pA_at (fa := fa) (u := u) (n := n) (r := r) (g := g) d a
      have := p_nn h hu d x hx
      have := (h.1 (5 * x + a) (by omega)).1
      omega
    rcases pV_at (fa := fa) (u := u) (n := n) (r := r) (g := g) d a with e | ⟨i, hi, -, -, e⟩
    · omega
    · have := hu (5 + i) (by omega); omega
theorem p_day (h : FarOk fa) (hu : ∀ s, s < 5 + n → 0 ≤ u s) (D : Nat) : DayP D fa (pNd fa u n r g) := by
  refine ⟨fun d a b _ ha hb => ?_, fun d b _ hb => ?_, fun a ha => ?_⟩
  · rw [pNd_pv ha, pNd_ar hb, pA_eq]
    exact mnZ_le _ (fun a => (pVA fa u n r g d).1 a + fa (5 * a + b)) 5 a ha
  · rw [pNd_pv hb, pNd_ar hb, pV_eq]
    exact mnZ_b _ _ _
  · rw [pNd_pv ha]
    exact p_nn h hu D a ha
/-- a piece at a house on a day has come from some source -/
theorem p_src (h : FarOk fa) (hg : ∀ i, i < n → g i < 5) : ∀ d b, b < 5 → (∃ a, a < 5 ∧ u a + wy fa (d + 1) a b ≤ (pVA fa u n r g d).2 b) ∨ ∃ i, i < n ∧ r i < d ∧ u (5 + i) + wy fa (d - r i) (g i) b ≤ (pVA fa u n r g d).2 b
  | 0, b, hb => by
    obtain ⟨a, ha, e⟩ := pA_at (fa := fa) (u := u) (n := n) (r := r) (g := g) 0 b
    exact Or.inl ⟨a, ha, Int.le_of_eq e.symm⟩
  | d + 1, b, hb => by
    obtain ⟨a, ha, e⟩ := pA_at (fa := fa) (u := u) (n := n) (r := r) (g := g) (d + 1) b
    rcases pV_at (fa := fa) (u := u) (n := n) (r := r) (g := g) d a with e2 | ⟨i, hi, e3, e4, e2⟩
    · rcases p_src h hg d a ha with ⟨x, hx, l⟩ | ⟨i, hi, l0, l⟩
      · have := wy_step h (g := d + 1) (a := x) (b := a) (c := b) (by omega) hx ha hb
        exact Or.inl ⟨x, hx, by omega⟩
      · have := wy_step h (g := d - r i) (a := g i) (b := a) (c := b) (by omega) (hg i hi) ha hb
        have e5 : d - r i + 1 = d + 1 - r i := by omega
        rw [e5] at this
        exact Or.inr ⟨i, hi, by omega, by omega⟩
    · refine Or.inr ⟨i, hi, by omega, ?_⟩
      have e5 : d + 1 - r i = 1 := by omega
      have e6 : wy fa 1 (g i) b = fa (5 * g i + b) := rfl
      rw [e5, e6, e4]
      omega
theorem p_up {d i : Nat} (hi : i < n) (hr : r i = d) : (pVA fa u n r g (d + 1)).1 (g i) ≤ u (5 + i) := by
  rw [pV_eq]
  have := mnZ_le ((pVA fa u n r g d).2 (g i)) (fun k => if r k = d ∧ g k = g i then u (5 + k) else (pVA fa u n r g d).2 (g i)) n i hi
  rw [if_pos ⟨hr, rfl⟩] at this
  exact this
end prices
/-- what a source is and what it costs to carry from there -/
def pcT (fa : Nat → Int) (r g : Nat → Nat) (s j : Nat) : Int := if s < 5 then wy fa (r j + 1) s (g j) else wy fa (r j - r (s - 5)) (g (s - 5)) (g j)
theorem pcT_h {fa : Nat → Int} {r g : Nat → Nat} {s j : Nat} (h : s < 5) : pcT fa r g s j = wy fa (r j + 1) s (g j) := by unfold pcT; rw [if_pos h]
theorem pcT_e {fa : Nat → Int} {r g : Nat → Nat} {i j : Nat} : pcT fa r g (5 + i) j = wy fa (r j - r i) (g i) (g j) := by
  unfold pcT
  have e : 5 + i - 5 = i := by omega
  rw [if_neg (by omega), e]
theorem pcT_no {fa : Nat → Int} {r g : Nat → Nat} {i j : Nat} (h : r j ≤ r i) : pcT fa r g (5 + i) j = NW := by
  rw [pcT_e]
  have e : r j - r i = 0 := by omega
  rw [e]; rfl
theorem pcT_rng {fa : Nat → Int} {n : Nat} {r g : Nat → Nat} (h : FarOk fa) (hg : ∀ j, j < n → g j < 5) {s j : Nat} (hs : s < 5 + n) (hj : j < n) : 0 ≤ pcT fa r g s j ∧ (pcT fa r g s j < NW → pcT fa r g s j ≤ 400) := by
  by_cases c : s < 5
  · rw [pcT_h c]
    have := wy_rng h (g := r j + 1) (by omega) c (hg j hj)
    exact ⟨this.1, fun _ => by omega⟩
  · obtain ⟨i, rfl⟩ : ∃ i, s = 5 + i := ⟨s - 5, by omega⟩
    by_cases c2 : r j ≤ r i
    · rw [pcT_no c2]; exact ⟨by decide, fun z => absurd z (by omega)⟩
    · rw [pcT_e]
      have := wy_rng h (g := r j - r i) (by omega) (hg i (by omega)) (hg j hj)
      exact ⟨this.1, fun _ => by omega⟩
/-- both carry alike -/
theorem same_val {D n : Nat} {fa bk nd rm pi q u w spare unmet : Nat → Int} {r g : Nat → Nat} {sent : Nat → Nat → Int} {val sum total : Int} (h : FarOk fa) (hr : ∀ j, j < n → r j < D) (hg : ∀ j, j < n → g j < 5)
    (hnd : ∀ d h, d < D → h < 5 → nd (5 * d + h) = sI (fun j => if r j = d ∧ g j = h then q j else 0) n) (hq : ∀ j, j < n → 0 ≤ q j)
    (F : FI (dNet D fa) (cpP D bk nd) rm val sum pi) (hv : val < 1000000) (hsrc : ∀ h, h < 5 → rm (2 * h + 1) = bk h) (hneed : ∀ d h, d < D → h < 5 → rm (2 * (5 + 35 * d + (25 + 2 * h)) + 1) = nd (5 * d + h))
    (T : FT (5 + n) n (pcT fa r g) (fun s => if s < 5 then bk s else q (s - 5)) q sent spare unmet total u w) (hu : ∀ j, j < n → unmet j = 0) : sum + 10000000 * sI (fun j => q j) n = total := by
  have spl : ∀ u2 : Nat → Int, sI (fun s => (if s < 5 then bk s else q (s - 5)) * u2 s) (5 + n) = sI (fun a => bk a * u2 a) 5 + sI (fun i => q i * u2 (5 + i)) n := fun u2 => by
    rw [sI_split]
    have a1 : sI (fun s => (if s < 5 then bk s else q (s - 5)) * u2 s) 5 = sI (fun a => bk a * u2 a) 5 := sI_cong 5 (fun a ha => by
      show (if a < 5 then bk a else q (a - 5)) * u2 a = bk a * u2 a
      rw [if_pos ha])
    have a2 : sI (fun t => (if 5 + t < 5 then bk (5 + t) else q (5 + t - 5)) * u2 (5 + t)) n = sI (fun i => q i * u2 (5 + i)) n := sI_cong n (fun i _ => by
      show (if 5 + i < 5 then bk (5 + i) else q (5 + i - 5)) * u2 (5 + i) = q i * u2 (5 + i)
      have e : 5 + i - 5 = i := by omega
      rw [if_neg (by omega), e])
    rw [a1, a2]
  have val_is : ∀ p : Nat → Int, sI (fun d => sI (fun h => nd (5 * d + h) * (p (ar d h) - p (pv (d + 1) h) - 10000000)) 5) D = sI (fun j => q j * (p (ar (r j) (g j)) - p (pv (r j + 1) (g j)))) n - 10000000 * sI (fun j => q j) n := fun p => by
    rw [bridge hr hg hnd (fun d h => p (ar d h) - p (pv (d + 1) h) - 10000000), ← sI_mull, ← sI_sub]
    exact sI_cong n (fun j _ => by
      show q j * (p (ar (r j) (g j)) - p (pv (r j + 1) (g j)) - 10000000) = q j * (p (ar (r j) (g j)) - p (pv (r j + 1) (g j))) - 10000000 * q j
      rw [Int.mul_sub, Int.mul_comm 10000000])
  -- not less
  have ge : total ≤ sum + 10000000 * sI (fun j => q j) n := by
    have un : ∀ s, s < 5 + n → 0 ≤ u s := fun s hs => T.du.nn s hs
    have wk2 := weak2 F (p_day (n := n) (r := r) (g := g) h un D) rfl rfl hsrc hneed
    rw [val_is] at wk2
    have tv := tr_val T hu
    rw [spl] at tv
    have e1 : sI (fun a => bk a * pNd fa u n r g (pv 0 a)) 5 = sI (fun a => bk a * u a) 5 := sI_cong 5 (fun a ha => by
      show bk a * pNd fa u n r g (pv 0 a) = bk a * u a
      rw [pNd_pv ha]
      rfl)
    have e2 : sI (fun j => q j * w j - q j * u (5 + j)) n ≤ sI (fun j => q j * (pNd fa u n r g (ar (r j) (g j)) - pNd fa u n r g (pv (r j + 1) (g j)))) n := sI_le n (fun j hj => by
      show q j * w j - q j * u (5 + j) ≤ q j * (pNd fa u n r g (ar (r j) (g j)) - pNd fa u n r g (pv (r j + 1) (g j)))
      rw [pNd_ar (hg j hj), pNd_pv (hg j hj), ← Int.mul_sub]
      refine Int.mul_le_mul_of_nonneg_left ?_ (hq j hj)
      have h1 := p_up (fa := fa) (u := u) (n := n) (r := r) (g := g) hj rfl
      have h2 : w j ≤ (pVA fa u n r g (r j)).2 (g j) := by
        rcases p_src (u := u) (r := r) h hg (r j) (g j) (hg j hj) with ⟨a, ha, l⟩ | ⟨i, hi, l0, l⟩
        · have rg := wy_rng h (g := r j + 1) (by omega) ha (hg j hj)
          have hE : NW = 1000000 := rfl
          have t := T.du.le a j (show a < 5 + n by omega) hj (by
            show pcT fa r g a j < NW
            rw [pcT_h ha]; omega)
          have t : w j ≤ u a + pcT fa r g a j := t
          rw [pcT_h ha] at t
          omega
        · have rg := wy_rng h (g := r j - r i) (by omega) (hg i hi) (hg j hj)
          have hE : NW = 1000000 := rfl
          have t := T.du.le (5 + i) j (show 5 + i < 5 + n by omega) hj (by
            show pcT fa r g (5 + i) j < NW
            rw [pcT_e]; omega)
          have t : w j ≤ u (5 + i) + pcT fa r g (5 + i) j := t
          rw [pcT_e] at t
          omega
      omega)
    rw [sI_sub] at e2
    omega
  have le : sum + 10000000 * sI (fun j => q j) n ≤ total := by
    have ev := end_val F hv hsrc hneed
    have P := end_day F hv
    rw [val_is] at ev
    have vs := val_src F
    have tw := tr_weak T hu (fun s => (if s < 5 then pi (pv 0 s) else pi (pv (r (s - 5) + 1) (g (s - 5)))) - pi 1) (fun j => pi (ar (r j) (g j)) - pi 1) (fun s j hs hj hpc => by
      show pi (ar (r j) (g j)) - pi 1 ≤ (if s < 5 then pi (pv 0 s) else pi (pv (r (s - 5) + 1) (g (s - 5)))) - pi 1 + pcT fa r g s j
      by_cases c : s < 5
      · rw [if_pos c, pcT_h c]
        have := day_way h P (d0 := 0) c (r j) (by rw [Nat.zero_add]; exact hr j hj) (g j) (hg j hj)
        rw [Nat.zero_add] at this
        omega
      · obtain ⟨i, rfl⟩ : ∃ i, s = 5 + i := ⟨s - 5, by omega⟩
        have e : 5 + i - 5 = i := by omega
        rw [if_neg c, e]
        by_cases c2 : r j ≤ r i
        · rw [pcT_no c2] at hpc; omega
        · rw [pcT_e]
          have hi : i < n := by omega
          have e2 : r i + 1 + (r j - r i - 1) = r j := by omega
          have e3 : r j - r i - 1 + 1 = r j - r i := by omega
          have := day_way h P (d0 := r i + 1) (hg i hi) (r j - r i - 1) (by rw [e2]; exact hr j hj) (g j) (hg j hj)
          rw [e2, e3] at this
          omega) (fun s hs => by
      show 0 ≤ (if s < 5 then pi (pv 0 s) else pi (pv (r (s - 5) + 1) (g (s - 5)))) - pi 1
      by_cases c : s < 5
      · rw [if_pos c]
        have := day_low h P c D 0 (by omega)
        omega
      · obtain ⟨i, rfl⟩ : ∃ i, s = 5 + i := ⟨s - 5, by omega⟩
        have e : 5 + i - 5 = i := by omega
        rw [if_neg c, e]
        have hi : i < n := by omega
        have := hr i hi
        have := day_low h P (hg i hi) (D - (r i + 1)) (r i + 1) (by omega)
        omega)
    rw [spl] at tw
    have e1 : sI (fun a => bk a * ((if a < 5 then pi (pv 0 a) else pi (pv (r (a - 5) + 1) (g (a - 5)))) - pi 1)) 5 = sI (fun a => bk a * pi (pv 0 a)) 5 - val * pi 1 := by
      rw [vs, ← sI_mulr, ← sI_sub]
      exact sI_cong 5 (fun a ha => by
        show bk a * ((if a < 5 then pi (pv 0 a) else pi (pv (r (a - 5) + 1) (g (a - 5)))) - pi 1) = bk a * pi (pv 0 a) - rm (2 * a + 1) * pi 1
        rw [if_pos ha, hsrc a ha, Int.mul_sub])
    have e2 : sI (fun i => q i * ((if 5 + i < 5 then pi (pv 0 (5 + i)) else pi (pv (r (5 + i - 5) + 1) (g (5 + i - 5)))) - pi 1)) n = sI (fun i => q i * (pi (pv (r i + 1) (g i)) - pi 1)) n := sI_cong n (fun i _ => by
      show q i * ((if 5 + i < 5 then pi (pv 0 (5 + i)) else pi (pv (r (5 + i - 5) + 1) (g (5 + i - 5)))) - pi 1) = q i * (pi (pv (r i + 1) (g i)) - pi 1)
      have e : 5 + i - 5 = i := by omega
      rw [if_neg (by omega), e])
    have e3 : sI (fun j => q j * (pi (ar (r j) (g j)) - pi 1)) n - sI (fun i => q i * (pi (pv (r i + 1) (g i)) - pi 1)) n = sI (fun j => q j * (pi (ar (r j) (g j)) - pi (pv (r j + 1) (g j)))) n := by
      rw [← sI_sub]
      exact sI_cong n (fun j _ => by
        show q j * (pi (ar (r j) (g j)) - pi 1) - q j * (pi (pv (r j + 1) (g j)) - pi 1) = q j * (pi (ar (r j) (g j)) - pi (pv (r j + 1) (g j)))
        rw [← Int.mul_sub]
        congr 1
        omega)
    rw [e1, e2] at tw
    omega
  omega
/-- a day that needs more than there is -/
theorem short_val {D : Nat} {fa bk nd rm pi : Nat → Int} {val sum : Int} (h : FarOk fa) (F : FI (dNet D fa) (cpP D bk nd) rm val sum pi) {d : Nat} (hd : d < D) (hs : sI (fun h => bk h) 5 < sI (fun h => nd (5 * d + h)) 5) : 10000000 ≤ sum + 10000000 * sI (fun d => sI (fun h => nd (5 * d + h)) 5) D := by
  have P : DayP D fa (fun v => if v ≠ 0 ∧ v ≠ 1 ∧ v < 10 * d + 12 then 10000000 else 0) := by
    refine ⟨fun d2 a b _ ha hb => ?_, fun d2 a _ ha => ?_, fun a ha => ?_⟩
    · have := (h.1 (5 * a + b) (by omega)).1
      show (if ar d2 b ≠ 0 ∧ ar d2 b ≠ 1 ∧ ar d2 b < 10 * d + 12 then (10000000 : Int) else 0) ≤ (if pv d2 a ≠ 0 ∧ pv d2 a ≠ 1 ∧ pv d2 a < 10 * d + 12 then 10000000 else 0) + fa (5 * a + b)
      unfold ar pv
      split <;> split <;> omega
    · show (if pv (d2 + 1) a ≠ 0 ∧ pv (d2 + 1) a ≠ 1 ∧ pv (d2 + 1) a < 10 * d + 12 then (10000000 : Int) else 0) ≤ (if ar d2 a ≠ 0 ∧ ar d2 a ≠ 1 ∧ ar d2 a < 10 * d + 12 then 10000000 else 0)
      unfold ar pv
      split <;> split <;> omega
    · show (if (1 : Nat) ≠ 0 ∧ (1 : Nat) ≠ 1 ∧ 1 < 10 * d + 12 then (10000000 : Int) else 0) ≤ (if pv D a ≠ 0 ∧ pv D a ≠ 1 ∧ pv D a < 10 * d + 12 then 10000000 else 0)
      unfold pv
      split <;> split <;> omega
  have wk := weak F P (by simp) (by simp) (fun a ha => by
    show 0 ≤ (if pv 0 a ≠ 0 ∧ pv 0 a ≠ 1 ∧ pv 0 a < 10 * d + 12 then (10000000 : Int) else 0)
    split <;> omega) (fun d2 a _ ha => by
    show (if ar d2 a ≠ 0 ∧ ar d2 a ≠ 1 ∧ ar d2 a < 10 * d + 12 then (10000000 : Int) else 0) - (if pv (d2 + 1) a ≠ 0 ∧ pv (d2 + 1) a ≠ 1 ∧ pv (d2 + 1) a < 10 * d + 12 then 10000000 else 0) ≤ 10000000
    split <;> split <;> omega)
  have e1 : sI (fun a => bk a * (if pv 0 a ≠ 0 ∧ pv 0 a ≠ 1 ∧ pv 0 a < 10 * d + 12 then (10000000 : Int) else 0)) 5 = sI (fun a => bk a) 5 * 10000000 := by
    rw [← sI_mulr]
    exact sI_cong 5 (fun a ha => by
      show bk a * (if pv 0 a ≠ 0 ∧ pv 0 a ≠ 1 ∧ pv 0 a < 10 * d + 12 then (10000000 : Int) else 0) = bk a * 10000000
      rw [if_pos (by unfold pv; omega)])
  have e2 : sI (fun d2 => sI (fun a => nd (5 * d2 + a) * ((if ar d2 a ≠ 0 ∧ ar d2 a ≠ 1 ∧ ar d2 a < 10 * d + 12 then (10000000 : Int) else 0) - (if pv (d2 + 1) a ≠ 0 ∧ pv (d2 + 1) a ≠ 1 ∧ pv (d2 + 1) a < 10 * d + 12 then 10000000 else 0) - 10000000)) 5) D = sI (fun d2 => (if d = d2 then sI (fun a => nd (5 * d2 + a)) 5 * 10000000 else 0) - sI (fun a => nd (5 * d2 + a)) 5 * 10000000) D := by
    refine sI_cong D (fun d2 hd2 => ?_)
    by_cases c : d = d2
    · subst c
      show _ = (if d = d then sI (fun a => nd (5 * d + a)) 5 * 10000000 else 0) - sI (fun a => nd (5 * d + a)) 5 * 10000000
      rw [if_pos rfl, Int.sub_self]
      rw [sI_cong (g := fun _ => 0) 5 (fun a ha => by
        show nd (5 * d + a) * ((if ar d a ≠ 0 ∧ ar d a ≠ 1 ∧ ar d a < 10 * d + 12 then (10000000 : Int) else 0) - (if pv (d + 1) a ≠ 0 ∧ pv (d + 1) a ≠ 1 ∧ pv (d + 1) a < 10 * d + 12 then 10000000 else 0) - 10000000) = 0
        rw [if_pos (by unfold ar; omega), if_neg (by unfold pv; omega)]
        simp), sI_0]
    · show _ = (if d = d2 then sI (fun a => nd (5 * d2 + a)) 5 * 10000000 else 0) - sI (fun a => nd (5 * d2 + a)) 5 * 10000000
      rw [if_neg c, ← sI_mulr, Int.zero_sub]
      have ng : - sI (fun j => nd (5 * d2 + j) * 10000000) 5 = sI (fun j => nd (5 * d2 + j) * 10000000 * (-1)) 5 := by rw [sI_mulr (fun j => nd (5 * d2 + j) * 10000000)]; omega
      rw [ng]
      refine sI_cong 5 (fun a ha => ?_)
      show nd (5 * d2 + a) * ((if ar d2 a ≠ 0 ∧ ar d2 a ≠ 1 ∧ ar d2 a < 10 * d + 12 then (10000000 : Int) else 0) - (if pv (d2 + 1) a ≠ 0 ∧ pv (d2 + 1) a ≠ 1 ∧ pv (d2 + 1) a < 10 * d + 12 then 10000000 else 0) - 10000000) = nd (5 * d2 + a) * 10000000 * (-1)
      by_cases c2 : d2 < d
      · rw [if_pos (by unfold ar; omega), if_pos (by unfold pv; omega), Int.mul_assoc]; congr 1
      · rw [if_neg (by unfold ar; omega), if_neg (by unfold pv; omega), Int.mul_assoc]; congr 1
  have wk3 : -sI (fun a => bk a * (if pv 0 a ≠ 0 ∧ pv 0 a ≠ 1 ∧ pv 0 a < 10 * d + 12 then (10000000 : Int) else 0)) 5 + sI (fun d2 => sI (fun a => nd (5 * d2 + a) * ((if ar d2 a ≠ 0 ∧ ar d2 a ≠ 1 ∧ ar d2 a < 10 * d + 12 then (10000000 : Int) else 0) - (if pv (d2 + 1) a ≠ 0 ∧ pv (d2 + 1) a ≠ 1 ∧ pv (d2 + 1) a < 10 * d + 12 then 10000000 else 0) - 10000000)) 5) D ≤ sum := wk
  rw [e1, e2, sI_sub, sI_pt (fun d2 => sI (fun a => nd (5 * d2 + a)) 5 * 10000000), if_pos hd, sI_mulr (fun d2 => sI (fun a => nd (5 * d2 + a)) 5)] at wk3
  omega
