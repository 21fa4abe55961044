/-- the days' net: pv d a = house a ahead of day d, ar d b = house b on day d -/
def pv (d a : Nat) : Nat := 10 * d + 2 + a
def ar (d b : Nat) : Nat := 10 * d + 7 + b
def frP (D i : Nat) : Nat := if i < 5 then 0 else if i < 5 + 35 * D then (if (i - 5) % 35 < 25 then pv ((i - 5) / 35) ((i - 5) % 35 / 5) else ar ((i - 5) / 35) (((i - 5) % 35 - 25) / 2)) else pv D (i - 5 - 35 * D)
def toP (D i : Nat) : Nat := if i < 5 then 2 + i else if i < 5 + 35 * D then (if (i - 5) % 35 < 25 then ar ((i - 5) / 35) ((i - 5) % 35 % 5) else pv ((i - 5) / 35 + 1) (((i - 5) % 35 - 25) / 2)) else 1
def prP (D : Nat) (fa : Nat → Int) (i : Nat) : Int := if i < 5 then 0 else if i < 5 + 35 * D then (if (i - 5) % 35 < 25 then fa ((i - 5) % 35) else if ((i - 5) % 35 - 25) % 2 = 0 then -10000000 else 0) else 0
def cpP (D : Nat) (bk nd : Nat → Int) (i : Nat) : Int := if i < 5 then bk i else if i < 5 + 35 * D then (if (i - 5) % 35 < 25 then 1000000 else if ((i - 5) % 35 - 25) % 2 = 0 then nd (5 * ((i - 5) / 35) + ((i - 5) % 35 - 25) / 2) else 1000000) else 1000000
section kinds
variable (D : Nat) (fa bk nd : Nat → Int)
theorem k_src {h : Nat} (hh : h < 5) : frP D h = 0 ∧ toP D h = pv 0 h ∧ prP D fa h = 0 ∧ cpP D bk nd h = bk h := by
  unfold frP toP prP cpP pv
  rw [if_pos hh, if_pos hh, if_pos hh, if_pos hh]
  exact ⟨rfl, by omega, rfl, rfl⟩
theorem k_mov {d a b : Nat} (hd : d < D) (ha : a < 5) (hb : b < 5) : frP D (5 + 35 * d + (5 * a + b)) = pv d a ∧ toP D (5 + 35 * d + (5 * a + b)) = ar d b ∧ prP D fa (5 + 35 * d + (5 * a + b)) = fa (5 * a + b) ∧ cpP D bk nd (5 + 35 * d + (5 * a + b)) = 1000000 := by
  have c1 : ¬ 5 + 35 * d + (5 * a + b) < 5 := by omega
  have c2 : 5 + 35 * d + (5 * a + b) < 5 + 35 * D := by omega
  have e1 : (5 + 35 * d + (5 * a + b) - 5) % 35 = 5 * a + b := by omega
  have e2 : (5 + 35 * d + (5 * a + b) - 5) / 35 = d := by omega
  have e3 : (5 * a + b) / 5 = a := by omega
  have e4 : (5 * a + b) % 5 = b := by omega
  have c3 : 5 * a + b < 25 := by omega
  unfold frP toP prP cpP
  simp only [if_neg c1, if_pos c2, e1, e2, e3, e4, if_pos c3]
  exact ⟨trivial, trivial, trivial, trivial⟩
theorem k_need {d h : Nat} (hd : d < D) (hh : h < 5) : frP D (5 + 35 * d + (25 + 2 * h)) = ar d h ∧ toP D (5 + 35 * d + (25 + 2 * h)) = pv (d + 1) h ∧ prP D fa (5 + 35 * d + (25 + 2 * h)) = -10000000 ∧ cpP D bk nd (5 + 35 * d + (25 + 2 * h)) = nd (5 * d + h) := by
  have c1 : ¬ 5 + 35 * d + (25 + 2 * h) < 5 := by omega
  have c2 : 5 + 35 * d + (25 + 2 * h) < 5 + 35 * D := by omega
  have e1 : (5 + 35 * d + (25 + 2 * h) - 5) % 35 = 25 + 2 * h := by omega
  have e2 : (5 + 35 * d + (25 + 2 * h) - 5) / 35 = d := by omega
  have e3 : (25 + 2 * h - 25) / 2 = h := by omega
  have e4 : (25 + 2 * h - 25) % 2 = 0 := by omega
  have c3 : ¬ 25 + 2 * h < 25 := by omega
  unfold frP toP prP cpP
  simp only [if_neg c1, if_pos c2, e1, e2, e3, e4, if_neg c3, if_true]
  exact ⟨trivial, trivial, trivial, trivial⟩
theorem k_idle {d h : Nat} (hd : d < D) (hh : h < 5) : frP D (5 + 35 * d + (25 + (2 * h + 1))) = ar d h ∧ toP D (5 + 35 * d + (25 + (2 * h + 1))) = pv (d + 1) h ∧ prP D fa (5 + 35 * d + (25 + (2 * h + 1))) = 0 ∧ cpP D bk nd (5 + 35 * d + (25 + (2 * h + 1))) = 1000000 := by
  have c1 : ¬ 5 + 35 * d + (25 + (2 * h + 1)) < 5 := by omega
  have c2 : 5 + 35 * d + (25 + (2 * h + 1)) < 5 + 35 * D := by omega
  have e1 : (5 + 35 * d + (25 + (2 * h + 1)) - 5) % 35 = 25 + (2 * h + 1) := by omega
  have e2 : (5 + 35 * d + (25 + (2 * h + 1)) - 5) / 35 = d := by omega
  have e3 : (25 + (2 * h + 1) - 25) / 2 = h := by omega
  have e4 : (25 + (2 * h + 1) - 25) % 2 = 1 := by omega
  have c3 : ¬ 25 + (2 * h + 1) < 25 := by omega
  have c4 : ¬ (1 : Nat) = 0 := by omega
  unfold frP toP prP cpP
  simp only [if_neg c1, if_pos c2, e1, e2, e3, e4, if_neg c3, if_neg c4]
  exact ⟨trivial, trivial, trivial, trivial⟩
theorem k_sink {h : Nat} (hh : h < 5) : frP D (5 + 35 * D + h) = pv D h ∧ toP D (5 + 35 * D + h) = 1 ∧ prP D fa (5 + 35 * D + h) = 0 ∧ cpP D bk nd (5 + 35 * D + h) = 1000000 := by
  have c1 : ¬ 5 + 35 * D + h < 5 := by omega
  have c2 : ¬ 5 + 35 * D + h < 5 + 35 * D := by omega
  have e1 : 5 + 35 * D + h - 5 - 35 * D = h := by omega
  unfold frP toP prP cpP
  simp only [if_neg c1, if_neg c2, e1]
  exact ⟨trivial, trivial, trivial, trivial⟩
theorem kinds {i : Nat} (hi : i < 10 + 35 * D) : (i < 5) ∨ (∃ d a b, d < D ∧ a < 5 ∧ b < 5 ∧ i = 5 + 35 * d + (5 * a + b)) ∨ (∃ d h, d < D ∧ h < 5 ∧ i = 5 + 35 * d + (25 + 2 * h)) ∨ (∃ d h, d < D ∧ h < 5 ∧ i = 5 + 35 * d + (25 + (2 * h + 1))) ∨ ∃ h, h < 5 ∧ i = 5 + 35 * D + h := by
  by_cases c1 : i < 5
  · exact Or.inl c1
  · by_cases c2 : i < 5 + 35 * D
    · by_cases c3 : (i - 5) % 35 < 25
      · exact Or.inr (Or.inl ⟨(i - 5) / 35, (i - 5) % 35 / 5, (i - 5) % 35 % 5, by omega, by omega, by omega, by omega⟩)
      · by_cases c4 : ((i - 5) % 35 - 25) % 2 = 0
        · exact Or.inr (Or.inr (Or.inl ⟨(i - 5) / 35, ((i - 5) % 35 - 25) / 2, by omega, by omega, by omega⟩))
        · exact Or.inr (Or.inr (Or.inr (Or.inl ⟨(i - 5) / 35, ((i - 5) % 35 - 25) / 2, by omega, by omega, by omega⟩)))
    · exact Or.inr (Or.inr (Or.inr (Or.inr ⟨i - 5 - 35 * D, by omega, by omega⟩)))
end kinds
def dNet (D : Nat) (fa : Nat → Int) : Net := (10 + 35 * D, 7 + 10 * D, fun e => if e % 2 = 0 then frP D (e / 2) else toP D (e / 2), fun e => if e % 2 = 0 then toP D (e / 2) else frP D (e / 2), fun e => if e % 2 = 0 then prP D fa (e / 2) else - prP D fa (e / 2))
theorem ev2 (i : Nat) : 2 * i % 2 = 0 ∧ 2 * i / 2 = i ∧ ¬ (2 * i + 1) % 2 = 0 ∧ (2 * i + 1) / 2 = i := by omega
section dnet
variable {D : Nat} {fa bk nd : Nat → Int}
theorem d_fr (i : Nat) : (dNet D fa).fr (2 * i) = frP D i ∧ (dNet D fa).fr (2 * i + 1) = toP D i := by
  obtain ⟨a, b, c, d⟩ := ev2 i
  show (if 2 * i % 2 = 0 then frP D (2 * i / 2) else toP D (2 * i / 2)) = _ ∧ (if (2 * i + 1) % 2 = 0 then frP D ((2 * i + 1) / 2) else toP D ((2 * i + 1) / 2)) = _
  rw [if_pos a, if_neg c, b, d]
  exact ⟨rfl, rfl⟩
theorem d_to (i : Nat) : (dNet D fa).to (2 * i) = toP D i ∧ (dNet D fa).to (2 * i + 1) = frP D i := by
  obtain ⟨a, b, c, d⟩ := ev2 i
  show (if 2 * i % 2 = 0 then toP D (2 * i / 2) else frP D (2 * i / 2)) = _ ∧ (if (2 * i + 1) % 2 = 0 then toP D ((2 * i + 1) / 2) else frP D ((2 * i + 1) / 2)) = _
  rw [if_pos a, if_neg c, b, d]
  exact ⟨rfl, rfl⟩
theorem d_pr (i : Nat) : (dNet D fa).pr (2 * i) = prP D fa i ∧ (dNet D fa).pr (2 * i + 1) = - prP D fa i := by
  obtain ⟨a, b, c, d⟩ := ev2 i
  show (if 2 * i % 2 = 0 then prP D fa (2 * i / 2) else - prP D fa (2 * i / 2)) = _ ∧ (if (2 * i + 1) % 2 = 0 then prP D fa ((2 * i + 1) / 2) else - prP D fa ((2 * i + 1) / 2)) = _
  rw [if_pos a, if_neg c, b, d]
  exact ⟨rfl, rfl⟩
theorem p_rng (hf : ∀ i, i < 25 → 0 ≤ fa i ∧ fa i ≤ 99) {i : Nat} (hi : i < 10 + 35 * D) : frP D i < 7 + 10 * D ∧ toP D i < 7 + 10 * D ∧ -10000000 ≤ prP D fa i ∧ prP D fa i ≤ 99 := by
  rcases kinds D hi with h | ⟨d, a, b, hd, ha, hb, rfl⟩ | ⟨d, h, hd, hh, rfl⟩ | ⟨d, h, hd, hh, rfl⟩ | ⟨h, hh, rfl⟩
  · obtain ⟨e1, e2, e3, -⟩ := k_src D fa fa fa h
    rw [e1, e2, e3]; unfold pv; omega
  · obtain ⟨e1, e2, e3, -⟩ := k_mov D fa fa fa hd ha hb
    have := hf (5 * a + b) (by omega)
    rw [e1, e2, e3]; unfold pv ar; omega
  · obtain ⟨e1, e2, e3, -⟩ := k_need D fa fa fa hd hh
    rw [e1, e2, e3]; unfold pv ar; omega
  · obtain ⟨e1, e2, e3, -⟩ := k_idle D fa fa fa hd hh
    rw [e1, e2, e3]; unfold pv ar; omega
  · obtain ⟨e1, e2, e3, -⟩ := k_sink D fa fa fa hh
    rw [e1, e2, e3]; unfold pv; omega
theorem d_ok (hD : D ≤ 12) (hf : ∀ i, i < 25 → 0 ≤ fa i ∧ fa i ≤ 99) : NetOk (dNet D fa) := by
  have par : ∀ e, e < 2 * (10 + 35 * D) → (∃ i, i < 10 + 35 * D ∧ e = 2 * i) ∨ ∃ i, i < 10 + 35 * D ∧ e = 2 * i + 1 := fun e he => by
    by_cases c : e % 2 = 0
    · exact Or.inl ⟨e / 2, by omega, by omega⟩
    · exact Or.inr ⟨e / 2, by omega, by omega⟩
  refine ⟨fun i _ => ?_, fun i _ => ?_, fun i _ => ?_, fun e he => ?_, fun e he => ?_, ?_, fun e he => ?_⟩
  · rw [(d_fr i).2, (d_to i).1]
  · rw [(d_fr i).1, (d_to i).2]
  · rw [(d_pr i).1, (d_pr i).2]
  · rcases par e he with ⟨i, hi, rfl⟩ | ⟨i, hi, rfl⟩
    · rw [(d_fr i).1]; exact (p_rng hf hi).1
    · rw [(d_fr i).2]; exact (p_rng hf hi).2.1
  · rcases par e he with ⟨i, hi, rfl⟩ | ⟨i, hi, rfl⟩
    · rw [(d_to i).1]; exact (p_rng hf hi).2.1
    · rw [(d_to i).2]; exact (p_rng hf hi).1
  · show 1 < 7 + 10 * D ∧ 7 + 10 * D ≤ 127
    omega
  · rcases par e he with ⟨i, hi, rfl⟩ | ⟨i, hi, rfl⟩
    · rw [(d_pr i).1]; have := p_rng hf hi; omega
    · rw [(d_pr i).2]; have := p_rng hf hi; omega
theorem d_Lw (w rm : Nat → Int) : Lw (dNet D fa) w rm = sI (fun i => rm (2 * i + 1) * w (2 * i)) (10 + 35 * D) := rfl
/-- the first prices -/
def pi0 (D v : Nat) : Int := if v = 1 then -10000000 * D else if v < 2 then 0 else -10000000 * (((v - 2) / 10 : Nat) : Int)
theorem pi0_pv {D d a : Nat} (ha : a < 5) : pi0 D (pv d a) = -10000000 * d := by
  unfold pi0 pv
  rw [if_neg (by omega), if_neg (by omega)]
  have : (10 * d + 2 + a - 2) / 10 = d := by omega
  rw [this]
theorem pi0_ar {D d a : Nat} (ha : a < 5) : pi0 D (ar d a) = -10000000 * d := by
  unfold pi0 ar
  rw [if_neg (by omega), if_neg (by omega)]
  have : (10 * d + 7 + a - 2) / 10 = d := by omega
  rw [this]
theorem fi_0 (hD : D ≤ 12) (hf : ∀ i, i < 25 → 0 ≤ fa i ∧ fa i ≤ 99) {rm : Nat → Int} (h0 : ∀ i, i < 10 + 35 * D → rm (2 * i) = cpP D bk nd i ∧ rm (2 * i + 1) = 0) (hb : ∀ h, h < 5 → 0 ≤ bk h) (hn : ∀ i, i < 5 * D → 0 ≤ nd i) : FI (dNet D fa) (cpP D bk nd) rm 0 0 (pi0 D) := by
  have z : ∀ w, Lw (dNet D fa) w rm = 0 := fun w => by
    rw [d_Lw, sI_cong (g := fun _ => 0) _ (fun i hi => by
      show rm (2 * i + 1) * w (2 * i) = 0
      rw [(h0 i hi).2, Int.zero_mul]), sI_0]
  have cap : ∀ i, i < 10 + 35 * D → 0 ≤ cpP D bk nd i := fun i hi => by
    rcases kinds D hi with h | ⟨d, a, b, hd, ha, hb2, rfl⟩ | ⟨d, h, hd, hh, rfl⟩ | ⟨d, h, hd, hh, rfl⟩ | ⟨h, hh, rfl⟩
    · rw [(k_src D fa bk nd h).2.2.2]; exact hb i h
    · rw [(k_mov D fa bk nd hd ha hb2).2.2.2]; decide
    · rw [(k_need D fa bk nd hd hh).2.2.2]; exact hn _ (by omega)
    · rw [(k_idle D fa bk nd hd hh).2.2.2]; decide
    · rw [(k_sink D fa bk nd hh).2.2.2]; decide
  have par : ∀ e, e < 2 * (10 + 35 * D) → (∃ i, i < 10 + 35 * D ∧ e = 2 * i) ∨ ∃ i, i < 10 + 35 * D ∧ e = 2 * i + 1 := fun e he => by
    by_cases c : e % 2 = 0
    · exact Or.inl ⟨e / 2, by omega, by omega⟩
    · exact Or.inr ⟨e / 2, by omega, by omega⟩
  refine ⟨fun e he => ?_, fun i hi => ?_, fun ph => ?_, z _, ⟨?_, fun v hv => ?_, fun e he hr => ?_⟩⟩
  · rcases par e he with ⟨i, hi, rfl⟩ | ⟨i, hi, rfl⟩
    · rw [(h0 i hi).1]; exact cap i hi
    · rw [(h0 i hi).2]; decide
  · have := h0 i hi
    omega
  · rw [z, Int.zero_mul]
  · rfl
  · have hv2 : v < 7 + 10 * D := hv
    unfold pi0
    by_cases c : v = 1
    · rw [if_pos c]; omega
    · rw [if_neg c]
      by_cases c2 : v < 2
      · rw [if_pos c2]; decide
      · rw [if_neg c2]; omega
  · rcases par e he with ⟨i, hi, rfl⟩ | ⟨i, hi, rfl⟩
    · rw [(d_pr i).1, (d_fr i).1, (d_to i).1]
      rcases kinds D hi with h | ⟨d, a, b, hd, ha, hb2, rfl⟩ | ⟨d, h, hd, hh, rfl⟩ | ⟨d, h, hd, hh, rfl⟩ | ⟨h, hh, rfl⟩
      · obtain ⟨e1, e2, e3, -⟩ := k_src D fa bk nd h
        rw [e1, e2, e3, pi0_pv h]
        show 0 ≤ 0 + (0 : Int) - _
        omega
      · obtain ⟨e1, e2, e3, -⟩ := k_mov D fa bk nd hd ha hb2
        have := hf (5 * a + b) (by omega)
        rw [e1, e2, e3, pi0_pv ha, pi0_ar hb2]
        omega
      · obtain ⟨e1, e2, e3, -⟩ := k_need D fa bk nd hd hh
        rw [e1, e2, e3, pi0_pv hh, pi0_ar hh]
        omega
      · obtain ⟨e1, e2, e3, -⟩ := k_idle D fa bk nd hd hh
        rw [e1, e2, e3, pi0_pv hh, pi0_ar hh]
        omega
      · obtain ⟨e1, e2, e3, -⟩ := k_sink D fa bk nd hh
        rw [e1, e2, e3, pi0_pv hh]
        have : pi0 D 1 = -10000000 * D := by unfold pi0; rw [if_pos rfl]
        rw [this]
        omega
    · rw [(h0 i hi).2] at hr
      exact absurd hr (by decide)
end dnet
