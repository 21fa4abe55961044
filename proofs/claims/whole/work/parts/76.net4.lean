section dual2
variable {D : Nat} {fa bk nd rm pi p : Nat → Int} {val sum : Int}
/-- what the prices p give for a pair's own limit -/
def lowD (D : Nat) (bk nd p : Nat → Int) (i : Nat) : Int := if i < 5 then - (bk i * p (pv 0 i)) else if i < 5 + 35 * D then (if (i - 5) % 35 < 25 then 0 else if ((i - 5) % 35 - 25) % 2 = 0 then nd (5 * ((i - 5) / 35) + ((i - 5) % 35 - 25) / 2) * (p (ar ((i - 5) / 35) (((i - 5) % 35 - 25) / 2)) - p (pv ((i - 5) / 35 + 1) (((i - 5) % 35 - 25) / 2)) - 10000000) else 0) else 0
theorem l_src {h : Nat} (hh : h < 5) : lowD D bk nd p h = - (bk h * p (pv 0 h)) := by unfold lowD; rw [if_pos hh]
theorem l_mov {d r : Nat} (hd : d < D) (hr : r < 25) : lowD D bk nd p (5 + 35 * d + r) = 0 := by
  have c1 : ¬ 5 + 35 * d + r < 5 := by omega
  have c2 : 5 + 35 * d + r < 5 + 35 * D := by omega
  have e1 : (5 + 35 * d + r - 5) % 35 = r := by omega
  unfold lowD
  rw [if_neg c1, if_pos c2, e1, if_pos hr]
theorem l_need {d h : Nat} (hd : d < D) (hh : h < 5) : lowD D bk nd p (5 + 35 * d + (25 + 2 * h)) = nd (5 * d + h) * (p (ar d h) - p (pv (d + 1) h) - 10000000) := by
  have c1 : ¬ 5 + 35 * d + (25 + 2 * h) < 5 := by omega
  have c2 : 5 + 35 * d + (25 + 2 * h) < 5 + 35 * D := by omega
  have e1 : (5 + 35 * d + (25 + 2 * h) - 5) % 35 = 25 + 2 * h := by omega
  have e2 : (5 + 35 * d + (25 + 2 * h) - 5) / 35 = d := by omega
  have e3 : (25 + 2 * h - 25) / 2 = h := by omega
  have e4 : (25 + 2 * h - 25) % 2 = 0 := by omega
  have c3 : ¬ 25 + 2 * h < 25 := by omega
  unfold lowD
  rw [if_neg c1, if_pos c2, e1, if_neg c3, e4, if_pos rfl, e2, e3]
theorem l_idle {d h : Nat} (hd : d < D) (hh : h < 5) : lowD D bk nd p (5 + 35 * d + (25 + (2 * h + 1))) = 0 := by
  have c1 : ¬ 5 + 35 * d + (25 + (2 * h + 1)) < 5 := by omega
  have c2 : 5 + 35 * d + (25 + (2 * h + 1)) < 5 + 35 * D := by omega
  have e1 : (5 + 35 * d + (25 + (2 * h + 1)) - 5) % 35 = 25 + (2 * h + 1) := by omega
  have e4 : ¬ (25 + (2 * h + 1) - 25) % 2 = 0 := by omega
  have c3 : ¬ 25 + (2 * h + 1) < 25 := by omega
  unfold lowD
  rw [if_neg c1, if_pos c2, e1, if_neg c3, if_neg e4]
theorem l_sink {h : Nat} : lowD D bk nd p (5 + 35 * D + h) = 0 := by
  have c1 : ¬ 5 + 35 * D + h < 5 := by omega
  have c2 : ¬ 5 + 35 * D + h < 5 + 35 * D := by omega
  unfold lowD
  rw [if_neg c1, if_neg c2]
theorem lowD_sum : sI (lowD D bk nd p) (10 + 35 * D) = - sI (fun h => bk h * p (pv 0 h)) 5 + sI (fun d => sI (fun h => nd (5 * d + h) * (p (ar d h) - p (pv (d + 1) h) - 10000000)) 5) D := by
  rw [sI_net]
  have s1 : sI (lowD D bk nd p) 5 = - sI (fun h => bk h * p (pv 0 h)) 5 := by
    rw [sI_cong (f := lowD D bk nd p) (g := fun h => bk h * p (pv 0 h) * (-1)) 5 (fun h hh => by
      show lowD D bk nd p h = bk h * p (pv 0 h) * (-1)
      rw [l_src hh]; omega), sI_mulr]
    omega
  have s2 : sI (fun d => sI (fun r => lowD D bk nd p (5 + 35 * d + r)) 25 + sI (fun h => lowD D bk nd p (5 + 35 * d + (25 + 2 * h)) + lowD D bk nd p (5 + 35 * d + (25 + (2 * h + 1)))) 5) D = sI (fun d => sI (fun h => nd (5 * d + h) * (p (ar d h) - p (pv (d + 1) h) - 10000000)) 5) D := by
    refine sI_cong D (fun d hd => ?_)
    rw [sI_cong (f := fun r => lowD D bk nd p (5 + 35 * d + r)) (g := fun _ => 0) 25 (fun r hr => l_mov hd hr), sI_0, Int.zero_add]
    refine sI_cong 5 (fun h hh => ?_)
    show lowD D bk nd p (5 + 35 * d + (25 + 2 * h)) + lowD D bk nd p (5 + 35 * d + (25 + (2 * h + 1))) = _
    rw [l_need hd hh, l_idle hd hh, Int.add_zero]
  have s3 : sI (fun h => lowD D bk nd p (5 + 35 * D + h)) 5 = 0 := by
    rw [sI_cong (f := fun h => lowD D bk nd p (5 + 35 * D + h)) (g := fun _ => 0) 5 (fun h _ => l_sink), sI_0]
  rw [s1, s2, s3, Int.add_zero]
/-- what must hold of prices over the days -/
abbrev DayP (D : Nat) (fa p : Nat → Int) : Prop :=
  (∀ d a b, d < D → a < 5 → b < 5 → p (ar d b) ≤ p (pv d a) + fa (5 * a + b)) ∧ (∀ d h, d < D → h < 5 → p (pv (d + 1) h) ≤ p (ar d h)) ∧ (∀ h, h < 5 → p 1 ≤ p (pv D h))
/-- weak duality: no way is cheaper than what such prices say -/
theorem weak (F : FI (dNet D fa) (cpP D bk nd) rm val sum pi) (P : DayP D fa p) (p0 : p 0 = 0) (p1 : p 1 = 0) (hu : ∀ h, h < 5 → 0 ≤ p (pv 0 h)) (hb : ∀ d h, d < D → h < 5 → p (ar d h) - p (pv (d + 1) h) ≤ 10000000) :
    - sI (fun h => bk h * p (pv 0 h)) 5 + sI (fun d => sI (fun h => nd (5 * d + h) * (p (ar d h) - p (pv (d + 1) h) - 10000000)) 5) D ≤ sum := by
  obtain ⟨q1, q2, q3⟩ := P
  have c := d_cons F p
  rw [p0, p1, Int.sub_self, Int.mul_zero] at c
  rw [← d_cost F, ← lowD_sum]
  have le : sI (fun i => rm (2 * i + 1) * (p (toP D i) - p (frP D i)) + lowD D bk nd p i) (10 + 35 * D) ≤ sI (fun i => rm (2 * i + 1) * prP D fa i) (10 + 35 * D) := by
    refine sI_le _ (fun i hi => ?_)
    show rm (2 * i + 1) * (p (toP D i) - p (frP D i)) + lowD D bk nd p i ≤ rm (2 * i + 1) * prP D fa i
    obtain ⟨x0, x1, -⟩ := d_x F hi
    rcases kinds D hi with h | ⟨d, a, b, hd, ha, hb2, rfl⟩ | ⟨d, h, hd, hh, rfl⟩ | ⟨d, h, hd, hh, rfl⟩ | ⟨h, hh, rfl⟩
    · obtain ⟨e1, e2, e3, e4⟩ := k_src D fa bk nd h
      rw [e1, e2, e3, l_src h, p0]
      rw [e4] at x1
      have := Int.mul_le_mul_of_nonneg_right x1 (hu i h)
      rw [Int.sub_zero, Int.mul_zero]
      omega
    · obtain ⟨e1, e2, e3, e4⟩ := k_mov D fa bk nd hd ha hb2
      rw [e1, e2, e3, l_mov hd (by omega), Int.add_zero]
      exact Int.mul_le_mul_of_nonneg_left (by have := q1 d a b hd ha hb2; omega) x0
    · obtain ⟨e1, e2, e3, e4⟩ := k_need D fa bk nd hd hh
      rw [e1, e2, e3, l_need hd hh]
      rw [e4] at x1
      have hx := hb d h hd hh
      have : nd (5 * d + h) * (p (ar d h) - p (pv (d + 1) h) - 10000000) ≤ rm (2 * (5 + 35 * d + (25 + 2 * h)) + 1) * (p (ar d h) - p (pv (d + 1) h) - 10000000) := Int.mul_le_mul_of_nonpos_right x1 (by omega)
      have e5 : rm (2 * (5 + 35 * d + (25 + 2 * h)) + 1) * (p (pv (d + 1) h) - p (ar d h)) + rm (2 * (5 + 35 * d + (25 + 2 * h)) + 1) * (p (ar d h) - p (pv (d + 1) h) - 10000000) = rm (2 * (5 + 35 * d + (25 + 2 * h)) + 1) * (-10000000) := by
        rw [← Int.mul_add]; congr 1; omega
      omega
    · obtain ⟨e1, e2, e3, e4⟩ := k_idle D fa bk nd hd hh
      rw [e1, e2, e3, l_idle hd hh, Int.add_zero]
      exact Int.mul_le_mul_of_nonneg_left (by have := q2 d h hd hh; omega) x0
    · obtain ⟨e1, e2, e3, e4⟩ := k_sink D fa bk nd hh
      rw [e1, e2, e3, l_sink, Int.add_zero]
      exact Int.mul_le_mul_of_nonneg_left (by have := q3 h hh; omega) x0
  rw [sI_add, c, Int.zero_add] at le
  exact le
/-- the prices at the end: ways that are never full -/
theorem end_day (F : FI (dNet D fa) (cpP D bk nd) rm val sum pi) (hv : val < 1000000) : DayP D fa pi := by
  refine ⟨fun d a b hd ha hb => ?_, fun d h hd hh => ?_, fun h hh => ?_⟩
  · obtain ⟨e1, e2, e3, e4⟩ := k_mov D fa bk nd hd ha hb
    have hi : 5 + 35 * d + (5 * a + b) < 10 + 35 * D := by omega
    have := d_fwd F hi (by rw [e4]; have := x_le_all F hi; omega)
    rw [e1, e2, e3] at this
    omega
  · obtain ⟨e1, e2, e3, e4⟩ := k_idle D fa bk nd hd hh
    have hi : 5 + 35 * d + (25 + (2 * h + 1)) < 10 + 35 * D := by omega
    have := d_fwd F hi (by rw [e4]; have := x_le_all F hi; omega)
    rw [e1, e2, e3] at this
    omega
  · obtain ⟨e1, e2, e3, e4⟩ := k_sink D fa bk nd hh
    have hi : 5 + 35 * D + h < 10 + 35 * D := by omega
    have := d_fwd F hi (by rw [e4]; have := x_le_all F hi; omega)
    rw [e1, e2, e3] at this
    omega
/-- where the pieces are enough, every need is met -/
theorem sated (F : FI (dNet D fa) (cpP D bk nd) rm val sum pi) (hv : val < 1000000) (hf : ∀ i, i < 25 → 0 ≤ fa i ∧ fa i ≤ 99) {d : Nat} (hd : d < D) (hs : sI (fun h => nd (5 * d + h)) 5 ≤ val) {h : Nat} (hh : h < 5) : rm (2 * (5 + 35 * d + (25 + 2 * h)) + 1) = nd (5 * d + h) := by
  obtain ⟨q1, q2, q3⟩ := end_day F hv
  have hcap : ∀ h2, h2 < 5 → rm (2 * (5 + 35 * d + (25 + 2 * h2)) + 1) ≤ nd (5 * d + h2) := fun h2 hh2 => by
    have := (d_x F (i := 5 + 35 * d + (25 + 2 * h2)) (by omega)).2.1
    rw [(k_need D fa bk nd hd hh2).2.2.2] at this
    exact this
  by_cases c : rm (2 * (5 + 35 * d + (25 + 2 * h)) + 1) = nd (5 * d + h)
  · exact c
  · exfalso
    have lt : rm (2 * (5 + 35 * d + (25 + 2 * h)) + 1) < nd (5 * d + h) := by have := hcap h hh; omega
    obtain ⟨e1, e2, e3, e4⟩ := k_need D fa bk nd hd hh
    have big := d_fwd F (i := 5 + 35 * d + (25 + 2 * h)) (by omega) (by rw [e4]; exact lt)
    rw [e1, e2, e3] at big
    -- some piece goes by unused
    have ex : ∃ h1, h1 < 5 ∧ 0 < rm (2 * (5 + 35 * d + (25 + (2 * h1 + 1))) + 1) := by
      by_cases e : ∃ h1, h1 < 5 ∧ 0 < rm (2 * (5 + 35 * d + (25 + (2 * h1 + 1))) + 1)
      · exact e
      · exfalso
        have hz : ∀ h1, h1 < 5 → rm (2 * (5 + 35 * d + (25 + (2 * h1 + 1))) + 1) ≤ 0 := fun h1 hh1 => by
          by_cases w : 0 < rm (2 * (5 + 35 * d + (25 + (2 * h1 + 1))) + 1)
          · exact absurd ⟨h1, hh1, w⟩ e
          · omega
        have vd := val_day F hd
        have := sI_lt (f := fun h => rm (2 * (5 + 35 * d + (25 + 2 * h)) + 1) + rm (2 * (5 + 35 * d + (25 + (2 * h + 1))) + 1)) (g := fun h => nd (5 * d + h)) (c := h) 5 (fun j hj => by
          have := hcap j hj
          have := hz j hj
          show rm (2 * (5 + 35 * d + (25 + 2 * j)) + 1) + rm (2 * (5 + 35 * d + (25 + (2 * j + 1))) + 1) ≤ nd (5 * d + j)
          omega) hh (by
          have := hz h hh
          show rm (2 * (5 + 35 * d + (25 + 2 * h)) + 1) + rm (2 * (5 + 35 * d + (25 + (2 * h + 1))) + 1) < nd (5 * d + h)
          omega)
        omega
    obtain ⟨h1, hh1, hx⟩ := ex
    obtain ⟨f1, f2, f3, -⟩ := k_idle D fa bk nd hd hh1
    have id1 := d_bwd F (i := 5 + 35 * d + (25 + (2 * h1 + 1))) (by omega) hx
    rw [f1, f2, f3] at id1
    -- it has come from a house
    have inn : ∃ a, a < 5 ∧ 0 < rm (2 * (5 + 35 * d + (5 * a + h1)) + 1) := by
      have cs := d_cons F (fun v => if v = ar d h1 then 1 else 0)
      have z1 : (if 1 = ar d h1 then (1 : Int) else 0) = 0 := if_neg (by unfold ar; omega)
      have z0 : (if 0 = ar d h1 then (1 : Int) else 0) = 0 := if_neg (by unfold ar; omega)
      simp only [z1, z0, Int.sub_self, Int.mul_zero] at cs
      obtain ⟨i, hi, hp⟩ := sI_pos_ex (c := 5 + 35 * d + (25 + (2 * h1 + 1))) cs (by omega) (by
        show rm (2 * (5 + 35 * d + (25 + (2 * h1 + 1))) + 1) * ((if toP D (5 + 35 * d + (25 + (2 * h1 + 1))) = ar d h1 then 1 else 0) - (if frP D (5 + 35 * d + (25 + (2 * h1 + 1))) = ar d h1 then 1 else 0)) < 0
        rw [f1, f2, if_neg (by unfold ar pv; omega), if_pos rfl]
        omega)
      have x0 := (d_x F hi).1
      have hto : toP D i = ar d h1 ∧ 0 < rm (2 * i + 1) := by
        have hp2 : 0 < rm (2 * i + 1) * ((if toP D i = ar d h1 then 1 else 0) - (if frP D i = ar d h1 then 1 else 0)) := hp
        by_cases w : toP D i = ar d h1
        · refine ⟨w, ?_⟩
          by_cases w2 : 0 < rm (2 * i + 1)
          · exact w2
          · have : rm (2 * i + 1) = 0 := by omega
            rw [this, Int.zero_mul] at hp2
            omega
        · exfalso
          rw [if_neg w] at hp2
          have : rm (2 * i + 1) * (0 - (if frP D i = ar d h1 then 1 else 0)) ≤ 0 := Int.mul_nonpos_of_nonneg_of_nonpos x0 (by split <;> omega)
          omega
      rcases kinds D hi with w | ⟨d2, a, b, hd2, ha, hb2, rfl⟩ | ⟨d2, h2, hd2, hh2, rfl⟩ | ⟨d2, h2, hd2, hh2, rfl⟩ | ⟨h2, hh2, rfl⟩
      · have := (k_src D fa bk nd w).2.1
        rw [this] at hto
        have := hto.1
        unfold pv ar at this; omega
      · have := (k_mov D fa bk nd hd2 ha hb2).2.1
        have t1 := hto.1
        rw [this] at t1
        unfold ar at t1
        have ed : d2 = d := by omega
        have eb : b = h1 := by omega
        subst ed; subst eb
        exact ⟨a, ha, hto.2⟩
      · have := (k_need D fa bk nd hd2 hh2).2.1
        have t1 := hto.1
        rw [this] at t1
        unfold pv ar at t1; omega
      · have := (k_idle D fa bk nd hd2 hh2).2.1
        have t1 := hto.1
        rw [this] at t1
        unfold pv ar at t1; omega
      · have := (k_sink D fa bk nd hh2).2.1
        have t1 := hto.1
        rw [this] at t1
        unfold ar at t1; omega
    obtain ⟨a, ha, hxa⟩ := inn
    obtain ⟨g1, g2, g3, -⟩ := k_mov D fa bk nd hd ha hh1
    have in1 := d_bwd F (i := 5 + 35 * d + (5 * a + h1)) (by omega) hxa
    rw [g1, g2, g3] at in1
    have in2 := q1 d a h hd ha hh
    have r1 := hf (5 * a + h) (by omega)
    have r2 := hf (5 * a + h1) (by omega)
    -- and it goes on
    have out : pi (pv (d + 1) h1) ≤ pi (pv (d + 1) h) + 99 := by
      have cs := d_cons F (fun v => if v = pv (d + 1) h1 then 1 else 0)
      have z1 : (if 1 = pv (d + 1) h1 then (1 : Int) else 0) = 0 := if_neg (by unfold pv; omega)
      have z0 : (if 0 = pv (d + 1) h1 then (1 : Int) else 0) = 0 := if_neg (by unfold pv; omega)
      simp only [z1, z0, Int.sub_self, Int.mul_zero] at cs
      obtain ⟨i, hi, hp⟩ := sI_neg_ex (c := 5 + 35 * d + (25 + (2 * h1 + 1))) cs (by omega) (by
        show 0 < rm (2 * (5 + 35 * d + (25 + (2 * h1 + 1))) + 1) * ((if toP D (5 + 35 * d + (25 + (2 * h1 + 1))) = pv (d + 1) h1 then 1 else 0) - (if frP D (5 + 35 * d + (25 + (2 * h1 + 1))) = pv (d + 1) h1 then 1 else 0))
        rw [f1, f2, if_pos rfl, if_neg (by unfold ar pv; omega)]
        omega)
      have x0 := (d_x F hi).1
      have hfr : frP D i = pv (d + 1) h1 ∧ 0 < rm (2 * i + 1) := by
        have hp2 : rm (2 * i + 1) * ((if toP D i = pv (d + 1) h1 then 1 else 0) - (if frP D i = pv (d + 1) h1 then 1 else 0)) < 0 := hp
        by_cases w : frP D i = pv (d + 1) h1
        · refine ⟨w, ?_⟩
          by_cases w2 : 0 < rm (2 * i + 1)
          · exact w2
          · have : rm (2 * i + 1) = 0 := by omega
            rw [this, Int.zero_mul] at hp2
            omega
        · exfalso
          rw [if_neg w] at hp2
          have : 0 ≤ rm (2 * i + 1) * ((if toP D i = pv (d + 1) h1 then 1 else 0) - 0) := Int.mul_nonneg x0 (by split <;> omega)
          omega
      have bw := d_bwd F hi hfr.2
      rcases kinds D hi with w | ⟨d2, a2, b, hd2, ha2, hb2, rfl⟩ | ⟨d2, h2, hd2, hh2, rfl⟩ | ⟨d2, h2, hd2, hh2, rfl⟩ | ⟨h2, hh2, rfl⟩
      · have := (k_src D fa bk nd w).1
        rw [this] at hfr
        have := hfr.1
        unfold pv at this; omega
      · obtain ⟨m1, m2, m3, -⟩ := k_mov D fa bk nd hd2 ha2 hb2
        have t1 := hfr.1
        rw [m1] at t1
        unfold pv at t1
        have ed : d2 = d + 1 := by omega
        have eb : a2 = h1 := by omega
        subst ed; subst eb
        rw [m1, m2, m3] at bw
        have := q1 (d + 1) h b hd2 hh hb2
        have r3 := hf (5 * h + b) (by omega)
        have r4 := hf (5 * a2 + b) (by omega)
        omega
      · have := (k_need D fa bk nd hd2 hh2).1
        have t1 := hfr.1
        rw [this] at t1
        unfold pv ar at t1; omega
      · have := (k_idle D fa bk nd hd2 hh2).1
        have t1 := hfr.1
        rw [this] at t1
        unfold pv ar at t1; omega
      · obtain ⟨m1, m2, m3, -⟩ := k_sink D fa bk nd hh2
        have t1 := hfr.1
        rw [m1] at t1
        unfold pv at t1
        have ed : D = d + 1 := by omega
        have eb : h2 = h1 := by omega
        subst eb
        rw [m1, m2, m3] at bw
        have := q3 h hh
        rw [ed] at bw this
        omega
    omega
/-- the value at the end, by the prices at the end -/
theorem end_val (F : FI (dNet D fa) (cpP D bk nd) rm val sum pi) (hv : val < 1000000) (hsrc : ∀ h, h < 5 → rm (2 * h + 1) = bk h) (hneed : ∀ d h, d < D → h < 5 → rm (2 * (5 + 35 * d + (25 + 2 * h)) + 1) = nd (5 * d + h)) :
    sum = val * pi 1 - sI (fun h => bk h * pi (pv 0 h)) 5 + sI (fun d => sI (fun h => nd (5 * d + h) * (pi (ar d h) - pi (pv (d + 1) h) - 10000000)) 5) D := by
  have c := d_cons F pi
  rw [F.pot.z, Int.sub_zero] at c
  have l := lowD_sum (D := D) (bk := bk) (nd := nd) (p := pi)
  have eq : sI (fun i => rm (2 * i + 1) * (pi (toP D i) - pi (frP D i)) + lowD D bk nd pi i) (10 + 35 * D) = sI (fun i => rm (2 * i + 1) * prP D fa i) (10 + 35 * D) := by
    refine sI_cong _ (fun i hi => ?_)
    obtain ⟨x0, x1, -⟩ := d_x F hi
    have free : cpP D bk nd i = 1000000 → rm (2 * i + 1) * (pi (toP D i) - pi (frP D i)) = rm (2 * i + 1) * prP D fa i := fun e => by
      by_cases w : 0 < rm (2 * i + 1)
      · have b := d_bwd F hi w
        have f := d_fwd F hi (by rw [e]; have := x_le_all F hi; omega)
        congr 1
        omega
      · have : rm (2 * i + 1) = 0 := by omega
        rw [this, Int.zero_mul, Int.zero_mul]
    rcases kinds D hi with h | ⟨d, a, b, hd, ha, hb2, rfl⟩ | ⟨d, h, hd, hh, rfl⟩ | ⟨d, h, hd, hh, rfl⟩ | ⟨h, hh, rfl⟩
    · obtain ⟨e1, e2, e3, e4⟩ := k_src D fa bk nd h
      show rm (2 * i + 1) * (pi (toP D i) - pi (frP D i)) + lowD D bk nd pi i = rm (2 * i + 1) * prP D fa i
      rw [e1, e2, e3, l_src h, F.pot.z, hsrc i h, Int.sub_zero, Int.mul_zero]
      omega
    · obtain ⟨e1, e2, e3, e4⟩ := k_mov D fa bk nd hd ha hb2
      have := free e4
      show rm (2 * (5 + 35 * d + (5 * a + b)) + 1) * (pi (toP D (5 + 35 * d + (5 * a + b))) - pi (frP D (5 + 35 * d + (5 * a + b)))) + lowD D bk nd pi (5 + 35 * d + (5 * a + b)) = rm (2 * (5 + 35 * d + (5 * a + b)) + 1) * prP D fa (5 + 35 * d + (5 * a + b))
      rw [this, l_mov hd (by omega), Int.add_zero]
    · obtain ⟨e1, e2, e3, e4⟩ := k_need D fa bk nd hd hh
      show rm (2 * (5 + 35 * d + (25 + 2 * h)) + 1) * (pi (toP D (5 + 35 * d + (25 + 2 * h))) - pi (frP D (5 + 35 * d + (25 + 2 * h)))) + lowD D bk nd pi (5 + 35 * d + (25 + 2 * h)) = rm (2 * (5 + 35 * d + (25 + 2 * h)) + 1) * prP D fa (5 + 35 * d + (25 + 2 * h))
      rw [e1, e2, e3, l_need hd hh, hneed d h hd hh, ← Int.mul_add]
      congr 1
      omega
    · obtain ⟨e1, e2, e3, e4⟩ := k_idle D fa bk nd hd hh
      have := free e4
      show rm (2 * (5 + 35 * d + (25 + (2 * h + 1))) + 1) * (pi (toP D (5 + 35 * d + (25 + (2 * h + 1)))) - pi (frP D (5 + 35 * d + (25 + (2 * h + 1))))) + lowD D bk nd pi (5 + 35 * d + (25 + (2 * h + 1))) = rm (2 * (5 + 35 * d + (25 + (2 * h + 1))) + 1) * prP D fa (5 + 35 * d + (25 + (2 * h + 1)))
      rw [this, l_idle hd hh, Int.add_zero]
    · obtain ⟨e1, e2, e3, e4⟩ := k_sink D fa bk nd hh
      have := free e4
      show rm (2 * (5 + 35 * D + h) + 1) * (pi (toP D (5 + 35 * D + h)) - pi (frP D (5 + 35 * D + h))) + lowD D bk nd pi (5 + 35 * D + h) = rm (2 * (5 + 35 * D + h) + 1) * prP D fa (5 + 35 * D + h)
      rw [this, l_sink, Int.add_zero]
  rw [sI_add, c, l, d_cost F] at eq
  omega
end dual2
