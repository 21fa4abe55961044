theorem sI_ge1 {f : Nat → Int} {c : Nat} : ∀ k, (∀ j, j < k → f j ≤ 0) → c < k → sI f k ≤ f c
  | 0, _, h => absurd h (by omega)
  | k + 1, h0, h => by
    rw [sI]
    have h1 := h0 k (by omega)
    by_cases q : c = k
    · subst q
      have : sI f c ≤ sI (fun _ => 0) c := sI_le c (fun j hj => h0 j (by omega))
      rw [sI_0] at this
      omega
    · have := sI_ge1 k (fun j hj => h0 j (by omega)) (by omega : c < k)
      omega
theorem sI_lt {f g : Nat → Int} {c : Nat} (k : Nat) (h0 : ∀ j, j < k → f j ≤ g j) (hc : c < k) (h : f c < g c) : sI f k < sI g k := by
  have e : sI (fun j => f j - g j) k ≤ f c - g c := sI_ge1 (f := fun j => f j - g j) k (fun j hj => by have := h0 j hj; show f j - g j ≤ 0; omega) hc
  rw [sI_sub] at e
  omega
theorem sI_neg_ex {f : Nat → Int} {c k : Nat} (h : sI f k = 0) (hc : c < k) (h1 : 0 < f c) : ∃ i, i < k ∧ f i < 0 := by
  by_cases e : ∃ i, i < k ∧ f i < 0
  · exact e
  · exfalso
    have := sI_lt (f := fun _ => 0) (g := f) k (fun j hj => by
      by_cases q : f j < 0
      · exact absurd ⟨j, hj, q⟩ e
      · show 0 ≤ f j
        omega) hc h1
    rw [sI_0] at this
    omega
theorem sI_pos_ex {f : Nat → Int} {c k : Nat} (h : sI f k = 0) (hc : c < k) (h1 : f c < 0) : ∃ i, i < k ∧ 0 < f i := by
  by_cases e : ∃ i, i < k ∧ 0 < f i
  · exact e
  · exfalso
    have := sI_lt (f := f) (g := fun _ => 0) k (fun j hj => by
      by_cases q : 0 < f j
      · exact absurd ⟨j, hj, q⟩ e
      · show f j ≤ 0
        omega) hc h1
    rw [sI_0] at this
    omega
theorem sI_blk (f : Nat → Int) (B : Nat) : ∀ D, sI f (B * D) = sI (fun d => sI (fun r => f (B * d + r)) B) D
  | 0 => by rw [Nat.mul_zero]; rfl
  | D + 1 => by rw [Nat.mul_succ, sI_split, sI, sI_blk f B D]
theorem sI_10 (g : Nat → Int) : sI g 10 = sI (fun h => g (2 * h) + g (2 * h + 1)) 5 := by
  simp only [sI, Nat.mul_zero, Nat.zero_add, Nat.reduceMul, Nat.reduceAdd]
  omega
/-- a sum over all pairs, kind by kind -/
theorem sI_net (f : Nat → Int) (D : Nat) : sI f (10 + 35 * D) = sI f 5 + (sI (fun d => sI (fun r => f (5 + 35 * d + r)) 25 + sI (fun h => f (5 + 35 * d + (25 + 2 * h)) + f (5 + 35 * d + (25 + (2 * h + 1)))) 5) D + sI (fun h => f (5 + 35 * D + h)) 5) := by
  have e : 10 + 35 * D = 5 + (35 * D + 5) := by omega
  rw [e, sI_split, sI_split, sI_blk]
  have e2 : ∀ d, sI (fun r => f (5 + (35 * d + r))) 35 = sI (fun r => f (5 + 35 * d + r)) 25 + sI (fun h => f (5 + 35 * d + (25 + 2 * h)) + f (5 + 35 * d + (25 + (2 * h + 1)))) 5 := fun d => by
    have e3 : 35 = 25 + 10 := rfl
    have e4 : sI (fun r => f (5 + (35 * d + r))) 35 = sI (fun r => f (5 + 35 * d + r)) 35 := sI_cong 35 (fun r _ => by rw [Nat.add_assoc])
    rw [e4]
    have := sI_split (fun r => f (5 + 35 * d + r)) 25 10
    rw [sI_10] at this
    exact this
  rw [sI_cong (f := fun d => sI (fun r => f (5 + (35 * d + r))) 35) D (fun d _ => e2 d)]
  congr 2
  try exact sI_cong 5 (fun h _ => by rw [Nat.add_assoc])
def cutC (c v : Nat) : Int := if v ≠ 1 ∧ v < c then 1 else 0
theorem cut1 {c v : Nat} (h : v ≠ 1) (h2 : v < c) : cutC c v = 1 := by unfold cutC; rw [if_pos ⟨h, h2⟩]
theorem cut0 {c v : Nat} (h : v = 1 ∨ c ≤ v) : cutC c v = 0 := by unfold cutC; rw [if_neg (by omega)]
section dual
variable {D : Nat} {fa bk nd rm pi : Nat → Int} {val sum : Int}
theorem d_cons (F : FI (dNet D fa) (cpP D bk nd) rm val sum pi) (ph : Nat → Int) : sI (fun i => rm (2 * i + 1) * (ph (toP D i) - ph (frP D i))) (10 + 35 * D) = val * (ph 1 - ph 0) := by
  rw [← F.cons ph, d_Lw]
  refine sI_cong _ (fun i _ => ?_)
  show _ = rm (2 * i + 1) * (ph ((dNet D fa).to (2 * i)) - ph ((dNet D fa).fr (2 * i)))
  rw [(d_to i).1, (d_fr i).1]
theorem d_cost (F : FI (dNet D fa) (cpP D bk nd) rm val sum pi) : sI (fun i => rm (2 * i + 1) * prP D fa i) (10 + 35 * D) = sum := by
  rw [← F.cost, d_Lw]
  refine sI_cong _ (fun i _ => ?_)
  show _ = rm (2 * i + 1) * (dNet D fa).pr (2 * i)
  rw [(d_pr i).1]
theorem d_x (F : FI (dNet D fa) (cpP D bk nd) rm val sum pi) {i : Nat} (hi : i < 10 + 35 * D) : 0 ≤ rm (2 * i + 1) ∧ rm (2 * i + 1) ≤ cpP D bk nd i ∧ rm (2 * i) = cpP D bk nd i - rm (2 * i + 1) := by
  have h1 := F.nn (2 * i + 1) (by show 2 * i + 1 < 2 * (10 + 35 * D); omega)
  have h2 := F.nn (2 * i) (by show 2 * i < 2 * (10 + 35 * D); omega)
  have h3 := F.cp i hi
  omega
theorem d_fwd (F : FI (dNet D fa) (cpP D bk nd) rm val sum pi) {i : Nat} (hi : i < 10 + 35 * D) (h : rm (2 * i + 1) < cpP D bk nd i) : pi (toP D i) ≤ prP D fa i + pi (frP D i) := by
  have := F.pot.ok (2 * i) (by show 2 * i < 2 * (10 + 35 * D); omega) (by have := (d_x F hi).2.2; omega)
  rw [(d_pr i).1, (d_to i).1, (d_fr i).1] at this
  omega
theorem d_bwd (F : FI (dNet D fa) (cpP D bk nd) rm val sum pi) {i : Nat} (hi : i < 10 + 35 * D) (h : 0 < rm (2 * i + 1)) : prP D fa i + pi (frP D i) ≤ pi (toP D i) := by
  have := F.pot.ok (2 * i + 1) (by show 2 * i + 1 < 2 * (10 + 35 * D); omega) h
  rw [(d_pr i).2, (d_to i).2, (d_fr i).2] at this
  omega
theorem cut_mono {c i : Nat} (hc : 0 < c) (hi : i < 10 + 35 * D) : cutC c (toP D i) ≤ cutC c (frP D i) := by
  have hle : ∀ v v2 : Nat, v2 ≠ 1 → (v = 1 ∨ v2 ≤ v) → cutC c v ≤ cutC c v2 := fun v v2 h1 h2 => by
    unfold cutC
    by_cases c1 : v ≠ 1 ∧ v < c
    · rw [if_pos c1, if_pos (by omega)]; omega
    · rw [if_neg c1]; split <;> omega
  rcases kinds D hi with h | ⟨d, a, b, hd, ha, hb2, rfl⟩ | ⟨d, h, hd, hh, rfl⟩ | ⟨d, h, hd, hh, rfl⟩ | ⟨h, hh, rfl⟩
  · obtain ⟨e1, e2, -⟩ := k_src D (fun _ => 0) (fun _ => 0) (fun _ => 0) h
    rw [e1, e2]; exact hle _ _ (by omega) (by omega)
  · obtain ⟨e1, e2, -⟩ := k_mov D (fun _ => 0) (fun _ => 0) (fun _ => 0) hd ha hb2
    rw [e1, e2]; unfold pv ar; exact hle _ _ (by omega) (by omega)
  · obtain ⟨e1, e2, -⟩ := k_need D (fun _ => 0) (fun _ => 0) (fun _ => 0) hd hh
    rw [e1, e2]; unfold pv ar; exact hle _ _ (by omega) (by omega)
  · obtain ⟨e1, e2, -⟩ := k_idle D (fun _ => 0) (fun _ => 0) (fun _ => 0) hd hh
    rw [e1, e2]; unfold pv ar; exact hle _ _ (by omega) (by omega)
  · obtain ⟨e1, e2, -⟩ := k_sink D (fun _ => 0) (fun _ => 0) (fun _ => 0) hh
    rw [e1, e2]; unfold pv; exact hle _ _ (by omega) (by omega)
/-- no pair takes more than all -/
theorem x_le (F : FI (dNet D fa) (cpP D bk nd) rm val sum pi) {i c : Nat} (hi : i < 10 + 35 * D) (hc : 0 < c) (h1 : cutC c (frP D i) = 1) (h0 : cutC c (toP D i) = 0) : rm (2 * i + 1) ≤ val := by
  have e := d_cons F (cutC c)
  have b : sI (fun i => rm (2 * i + 1) * (cutC c (toP D i) - cutC c (frP D i))) (10 + 35 * D) ≤ rm (2 * i + 1) * (cutC c (toP D i) - cutC c (frP D i)) := sI_ge1 (f := fun i => rm (2 * i + 1) * (cutC c (toP D i) - cutC c (frP D i))) (c := i) _ (fun j hj => by
    have h2 := (d_x F hj).1
    have h3 := cut_mono (D := D) hc hj
    exact Int.mul_nonpos_of_nonneg_of_nonpos h2 (by omega)) hi
  have z1 : cutC c 1 = 0 := cut0 (Or.inl rfl)
  have z0 : cutC c 0 = 1 := cut1 (by omega) hc
  rw [e, h1, h0, z1, z0] at b
  omega
theorem x_le_all (F : FI (dNet D fa) (cpP D bk nd) rm val sum pi) {i : Nat} (hi : i < 10 + 35 * D) : rm (2 * i + 1) ≤ val := by
  rcases kinds D hi with h | ⟨d, a, b, hd, ha, hb2, rfl⟩ | ⟨d, h, hd, hh, rfl⟩ | ⟨d, h, hd, hh, rfl⟩ | ⟨h, hh, rfl⟩
  · obtain ⟨e1, e2, -⟩ := k_src D fa fa fa h
    exact x_le (c := 2) F hi (by omega) (by rw [e1]; exact cut1 (by omega) (by omega)) (by rw [e2]; exact cut0 (by unfold pv; omega))
  · obtain ⟨e1, e2, -⟩ := k_mov D fa fa fa hd ha hb2
    exact x_le (c := 10 * d + 7) F hi (by omega) (by rw [e1]; exact cut1 (by unfold pv; omega) (by unfold pv; omega)) (by rw [e2]; exact cut0 (by unfold ar; omega))
  · obtain ⟨e1, e2, -⟩ := k_need D fa fa fa hd hh
    exact x_le (c := 10 * d + 12) F hi (by omega) (by rw [e1]; exact cut1 (by unfold ar; omega) (by unfold ar; omega)) (by rw [e2]; exact cut0 (by unfold pv; omega))
  · obtain ⟨e1, e2, -⟩ := k_idle D fa fa fa hd hh
    exact x_le (c := 10 * d + 12) F hi (by omega) (by rw [e1]; exact cut1 (by unfold ar; omega) (by unfold ar; omega)) (by rw [e2]; exact cut0 (by unfold pv; omega))
  · obtain ⟨e1, e2, -⟩ := k_sink D fa fa fa hh
    exact x_le (c := 10 * D + 7) F hi (by omega) (by rw [e1]; exact cut1 (by unfold pv; omega) (by unfold pv; omega)) (by rw [e2]; exact cut0 (Or.inl rfl))
/-- all that flows leaves node 0, and goes through each day -/
theorem val_src (F : FI (dNet D fa) (cpP D bk nd) rm val sum pi) : val = sI (fun h => rm (2 * h + 1)) 5 := by
  have e := d_cons F (cutC 2)
  rw [sI_net] at e
  have z : ∀ {v : Nat}, 2 ≤ v → cutC 2 v = 0 := fun h => cut0 (Or.inr h)
  have s1 : sI (fun i => rm (2 * i + 1) * (cutC 2 (toP D i) - cutC 2 (frP D i))) 5 = - sI (fun h => rm (2 * h + 1)) 5 := by
    have : (fun h => rm (2 * h + 1) * (-1)) = fun h => rm (2 * h + 1) * (-1) := rfl
    rw [sI_cong (g := fun h => rm (2 * h + 1) * (-1)) 5 (fun h hh => by
      obtain ⟨e1, e2, -⟩ := k_src D fa fa fa hh
      show rm (2 * h + 1) * (cutC 2 (toP D h) - cutC 2 (frP D h)) = rm (2 * h + 1) * (-1)
      rw [e1, e2, z (by unfold pv; omega), cut1 (by omega) (by omega)]
      rfl), sI_mulr]
    omega
  have s2 : sI (fun d => sI (fun r => rm (2 * (5 + 35 * d + r) + 1) * (cutC 2 (toP D (5 + 35 * d + r)) - cutC 2 (frP D (5 + 35 * d + r)))) 25 + sI (fun h => rm (2 * (5 + 35 * d + (25 + 2 * h)) + 1) * (cutC 2 (toP D (5 + 35 * d + (25 + 2 * h))) - cutC 2 (frP D (5 + 35 * d + (25 + 2 * h)))) + rm (2 * (5 + 35 * d + (25 + (2 * h + 1))) + 1) * (cutC 2 (toP D (5 + 35 * d + (25 + (2 * h + 1)))) - cutC 2 (frP D (5 + 35 * d + (25 + (2 * h + 1)))))) 5) D = 0 := by
    rw [sI_cong (g := fun _ => 0) D (fun d hd => by
      rw [sI_cong (g := fun _ => 0) 25 (fun r hr => by
        obtain ⟨e1, e2, -⟩ := k_mov D fa fa fa hd (show r / 5 < 5 by omega) (show r % 5 < 5 by omega)
        have er : 5 * (r / 5) + r % 5 = r := by omega
        rw [er] at e1 e2
        show rm (2 * (5 + 35 * d + r) + 1) * (cutC 2 (toP D (5 + 35 * d + r)) - cutC 2 (frP D (5 + 35 * d + r))) = 0
        rw [e1, e2, z (v := ar d (r % 5)) (by unfold ar; omega), z (v := pv d (r / 5)) (by unfold pv; omega)]
        simp), sI_cong (g := fun _ => 0) 5 (fun h hh => by
        obtain ⟨e1, e2, -⟩ := k_need D fa fa fa hd hh
        obtain ⟨e3, e4, -⟩ := k_idle D fa fa fa hd hh
        show rm (2 * (5 + 35 * d + (25 + 2 * h)) + 1) * (cutC 2 (toP D (5 + 35 * d + (25 + 2 * h))) - cutC 2 (frP D (5 + 35 * d + (25 + 2 * h)))) + rm (2 * (5 + 35 * d + (25 + (2 * h + 1))) + 1) * (cutC 2 (toP D (5 + 35 * d + (25 + (2 * h + 1)))) - cutC 2 (frP D (5 + 35 * d + (25 + (2 * h + 1))))) = 0
        rw [e1, e2, e3, e4, z (by unfold pv; omega), z (by unfold ar; omega)]
        simp), sI_0, sI_0]
      rfl), sI_0]
  have s3 : sI (fun h => rm (2 * (5 + 35 * D + h) + 1) * (cutC 2 (toP D (5 + 35 * D + h)) - cutC 2 (frP D (5 + 35 * D + h)))) 5 = 0 := by
    rw [sI_cong (g := fun _ => 0) 5 (fun h hh => by
      obtain ⟨e1, e2, -⟩ := k_sink D fa fa fa hh
      show rm (2 * (5 + 35 * D + h) + 1) * (cutC 2 (toP D (5 + 35 * D + h)) - cutC 2 (frP D (5 + 35 * D + h))) = 0
      rw [e1, e2, cut0 (v := 1) (Or.inl rfl), z (v := pv D h) (by unfold pv; omega)]
      simp), sI_0]
  rw [s1, s2, s3, cut0 (v := 1) (Or.inl rfl), cut1 (v := 0) (by omega) (by omega)] at e
  omega
theorem val_day (F : FI (dNet D fa) (cpP D bk nd) rm val sum pi) {d : Nat} (hd : d < D) : val = sI (fun h => rm (2 * (5 + 35 * d + (25 + 2 * h)) + 1) + rm (2 * (5 + 35 * d + (25 + (2 * h + 1))) + 1)) 5 := by
  have e := d_cons F (cutC (10 * d + 12))
  rw [sI_net] at e
  have s1 : sI (fun i => rm (2 * i + 1) * (cutC (10 * d + 12) (toP D i) - cutC (10 * d + 12) (frP D i))) 5 = 0 := by
    rw [sI_cong (g := fun _ => 0) 5 (fun h hh => by
      obtain ⟨e1, e2, -⟩ := k_src D fa fa fa hh
      show rm (2 * h + 1) * (cutC (10 * d + 12) (toP D h) - cutC (10 * d + 12) (frP D h)) = 0
      rw [e1, e2, cut1 (by unfold pv; omega) (by unfold pv; omega), cut1 (by omega) (by omega)]
      simp), sI_0]
  have s3 : sI (fun h => rm (2 * (5 + 35 * D + h) + 1) * (cutC (10 * d + 12) (toP D (5 + 35 * D + h)) - cutC (10 * d + 12) (frP D (5 + 35 * D + h)))) 5 = 0 := by
    rw [sI_cong (g := fun _ => 0) 5 (fun h hh => by
      obtain ⟨e1, e2, -⟩ := k_sink D fa fa fa hh
      show rm (2 * (5 + 35 * D + h) + 1) * (cutC (10 * d + 12) (toP D (5 + 35 * D + h)) - cutC (10 * d + 12) (frP D (5 + 35 * D + h))) = 0
      rw [e1, e2, cut0 (v := 1) (Or.inl rfl), cut0 (v := pv D h) (by unfold pv; omega)]
      simp), sI_0]
  have blk : ∀ d2, d2 < D → sI (fun r => rm (2 * (5 + 35 * d2 + r) + 1) * (cutC (10 * d + 12) (toP D (5 + 35 * d2 + r)) - cutC (10 * d + 12) (frP D (5 + 35 * d2 + r)))) 25 + sI (fun h => rm (2 * (5 + 35 * d2 + (25 + 2 * h)) + 1) * (cutC (10 * d + 12) (toP D (5 + 35 * d2 + (25 + 2 * h))) - cutC (10 * d + 12) (frP D (5 + 35 * d2 + (25 + 2 * h)))) + rm (2 * (5 + 35 * d2 + (25 + (2 * h + 1))) + 1) * (cutC (10 * d + 12) (toP D (5 + 35 * d2 + (25 + (2 * h + 1)))) - cutC (10 * d + 12) (frP D (5 + 35 * d2 + (25 + (2 * h + 1)))))) 5 = if d2 = d then - sI (fun h => rm (2 * (5 + 35 * d + (25 + 2 * h)) + 1) + rm (2 * (5 + 35 * d + (25 + (2 * h + 1))) + 1)) 5 else 0 := by
    intro d2 hd2
    have m : sI (fun r => rm (2 * (5 + 35 * d2 + r) + 1) * (cutC (10 * d + 12) (toP D (5 + 35 * d2 + r)) - cutC (10 * d + 12) (frP D (5 + 35 * d2 + r)))) 25 = 0 := by
      rw [sI_cong (g := fun _ => 0) 25 (fun r hr => by
        obtain ⟨e1, e2, -⟩ := k_mov D fa fa fa hd2 (show r / 5 < 5 by omega) (show r % 5 < 5 by omega)
        have er : 5 * (r / 5) + r % 5 = r := by omega
        rw [er] at e1 e2
        show rm (2 * (5 + 35 * d2 + r) + 1) * (cutC (10 * d + 12) (toP D (5 + 35 * d2 + r)) - cutC (10 * d + 12) (frP D (5 + 35 * d2 + r))) = 0
        rw [e1, e2]
        by_cases c : d2 ≤ d
        · rw [cut1 (by unfold ar; omega) (by unfold ar; omega), cut1 (by unfold pv; omega) (by unfold pv; omega)]; simp
        · rw [cut0 (by unfold ar; omega), cut0 (by unfold pv; omega)]; simp), sI_0]
    rw [m, Int.zero_add]
    by_cases c : d2 = d
    · subst c
      rw [if_pos rfl]
      rw [sI_cong (g := fun h => (rm (2 * (5 + 35 * d2 + (25 + 2 * h)) + 1) + rm (2 * (5 + 35 * d2 + (25 + (2 * h + 1))) + 1)) * (-1)) 5 (fun h hh => by
        obtain ⟨e1, e2, -⟩ := k_need D fa fa fa hd2 hh
        obtain ⟨e3, e4, -⟩ := k_idle D fa fa fa hd2 hh
        show rm (2 * (5 + 35 * d2 + (25 + 2 * h)) + 1) * (cutC (10 * d2 + 12) (toP D (5 + 35 * d2 + (25 + 2 * h))) - cutC (10 * d2 + 12) (frP D (5 + 35 * d2 + (25 + 2 * h)))) + rm (2 * (5 + 35 * d2 + (25 + (2 * h + 1))) + 1) * (cutC (10 * d2 + 12) (toP D (5 + 35 * d2 + (25 + (2 * h + 1)))) - cutC (10 * d2 + 12) (frP D (5 + 35 * d2 + (25 + (2 * h + 1))))) = (rm (2 * (5 + 35 * d2 + (25 + 2 * h)) + 1) + rm (2 * (5 + 35 * d2 + (25 + (2 * h + 1))) + 1)) * (-1)
        rw [e1, e2, e3, e4, cut0 (v := pv (d2 + 1) h) (by unfold pv; omega), cut1 (v := ar d2 h) (by unfold ar; omega) (by unfold ar; omega)]
        omega), sI_mulr]
      omega
    · rw [if_neg c]
      rw [sI_cong (g := fun _ => 0) 5 (fun h hh => by
        obtain ⟨e1, e2, -⟩ := k_need D fa fa fa hd2 hh
        obtain ⟨e3, e4, -⟩ := k_idle D fa fa fa hd2 hh
        show rm (2 * (5 + 35 * d2 + (25 + 2 * h)) + 1) * (cutC (10 * d + 12) (toP D (5 + 35 * d2 + (25 + 2 * h))) - cutC (10 * d + 12) (frP D (5 + 35 * d2 + (25 + 2 * h)))) + rm (2 * (5 + 35 * d2 + (25 + (2 * h + 1))) + 1) * (cutC (10 * d + 12) (toP D (5 + 35 * d2 + (25 + (2 * h + 1)))) - cutC (10 * d + 12) (frP D (5 + 35 * d2 + (25 + (2 * h + 1))))) = 0
        rw [e1, e2, e3, e4]
        by_cases c2 : d2 < d
        · rw [cut1 (v := pv (d2 + 1) h) (by unfold pv; omega) (by unfold pv; omega), cut1 (v := ar d2 h) (by unfold ar; omega) (by unfold ar; omega)]; simp
        · rw [cut0 (v := pv (d2 + 1) h) (by unfold pv; omega), cut0 (v := ar d2 h) (by unfold ar; omega)]; simp), sI_0]
  rw [s1, s3, sI_cong (g := fun d2 => if d2 = d then - sI (fun h => rm (2 * (5 + 35 * d + (25 + 2 * h)) + 1) + rm (2 * (5 + 35 * d + (25 + (2 * h + 1))) + 1)) 5 else 0) D (fun d2 hd2 => blk d2 hd2)] at e
  rw [sI_one (f := fun d2 => if d2 = d then - sI (fun h => rm (2 * (5 + 35 * d + (25 + 2 * h)) + 1) + rm (2 * (5 + 35 * d + (25 + (2 * h + 1))) + 1)) 5 else 0) (g := fun _ => 0) (c := d) D hd (fun j _ hj => by simp [hj]), sI_0] at e
  simp only [if_true] at e
  rw [cut0 (v := 1) (Or.inl rfl), cut1 (v := 0) (by omega) (by omega)] at e
  omega
end dual
