section lf
variable {ev_day ev_house ev_kind ev_need ev_on m_isOff : Nat → Int32} {N K : Nat} {st ca_far : Nat → Int32} {fa : Nat → Int} {wo : Int32}
/-- what is to be answered for a KIND, without one EVENT -/
def IsC (ev_day ev_house ev_kind ev_need ev_on : Nat → Int32) (N : Nat) (st : Nat → Int32) (K : Nat) (fa : Nat → Int) (wo r : Int32) : Prop :=
  ∃ n sv, GA N (actE ev_on ev_kind (nI K) wo) (fun e => (ev_day e).toInt) n sv ∧
    ((r = -9 ∧ ∀ D dd, GD N (actE ev_on ev_kind (nI K) wo) (fun e => (ev_day e).toInt) D dd → ∃ d, d < D ∧ sI (fun a => bkV st K a) 5 < dayQ (fun e => (ev_day e).toInt) sv (fun j => (ev_need (sv j)).toInt) n d) ∨
     ((∀ D dd, GD N (actE ev_on ev_kind (nI K) wo) (fun e => (ev_day e).toInt) D dd → ∀ d, d < D → dayQ (fun e => (ev_day e).toInt) sv (fun j => (ev_need (sv j)).toInt) n d ≤ sI (fun a => bkV st K a) 5) ∧
      ∃ sentZ spareZ unmetZ u w, FT (5 + n) n (pcT fa (rkN (fun e => (ev_day e).toInt) sv) (fun j => (ev_house (sv j)).toInt.toNat)) (fun s => if s < 5 then bkV st K s else (ev_need (sv (s - 5))).toInt) (fun j => (ev_need (sv j)).toInt) sentZ spareZ unmetZ r.toInt u w ∧ ∀ j, j < n → unmetZ j = 0))
theorem rk_lt12 {dy : Nat → Int} {sv : Nat → Nat} : ∀ i, rkN dy sv i ≤ i
  | 0 => Nat.le_refl _
  | i + 1 => by have := rk_lt12 (dy := dy) (sv := sv) i; rw [rkN]; split <;> omega
theorem leastFor_i {post : Int32 → (Nat → Int32) → (Nat → Int32) → (Nat → Int32) → Int32 → (Nat → Int32) → (Nat → Int32) → (Nat → Int32) → (Nat → Int32) → (Nat → Int32) → (Nat → Int32) → (Nat → Int32) → (Nat → Int32) → Prop} {a1 a2 a3 a5 a6 a7 a8 a9 a10 a11 a12 : Nat → Int32} {a4 : Int32} (hN : N ≤ 12) (hK : K ≤ 5) (h : FarOk fa) (hfa : ∀ i, i < 25 → (ca_far i).toInt = fa i) (hb : ∀ i : Nat, 0 ≤ (st i).toInt ∧ (st i).toInt ≤ 999) (hhs : ∀ e, e < N → 0 ≤ (ev_house e).toInt ∧ (ev_house e).toInt ≤ 4) (hne : ∀ e, e < N → 0 ≤ (ev_need e).toInt ∧ (ev_need e).toInt ≤ 500) (hdy : ∀ e, e < N → 0 ≤ (ev_day e).toInt)
    (hp : ∀ r b1 b2 b3 b4 b5 b6 b7 b8 b9 b10 b11 b12, IsC ev_day ev_house ev_kind ev_need ev_on N st K fa wo r → post r b1 b2 b3 b4 b5 b6 b7 b8 b9 b10 b11 b12) : P_X2_leastFor post (nI K) wo st ev_day ev_house ev_kind ev_need ev_on (nI N) ca_far a1 a2 a3 a4 a5 a6 a7 a8 a9 a10 a11 a12 := by
  have e9 : (-9 : Int32).toInt = -9 := by decide
  unfold P_X2_leastFor
  refine gather_i hN (fun n sv s2 r2 A hs hr => ?_)
  refine bookedOf_i hb hK (fun pieces hpc => ?_)
  have hn : n ≤ N := A.2.2.2.2
  have svN : ∀ j, j < n → sv j < N := fun j hj => (A.1 j hj).1
  have rk12 : ∀ j, j < n → rkN (fun e => (ev_day e).toInt) sv j < 12 := fun j hj => by
    have := rk_lt12 (dy := fun e => (ev_day e).toInt) (sv := sv) j
    omega
  refine shortDay_i (dy := fun e => (ev_day e).toInt) (sv := sv) (by omega) (fun j hj => by have := svN j hj; omega) hs hr rk12 (fun j hj => hne _ (svN j hj)) (fun hall => ?_) (fun j hj hgt hall => ?_)
  · refine ⟨fun _ => ?_, fun z => absurd rfl z⟩
    have hgh : ∀ j, j < n → (ev_house (sv j)).toInt.toNat < 5 := fun j hj => by have := hhs _ (svN j hj); omega
    refine layWays_i h hfa (fun f hG => ?_)
    refine setOut_i (fa := fa) (sv := sv) (rk := rkN (fun e => (ev_day e).toInt) sv) (gh := fun j => (ev_house (sv j)).toInt.toNat) hK (by omega) hG hs (fun i hi => by have := svN i hi; omega) hr rk12 (fun i hi => nI_as (hhs _ (svN i hi)).1) hgh (fun price2 sent2 spare2 unmet2 g1 g2 g3 g4 g5 => ?_)
    refine sendAll_i (fa := fa) (bk := fun a => bkV st K a) (q := fun j => (ev_need (sv j)).toInt) (rk := rkN (fun e => (ev_day e).toInt) sv) (gh := fun j => (ev_house (sv j)).toInt.toNat) (by omega) h hgh (fun i j hij => rk_le hij) (fun j hj => hne _ (svN j hj)) (fun a _ => hb _) (fun to hto => ?_) g1 g2 (fun s hs => ?_) (fun j hj => by rw [g5 j hj]) (fun r b6 b7 b8 b9 b10 b11 b12 sentZ spareZ unmetZ u w F hz => ?_)
    · obtain ⟨i, i1, i2, i3⟩ := day_pre (dy := fun e => (ev_day e).toInt) (sv := sv) (n := n) (fun j => (ev_need (sv j)).toInt) (d := rkN (fun e => (ev_day e).toInt) sv to) ⟨to, hto, rfl⟩
      have := hall i i1
      rw [← i3, hpc] at this
      exact this
    · show _ = if s < 5 then bkV st K s else (ev_need (sv (s - 5))).toInt
      by_cases c : s < 5
      · rw [if_pos c, g3 s c]; rfl
      · obtain ⟨i, rfl⟩ : ∃ i, s = 5 + i := ⟨s - 5, by omega⟩
        have e : 5 + i - 5 = i := by omega
        rw [if_neg c, e, g4 i (by omega)]
    · refine hp r _ _ _ _ _ _ _ _ _ _ _ _ ⟨n, sv, A, Or.inr ⟨fun D dd B d hd => ?_, sentZ, spareZ, unmetZ, u, w, F, hz⟩⟩
      obtain ⟨i, i1, i2, i3⟩ := day_pre (dy := fun e => (ev_day e).toInt) (sv := sv) (n := n) (fun j => (ev_need (sv j)).toInt) (rk_ex A B hd)
      rw [i3, ← hpc]; exact hall i i1
  · have d0 := hdy _ (svN j hj)
    refine ⟨fun z => ?_, fun _ => ?_⟩
    · rw [fa_eq, e9] at z; omega
    · refine hp _ _ _ _ _ _ _ _ _ _ _ _ _ ⟨n, sv, A, Or.inl ⟨rfl, fun D dd B => ⟨_, (rk_day A B j hj).1, ?_⟩⟩⟩
      have := pre_le (dy := fun e => (ev_day e).toInt) (sv := sv) (n := n) (q := fun j => (ev_need (sv j)).toInt) (fun j hj => (hne _ (svN j hj)).1) hj
      rw [← hpc]
      omega
theorem carriedOf_i {post : Int32 → Int32 → (Nat → Int32) → (Nat → Int32) → Int32 → (Nat → Int32) → (Nat → Int32) → (Nat → Int32) → (Nat → Int64) → (Nat → Int64) → (Nat → Int32) → Prop} {m_days m_edges : Int32} {m_day m_need ef et rm came : Nat → Int32} {pc far : Nat → Int64} {r : Int32} (hN : N ≤ 12) (hK : K ≤ 5) (h : FarOk fa) (hfa : ∀ i, i < 25 → (ca_far i).toInt = fa i) (hb : ∀ i : Nat, 0 ≤ (st i).toInt ∧ (st i).toInt ≤ 999) (hoff : ∀ e, e < N → (m_isOff e = 0 ↔ ¬ ev_on e = 0)) (hhs : ∀ e, e < N → 0 ≤ (ev_house e).toInt ∧ (ev_house e).toInt ≤ 4) (hne : ∀ e, e < N → 0 ≤ (ev_need e).toInt ∧ (ev_need e).toInt ≤ 500)
    (hI : IsC ev_day ev_house ev_kind ev_need ev_on N st K fa wo r) (hp : ∀ b1 b2 b3 b4 b5 b6 b7 b8 b9 b10, post r b1 b2 b3 b4 b5 b6 b7 b8 b9 b10) : P_X11_carriedOf post (nI K) wo st ca_far (nI N) ev_day ev_house ev_kind ev_need m_isOff m_days m_day m_need m_edges ef et rm pc far came := by
  obtain ⟨n, sv, A, hcase⟩ := hI
  have hn : n ≤ N := A.2.2.2.2
  have svN : ∀ j, j < n → sv j < N := fun j hj => (A.1 j hj).1
  have m7 : (10000000 : Int64).toInt = 10000000 := by decide
  have z64 : (0 : Int64).toInt = 0 := by decide
  unfold P_X11_carriedOf
  intro X hX
  refine layDays_i hN hoff hhs hne (fun D dd day2 nd2 B hd hnd hz => ?_)
  have hD : D ≤ N := B.2.2.2
  have rg : ∀ i, i < 60 → 0 ≤ (nd2 i).toInt ∧ (nd2 i).toInt ≤ 6000 := fun i hi => by
    by_cases c : i < 5 * D
    · have e : 5 * (i / 5) + i % 5 = i := by omega
      have := hnd (i / 5) (i % 5) (by omega) (by omega)
      rw [e] at this
      rw [this]
      have := ndV_rng (act := actE ev_on ev_kind (nI K) wo) (dy := fun e => (ev_day e).toInt) (dd := dd) (hs := fun e => (ev_house e).toInt.toNat) (ne := fun e => (ev_need e).toInt) (d := i / 5) (h := i % 5) N hne
      omega
    · rw [hz i (by omega) hi]
      have : (0 : Int32).toInt = 0 := by decide
      omega
  have hsum : ∀ m, m ≤ 60 → 0 ≤ sI (fun i => (nd2 i).toInt) m ∧ sI (fun i => (nd2 i).toInt) m ≤ 6000 * m := by
    intro m
    induction m with
    | zero => intro _; rw [sI]; decide
    | succ m ih =>
      intro hm
      have := ih (by omega)
      have := rg m (by omega)
      rw [sI]
      omega
  refine layNet_i (D := D) (fa := fa) (bk := fun a => bkV st K a) (nd := fun i => (nd2 i).toInt) (by omega) hK hfa h.1 (fun a _ => rfl) (fun i _ => rfl) (fun ef2 et2 rm2 pc2 L => ?_)
  -- all that is needed, twice
  have hgh : ∀ j, j < n → (ev_house (sv j)).toInt.toNat < 5 := fun j hj => by have := hhs _ (svN j hj); omega
  have hnj : ∀ d a, d < D → a < 5 → (fun i => (nd2 i).toInt) (5 * d + a) = sI (fun j => if rkN (fun e => (ev_day e).toInt) sv j = d ∧ (ev_house (sv j)).toInt.toNat = a then (ev_need (sv j)).toInt else 0) n := fun d a h1 h2 => by
    show (nd2 (5 * d + a)).toInt = _
    rw [hnd d a h1 h2, nd_j A B h1]
  have hds : ∀ d, d < D → sI (fun a => (fun i => (nd2 i).toInt) (5 * d + a)) 5 = dayQ (fun e => (ev_day e).toInt) sv (fun j => (ev_need (sv j)).toInt) n d := fun d h1 => by
    rw [← day_sum (ne := fun e => (ev_need e).toInt) (hs := fun e => (ev_house e).toInt.toNat) A B (fun e he => by
      have := hhs e he
      show (ev_house e).toInt.toNat < 5
      omega) h1]
    exact sI_cong 5 (fun a ha => hnd d a h1 ha)
  have all60 : sI (fun i => (nd2 i).toInt) 60 = sI (fun d => sI (fun a => (fun i => (nd2 i).toInt) (5 * d + a)) 5) D := by
    have e : 60 = 5 * D + (60 - 5 * D) := by omega
    have s1 : sI (fun i => (nd2 i).toInt) 60 = sI (fun i => (nd2 i).toInt) (5 * D) + sI (fun t => (nd2 (5 * D + t)).toInt) (60 - 5 * D) := by rw [← sI_split]; congr 1
    have s2 : sI (fun t => (nd2 (5 * D + t)).toInt) (60 - 5 * D) = 0 := by
      rw [sI_cong (g := fun _ => 0) _ (fun t ht => by
        show (nd2 (5 * D + t)).toInt = 0
        rw [hz _ (by omega) (by omega)]; rfl), sI_0]
    rw [s1, s2, Int.add_zero, sI_blk]
  have allq : sI (fun i => (nd2 i).toInt) 60 = sI (fun j => (ev_need (sv j)).toInt) n := by
    rw [all60]
    have := bridge (n := n) (D := D) (r := rkN (fun e => (ev_day e).toInt) sv) (g := fun j => (ev_house (sv j)).toInt.toNat) (q := fun j => (ev_need (sv j)).toInt) (nd := fun i => (nd2 i).toInt) (fun j hj => (rk_day A B j hj).1) hgh hnj (fun _ _ => 1)
    simp only [Int.mul_one] at this
    exact this
  have fin : ∀ x3 : Int64, x3.toInt = sI (fun i => (nd2 i).toInt) 60 → P_X11_flow (fun r_10 m_room_11 m_far_12 m_came_13 => ∀ y_14 : Int64, y_14 = (r_10 + ((10000000 : Int64) * x3)) → ∀ v_16 : Int32, v_16 = (if (lg_cmp y_14 (10000000 : Int64)) < (0 : Int32) then y_14.toInt32 else (-9 : Int32)) → post v_16 (nI D) day2 nd2 (nI (2 * (10 + 35 * D))) ef2 et2 m_room_11 pc2 m_far_12 m_came_13) (nI D) (nI (2 * (10 + 35 * D))) ef2 et2 rm2 pc2 far came := by
    intro x3 hx3
    have hs60 := hsum 60 (Nat.le_refl _)
    refine flow_i (D := D) (fa := fa) (bk := fun a => bkV st K a) (nd := fun i => (nd2 i).toInt) (by omega) h.1 (fun a _ => hb _) (fun i hi => by
      have := rg i (by omega)
      show 0 ≤ (nd2 i).toInt ∧ (nd2 i).toInt ≤ 1000000
      omega) L (fun s room far2 came2 rmZ val sum pi hs F hsrc => ?_)
    intro y ey v ev
    have sr := sum_rng (by omega) h.1 (fun i hi => by
      rcases kinds D hi with w | ⟨d, a, b, hd2, ha, hb2, rfl⟩ | ⟨d, a, hd2, hh, rfl⟩ | ⟨d, a, hd2, hh, rfl⟩ | ⟨a, hh, rfl⟩
      · rw [(k_src D fa _ _ w).2.2.2]
        have := hb (6 * i + K)
        show bkV st K i ≤ 1000000
        unfold bkV
        omega
      · rw [(k_mov D fa _ _ hd2 ha hb2).2.2.2]; omega
      · rw [(k_need D fa _ _ hd2 hh).2.2.2]
        have := rg (5 * d + a) (by omega)
        show (nd2 (5 * d + a)).toInt ≤ 1000000
        omega
      · rw [(k_idle D fa _ _ hd2 hh).2.2.2]; omega
      · rw [(k_sink D fa _ _ hh).2.2.2]; omega) F
    have mu : ((10000000 : Int64) * x3).toInt = 10000000 * sI (fun i => (nd2 i).toInt) 60 := by
      rw [fb_mulL (by rw [m7, hx3]; omega) (by rw [m7, hx3]; omega), m7, hx3]
    have hy : y.toInt = sum + 10000000 * sI (fun i => (nd2 i).toInt) 60 := by
      rw [ey, fb_addL (by rw [mu, hs]; omega) (by rw [mu, hs]; omega), mu, hs]
    have vle : val < 1000000 := by
      rw [val_src F]
      have : sI (fun a => rmZ (2 * a + 1)) 5 ≤ sI (fun _ => 999) 5 := sI_le 5 (fun a ha => by
        have := hb (6 * a + K)
        show rmZ (2 * a + 1) ≤ 999
        rw [hsrc a ha]
        show bkV st K a ≤ 999
        unfold bkV
        omega)
      have e : sI (fun _ => (999 : Int)) 5 = 4995 := by decide
      omega
    have vsum : val = sI (fun a => bkV st K a) 5 := by
      rw [val_src F]
      exact sI_cong 5 (fun a ha => hsrc a ha)
    have lgv : lg_cmp y (10000000 : Int64) < (0 : Int32) ↔ y.toInt < 10000000 := by rw [lg_lt, m7]
    have hv : v = r := by
      rcases hcase with ⟨e9, hsh⟩ | ⟨hok, sentZ, spareZ, unmetZ, u, w, FT1, hz0⟩
      · obtain ⟨d, hd2, hgt⟩ := hsh D dd B
        have sv1 := short_val h F hd2 (by rw [hds d hd2]; exact hgt)
        rw [← all60] at sv1
        rw [ev, if_neg (fun z => by have := lgv.mp z; omega), e9]
      · have hneed : ∀ d a, d < D → a < 5 → rmZ (2 * (5 + 35 * d + (25 + 2 * a)) + 1) = (fun i => (nd2 i).toInt) (5 * d + a) := fun d a h1 h2 => sated F vle h.1 h1 (by rw [hds d h1, vsum]; exact hok D dd B d h1) h2
        have sv1 := same_val (r := rkN (fun e => (ev_day e).toInt) sv) (g := fun j => (ev_house (sv j)).toInt.toNat) (q := fun j => (ev_need (sv j)).toInt) h (fun j hj => (rk_day A B j hj).1) hgh hnj (fun j hj => (hne _ (svN j hj)).1) F vle hsrc hneed FT1 hz0
        have tr := tot_rng FT1
        have tr : 0 ≤ r.toInt ∧ r.toInt ≤ 400 * sI (fun j => (ev_need (sv j)).toInt) n := tr
        have nq : ∀ m, m ≤ n → sI (fun j => (ev_need (sv j)).toInt) m ≤ 500 * m := by
          intro m
          induction m with
          | zero => intro _; rw [sI]; decide
          | succ m ih =>
            intro hm
            have := ih (by omega)
            have := hne _ (svN m (by omega))
            rw [sI]
            omega
        have nq := nq n (Nat.le_refl _)
        have yr : y.toInt = r.toInt := by rw [hy, allq]; exact sv1
        rw [ev, if_pos (lgv.mpr (by omega)), fa_eq]
        have hyl : y = lN r.toInt.toNat := by rw [fa_eq64, pk_lT (by omega), yr]; omega
        rw [hyl, lN_i, nI_toInt (by omega)]
        omega
    rw [hv]
    exact hp _ _ _ _ _ _ _ _ _ _
  have sums : ∀ k i : Nat, i + k = 60 → ∀ x3 : Int64, x3.toInt = sI (fun i => (nd2 i).toInt) i → X x3 (nI i) (nI D) day2 nd2 (nI (2 * (10 + 35 * D))) ef2 et2 rm2 pc2 far came := by
    intro k
    induction k with
    | zero =>
      intro i hi x3 hx
      have e : i = 60 := by omega
      subst e
      apply hX
      have c : (60 : Int32) ≤ nI 60 := by decide
      exact ⟨fun _ => fin x3 hx, fun z => absurd c z⟩
    | succ k ih =>
      intro i hi x3 hx
      have ih := ih (i + 1) (by omega)
      apply hX
      have c : ¬ (60 : Int32) ≤ nI i := fun z => by have := (nI_leI (a := 60) (by omega) (by omega)).mp z; omega
      refine ⟨fun z => absurd z c, fun _ => ⟨nIv (by omega) (by omega), fun y ey y2 ey2 => ?_⟩⟩
      rw [nI_1] at ey2
      subst ey2
      refine ih y ?_
      have s1 := hsum i (by omega)
      have r1 := rg i (by omega)
      have e1 : ((nd2 i).toInt64).toInt = (nd2 i).toInt := i64 _
      rw [ey, nIc (by omega), sI, fb_addL (by rw [hx, e1]; omega) (by rw [hx, e1]; omega), hx, e1]
  exact sums 60 0 (by omega) 0 z64
end lf
