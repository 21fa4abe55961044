section cc
variable {kd_low kd_high : Nat → Int32} {kd_size m_kinds : Int32} {m_low m_high : Nat → Int32} {st_booked st_parted m_book m_ledger : Nat → Int32} {ev_day ev_house ev_kind ev_need ev_on : Nat → Int32} {ev_size m_events : Int32} {m_eventDay m_eventHouse m_eventKind m_eventNeed m_isOff : Nat → Int32} {ca_far m_farness : Nat → Int32}
variable {ca_farInGoes ca_served ca_rank ca_price ca_sent ca_spare ca_unmet ca_wayToSource ca_wayToEvent ca_aheadOfSource ca_aheadOfEvent : Nat → Int32} {ca_size : Int32}
variable {m_days m_edges : Int32} {m_day m_need m_edgeFrom m_edgeTo m_room m_came : Nat → Int32} {m_price m_far : Nat → Int64}
theorem RF_ok (hF : RF ca_far m_farness) : FarOk (fun i => (ca_far i).toInt) := by
  obtain ⟨-, h1, h2⟩ := hF
  refine ⟨fun i _ => h1 i, fun a ha => ?_⟩
  have := h2 a ha
  have e : 5 * a + a = a * 5 + a := by omega
  show (ca_far (5 * a + a)).toInt = 0
  rw [e, this]
  rfl
theorem RE_day (hE : RE ev_day ev_house ev_kind ev_need ev_on ev_size m_events m_eventDay m_eventHouse m_eventKind m_eventNeed m_isOff) : ∀ e : Nat, (e : Int) < ev_size.toInt → 0 ≤ (ev_day e).toInt := by
  obtain ⟨-, -, -, hj, -⟩ := hE
  exact fun e he => (hj e he).1.1
theorem eq_carried {C : (Nat → Int32) → (Nat → Int32) → (Nat → Int32) → Int32 → (Nat → Int32) → (Nat → Int32) → (Nat → Int32) → (Nat → Int32) → (Nat → Int32) → (Nat → Int32) → (Nat → Int32) → (Nat → Int32) → Int32 → (Nat → Int32) → (Nat → Int32) → Int32 → (Nat → Int32) → (Nat → Int32) → (Nat → Int32) → (Nat → Int64) → (Nat → Int64) → (Nat → Int32) → Prop}
    (hK : RK kd_low kd_high kd_size m_kinds m_low m_high) (hB : RB st_booked st_parted m_book m_ledger) (hE : RE ev_day ev_house ev_kind ev_need ev_on ev_size m_events m_eventDay m_eventHouse m_eventKind m_eventNeed m_isOff) (hF : RF ca_far m_farness)
    (hC : ∀ a1 a2 a3 a4 a5 a6 a7 a8 a9 a10 a11 a12 b1 b2 b3 b4 b5 b6 b7 b8 b9 b10, C a1 a2 a3 a4 a5 a6 a7 a8 a9 a10 a11 a12 b1 b2 b3 b4 b5 b6 b7 b8 b9 b10) (p1 : Int32) :
    P_X10_carried (fun r a1 a2 a3 a4 a5 a6 a7 a8 a9 a10 a11 a12 => P_X11_carried (fun r2 b1 b2 b3 b4 b5 b6 b7 b8 b9 b10 => ((r = r2 → C a1 a2 a3 a4 a5 a6 a7 a8 a9 a10 a11 a12 b1 b2 b3 b4 b5 b6 b7 b8 b9 b10) ∧ (¬ r = r2 → False))) p1 m_kinds m_book m_farness m_events m_eventDay m_eventHouse m_eventKind m_eventNeed m_isOff m_days m_day m_need m_edges m_edgeFrom m_edgeTo m_room m_price m_far m_came) p1 kd_size st_booked ev_day ev_house ev_kind ev_need ev_on ev_size ca_far ca_farInGoes ca_served ca_rank ca_size ca_price ca_sent ca_spare ca_unmet ca_wayToSource ca_wayToEvent ca_aheadOfSource ca_aheadOfEvent := by
  have fo := RF_ok hF
  have hday := RE_day hE
  obtain ⟨rfl, -, -, k0, k6, -⟩ := hK
  obtain ⟨rfl, -, hb, -⟩ := hB
  obtain ⟨rfl, -, -⟩ := hF
  obtain ⟨N, hN, rfl, rfl, rfl, rfl, rfl, rfl, hoff, hhs, hne, -⟩ := RE_ok hE
  have hdy : ∀ e, e < N → 0 ≤ (m_eventDay e).toInt := fun e he => hday e (by rw [nI_toInt (by omega)]; omega)
  unfold P_X10_carried
  rw [has_iff _ _ _ (by omega)]
  by_cases h1 : 0 ≤ p1.toInt ∧ p1.toInt ≤ m_kinds.toInt - 1
  · obtain ⟨K, eK, rfl⟩ : ∃ K : Nat, p1.toInt = K ∧ p1 = nI K := ⟨p1.toInt.toNat, by omega, nI_as (by omega)⟩
    rw [bz_t h1]
    refine ⟨fun z => absurd z (by decide), fun _ => ?_⟩
    refine leastFor_i (fa := fun i => (m_farness i).toInt) hN (by omega) fo (fun i _ => rfl) hb hhs hne hdy (fun r b1 b2 b3 b4 b5 b6 b7 b8 b9 b10 b11 b12 hI => ?_)
    unfold P_X11_carried
    dsimp only
    rw [isKd_iff _ _ _ (by omega), bz_t h1]
    refine ⟨fun z => absurd z (by decide), fun _ => ?_⟩
    refine carriedOf_i (fa := fun i => (m_farness i).toInt) (ev_on := ev_on) hN (by omega) fo (fun i _ => rfl) hb hoff hhs hne hI (fun c1 c2 c3 c4 c5 c6 c7 c8 c9 c10 => ?_)
    exact ⟨fun _ => hC _ _ _ _ _ _ _ _ _ _ _ _ _ _ _ _ _ _ _ _ _ _, fun z => z rfl⟩
  · rw [bz_f h1]
    refine ⟨fun _ => ?_, fun z => absurd rfl z⟩
    unfold P_X11_carried
    dsimp only
    rw [isKd_iff _ _ _ (by omega), bz_f h1]
    exact ⟨fun _ => ⟨fun _ => hC _ _ _ _ _ _ _ _ _ _ _ _ _ _ _ _ _ _ _ _ _ _, fun z => z rfl⟩, fun z => absurd rfl z⟩
theorem eq_costs {C : (Nat → Int32) → (Nat → Int32) → (Nat → Int32) → Int32 → (Nat → Int32) → (Nat → Int32) → (Nat → Int32) → (Nat → Int32) → (Nat → Int32) → (Nat → Int32) → (Nat → Int32) → (Nat → Int32) → Int32 → (Nat → Int32) → (Nat → Int32) → Int32 → (Nat → Int32) → (Nat → Int32) → (Nat → Int32) → (Nat → Int64) → (Nat → Int64) → (Nat → Int32) → Prop}
    (hB : RB st_booked st_parted m_book m_ledger) (hE : RE ev_day ev_house ev_kind ev_need ev_on ev_size m_events m_eventDay m_eventHouse m_eventKind m_eventNeed m_isOff) (hF : RF ca_far m_farness)
    (hC : ∀ a1 a2 a3 a4 a5 a6 a7 a8 a9 a10 a11 a12 b1 b2 b3 b4 b5 b6 b7 b8 b9 b10, C a1 a2 a3 a4 a5 a6 a7 a8 a9 a10 a11 a12 b1 b2 b3 b4 b5 b6 b7 b8 b9 b10) (p1 : Int32) :
    P_X10_costs (fun r a1 a2 a3 a4 a5 a6 a7 a8 a9 a10 a11 a12 => P_X11_costs (fun r2 b1 b2 b3 b4 b5 b6 b7 b8 b9 b10 => ((r = r2 → C a1 a2 a3 a4 a5 a6 a7 a8 a9 a10 a11 a12 b1 b2 b3 b4 b5 b6 b7 b8 b9 b10) ∧ (¬ r = r2 → False))) p1 m_book m_farness m_events m_eventDay m_eventHouse m_eventKind m_eventNeed m_isOff m_days m_day m_need m_edges m_edgeFrom m_edgeTo m_room m_price m_far m_came) p1 st_booked ev_day ev_house ev_kind ev_need ev_on ev_size ca_far ca_farInGoes ca_served ca_rank ca_size ca_price ca_sent ca_spare ca_unmet ca_wayToSource ca_wayToEvent ca_aheadOfSource ca_aheadOfEvent := by
  have fo := RF_ok hF
  have hday := RE_day hE
  obtain ⟨rfl, -, hb, -⟩ := hB
  obtain ⟨rfl, -, -⟩ := hF
  obtain ⟨N, hN, rfl, rfl, rfl, rfl, rfl, rfl, hoff, hhs, hne, hkd⟩ := RE_ok hE
  have hdy : ∀ e, e < N → 0 ≤ (m_eventDay e).toInt := fun e he => hday e (by rw [nI_toInt (by omega)]; omega)
  have eN : (nI N).toInt = N := nI_toInt (by omega)
  have es : (nI N - 1).toInt = (N : Int) - 1 := by rw [sub1 (by omega), eN]
  have hP : ∀ post : Int32 → Prop, P_X3_has post p1 (nI N) ↔ post (bz (0 ≤ p1.toInt ∧ p1.toInt ≤ (N : Int) - 1)) := fun post => by
    simp +decide only [P_X3_has, es, within_iff, in_iff, all_eq, bz_0, bz_1, bzT, bzF, nem, bz_or, i64, Int32.reduceToInt, Int64.reduceToInt, and_true, true_and, and_self, not_true_eq_false, not_false_eq_true, false_implies, true_implies, eq_self, implies_true, false_and, and_false, Classical.not_not, Int.reduceLT, Int.reduceLE, Int.reduceEq, reduceIte, reduceCtorEq, and_imp, imp_false, false_or, or_false, true_or, or_true]
  unfold P_X10_costs
  rw [hP]
  have hin : ∀ post : Int32 → Prop, P_X11_in post p1.toInt64 (0 : Int64) (nI N - 1).toInt64 ↔ post (bz (0 ≤ p1.toInt ∧ p1.toInt ≤ (N : Int) - 1)) := fun post => by
    simp +decide only [es, within_iff, in_iff, all_eq, bz_0, bz_1, bzT, bzF, nem, bz_or, i64, Int32.reduceToInt, Int64.reduceToInt, and_true, true_and, and_self, not_true_eq_false, not_false_eq_true, false_implies, true_implies, eq_self, implies_true, false_and, and_false, Classical.not_not, Int.reduceLT, Int.reduceLE, Int.reduceEq, reduceIte, reduceCtorEq, and_imp, imp_false, false_or, or_false, true_or, or_true]
  by_cases h1 : 0 ≤ p1.toInt ∧ p1.toInt ≤ (N : Int) - 1
  · obtain ⟨e, ee, rfl⟩ : ∃ e : Nat, p1.toInt = e ∧ p1 = nI e := ⟨p1.toInt.toNat, by omega, nI_as (by omega)⟩
    have heN : e < N := by omega
    obtain ⟨K, eK, eK2⟩ : ∃ K : Nat, (m_eventKind e).toInt = K ∧ m_eventKind e = nI K := ⟨(m_eventKind e).toInt.toNat, by have := hkd e heN; omega, nI_as (hkd e heN).1⟩
    have hK5 : K ≤ 5 := by have := hkd e heN; omega
    have ho := hoff e heN
    rw [bz_t h1]
    refine ⟨fun z => absurd z (by decide), fun _ => ⟨nIv (by omega) (by omega), ?_⟩⟩
    rw [nIc (i := e) (by omega)]
    refine ⟨fun z => ?_, fun z y ey => ?_⟩
    · unfold P_X11_costs
      dsimp only
      rw [hin, bz_t h1]
      refine ⟨fun z => absurd z (by decide), fun _ => ⟨nIv (by omega) (by omega), fun w => ?_, fun _ => ⟨fun _ => hC _ _ _ _ _ _ _ _ _ _ _ _ _ _ _ _ _ _ _ _ _ _, fun z => z rfl⟩⟩⟩
      rw [nIc (i := e) (by omega)] at w
      exact absurd z (ho.mp w)
    · rw [ey, eK2]
      refine leastFor_i (fa := fun i => (m_farness i).toInt) hN hK5 fo (fun i _ => rfl) hb hhs hne hdy (fun r b1 b2 b3 b4 b5 b6 b7 b8 b9 b10 b11 b12 hI => ?_)
      have tail : ∀ (R : Int32) (a1 a2 a3 : Nat → Int32) (a4 : Int32) (a5 a6 a7 a8 a9 a10 a11 a12 : Nat → Int32), (r = -9 → R = -9) → (¬ r = -9 → ∃ r3, IsC m_eventDay m_eventHouse m_eventKind m_eventNeed ev_on N m_book K (fun i => (m_farness i).toInt) (nI e) r3 ∧ R = r - r3) → P_X11_costs (fun r2 b1 b2 b3 b4 b5 b6 b7 b8 b9 b10 => ((R = r2 → C a1 a2 a3 a4 a5 a6 a7 a8 a9 a10 a11 a12 b1 b2 b3 b4 b5 b6 b7 b8 b9 b10) ∧ (¬ R = r2 → False))) (nI e) m_book m_farness (nI N) m_eventDay m_eventHouse m_eventKind m_eventNeed m_isOff m_days m_day m_need m_edges m_edgeFrom m_edgeTo m_room m_price m_far m_came := by
        intro R a1 a2 a3 a4 a5 a6 a7 a8 a9 a10 a11 a12 g1 g2
        unfold P_X11_costs
        dsimp only
        rw [hin, bz_t h1]
        refine ⟨fun z => absurd z (by decide), fun _ => ⟨nIv (by omega) (by omega), ?_⟩⟩
        rw [nIc (i := e) (by omega), eK2]
        refine ⟨fun _ => ?_, fun w => absurd (ho.mpr z) w⟩
        refine carriedOf_i (fa := fun i => (m_farness i).toInt) (ev_on := ev_on) hN hK5 fo (fun i _ => rfl) hb hoff hhs hne hI (fun c1 c2 c3 c4 c5 c6 c7 c8 c9 c10 => ?_)
        refine ⟨fun w => ?_, fun w => ?_⟩
        · exact ⟨fun _ => hC _ _ _ _ _ _ _ _ _ _ _ _ _ _ _ _ _ _ _ _ _ _, fun z => z (g1 w)⟩
        · obtain ⟨r3, hI3, eR⟩ := g2 w
          refine carriedOf_i (fa := fun i => (m_farness i).toInt) (ev_on := ev_on) hN hK5 fo (fun i _ => rfl) hb hoff hhs hne hI3 (fun d1 d2 d3 d4 d5 d6 d7 d8 d9 d10 => ?_)
          exact ⟨fun _ => hC _ _ _ _ _ _ _ _ _ _ _ _ _ _ _ _ _ _ _ _ _ _, fun z => z eR⟩
      refine ⟨fun w => tail _ _ _ _ _ _ _ _ _ _ _ _ _ (fun _ => rfl) (fun w2 => absurd w w2), fun w => ?_⟩
      refine leastFor_i (fa := fun i => (m_farness i).toInt) hN hK5 fo (fun i _ => rfl) hb hhs hne hdy (fun r3 d1 d2 d3 d4 d5 d6 d7 d8 d9 d10 d11 d12 hI3 => ?_)
      exact tail _ _ _ _ _ _ _ _ _ _ _ _ _ (fun w2 => absurd w2 w) (fun _ => ⟨r3, hI3, rfl⟩)
  · rw [bz_f h1]
    refine ⟨fun _ => ?_, fun z => absurd rfl z⟩
    unfold P_X11_costs
    dsimp only
    rw [hin, bz_f h1]
    exact ⟨fun _ => ⟨fun _ => hC _ _ _ _ _ _ _ _ _ _ _ _ _ _ _ _ _ _ _ _ _ _, fun z => z rfl⟩, fun z => absurd rfl z⟩
end cc
