theorem lit (n : Nat) (h : n < 1000000) : (Int32.ofNat n).toInt = n := Int32.toInt_ofNat_of_lt (by omega)
theorem part_no {h k w : Int32} (h1 : 0 ≤ h.toInt ∧ h.toInt ≤ 4) (h2 : 0 ≤ k.toInt ∧ k.toInt ≤ 5) (h3 : 0 ≤ w.toInt ∧ w.toInt ≤ 2) : ((h * 6 + k) * 3 + w).toInt = h.toInt * 18 + k.toInt * 3 + w.toInt ∧ (h * 6 + k) * 3 + w = 18 * h + 3 * k + w := by
  obtain ⟨e1, -⟩ := cell_no h1 h2
  have e3 : (3 : Int32).toInt = 3 := by decide
  have e18 : (18 : Int32).toInt = 18 := by decide
  have a1 : ((h * 6 + k) * 3).toInt = (h.toInt * 6 + k.toInt) * 3 := by rw [mul_c (by omega) (by omega) (by decide) (by decide), e3, e1]
  have a2 : ((h * 6 + k) * 3 + w).toInt = (h.toInt * 6 + k.toInt) * 3 + w.toInt := by rw [fb_addI (by omega) (by omega), a1]
  have b1 : (18 * h).toInt = 18 * h.toInt := by rw [mul_c (by decide) (by decide) (by omega) (by omega), e18]
  have b2 : (3 * k).toInt = 3 * k.toInt := by rw [mul_c (by decide) (by decide) (by omega) (by omega), e3]
  have b3 : (18 * h + 3 * k).toInt = 18 * h.toInt + 3 * k.toInt := by rw [fb_addI (by omega) (by omega), b1, b2]
  have b4 : (18 * h + 3 * k + w).toInt = 18 * h.toInt + 3 * k.toInt + w.toInt := by rw [fb_addI (by omega) (by omega), b3]
  refine ⟨by omega, ?_⟩
  rw [fa_eq, a2, b4]; omega
theorem eq_ledger {C : (Nat → Int32) → (Nat → Int32) → Prop} {kd_low kd_high : Nat → Int32} {kd_size m_kinds : Int32} {m_low m_high st_booked st_parted m_book m_ledger : Nat → Int32} (hK : RK kd_low kd_high kd_size m_kinds m_low m_high) (hB : RB st_booked st_parted m_book m_ledger) (hC : ∀ a b, RB st_booked a m_book b → C a b) (p1 p2 p3 p4 : Int32) :
    P_X10_ledger (fun r a => P_X11_ledger (fun r2 b => ((r = r2 → C a b) ∧ (¬ r = r2 → False))) p1 p2 p3 p4 m_kinds m_ledger) p1 p2 p3 p4 kd_size st_parted := by
  have hB0 := hB
  obtain ⟨rfl, -, -, k0, k6, -⟩ := hK
  obtain ⟨rfl, rfl, hb, hp⟩ := hB
  have hm : -2147483648 < m_kinds.toInt := by omega
  by_cases h1 : 0 ≤ p1.toInt ∧ p1.toInt ≤ 4
  · by_cases h2 : 0 ≤ p2.toInt ∧ p2.toInt ≤ m_kinds.toInt - 1
    · by_cases h3 : 0 ≤ p3.toInt ∧ p3.toInt ≤ 2
      · by_cases h4 : 0 ≤ p4.toInt ∧ p4.toInt ≤ 999
        · obtain ⟨e1, e2⟩ := part_no h1 ⟨h2.1, by omega⟩ h3
          have h5 : vp_in ((p1 * 6 + p2) * 3 + p3) 90 := vp_in_iff.mpr (by omega)
          simp +decide only [P_X10_ledger, P_X11_ledger, P_X10_cell, P_X8_setParted, cell_iff _ _ _ _ hm, house_iff, isKind_iff _ _ _ hm, h1, h2, h3, h4, ← e2, h5, within_iff, in_iff, all_eq, bz_0, bz_1, bzT, bzF, nem, bz_or, i64, Int32.reduceToInt, Int64.reduceToInt, and_true, true_and, and_self, not_true_eq_false, not_false_eq_true, false_implies, true_implies, eq_self, implies_true, false_and, and_false, Classical.not_not, Int.reduceLT, Int.reduceLE, Int.reduceEq, reduceIte, reduceCtorEq, and_imp, imp_false, false_or, or_false, true_or, or_true]
          refine hC _ _ ⟨rfl, rfl, hb, fun i => ?_⟩
          rw [upd_at]; split
          · exact h4
          · exact hp i
        · simp +decide only [P_X10_ledger, P_X11_ledger, cell_iff _ _ _ _ hm, house_iff, isKind_iff _ _ _ hm, h1, h2, h3, h4, within_iff, in_iff, all_eq, bz_0, bz_1, bzT, bzF, nem, bz_or, i64, Int32.reduceToInt, Int64.reduceToInt, and_true, true_and, and_self, not_true_eq_false, not_false_eq_true, false_implies, true_implies, eq_self, implies_true, false_and, and_false, Classical.not_not, Int.reduceLT, Int.reduceLE, Int.reduceEq, reduceIte, reduceCtorEq, and_imp, imp_false, false_or, or_false, true_or, or_true]
          exact hC _ _ hB0
      · simp +decide only [P_X10_ledger, P_X11_ledger, cell_iff _ _ _ _ hm, house_iff, isKind_iff _ _ _ hm, h1, h2, h3, within_iff, in_iff, all_eq, bz_0, bz_1, bzT, bzF, nem, bz_or, i64, Int32.reduceToInt, Int64.reduceToInt, and_true, true_and, and_self, not_true_eq_false, not_false_eq_true, false_implies, true_implies, eq_self, implies_true, false_and, and_false, Classical.not_not, Int.reduceLT, Int.reduceLE, Int.reduceEq, reduceIte, reduceCtorEq, and_imp, imp_false, false_or, or_false, true_or, or_true]
        exact hC _ _ hB0
    · simp +decide only [P_X10_ledger, P_X11_ledger, cell_iff _ _ _ _ hm, house_iff, isKind_iff _ _ _ hm, h1, h2, within_iff, in_iff, all_eq, bz_0, bz_1, bzT, bzF, nem, bz_or, i64, Int32.reduceToInt, Int64.reduceToInt, and_true, true_and, and_self, not_true_eq_false, not_false_eq_true, false_implies, true_implies, eq_self, implies_true, false_and, and_false, Classical.not_not, Int.reduceLT, Int.reduceLE, Int.reduceEq, reduceIte, reduceCtorEq, and_imp, imp_false, false_or, or_false, true_or, or_true]
      exact hC _ _ hB0
  · simp +decide only [P_X10_ledger, P_X11_ledger, cell_iff _ _ _ _ hm, house_iff, isKind_iff _ _ _ hm, h1, within_iff, in_iff, all_eq, bz_0, bz_1, bzT, bzF, nem, bz_or, i64, Int32.reduceToInt, Int64.reduceToInt, and_true, true_and, and_self, not_true_eq_false, not_false_eq_true, false_implies, true_implies, eq_self, implies_true, false_and, and_false, Classical.not_not, Int.reduceLT, Int.reduceLE, Int.reduceEq, reduceIte, reduceCtorEq, and_imp, imp_false, false_or, or_false, true_or, or_true]
    exact hC _ _ hB0
/-- FARNESS alike -/
def RF (ca_far m_farness : Nat → Int32) : Prop := m_farness = ca_far ∧ (∀ i : Nat, 0 ≤ (ca_far i).toInt ∧ (ca_far i).toInt ≤ 99) ∧ ∀ a : Nat, a < 5 → ca_far (a * 5 + a) = 0
theorem houseX_iff (post : Int32 → Prop) (h : Int32) : P_X10_isHouse post h ↔ post (bz (0 ≤ h.toInt ∧ h.toInt ≤ 4)) := by
  simp +decide only [P_X10_isHouse, within_iff, in_iff, all_eq, bz_0, bz_1, bzT, bzF, nem, bz_or, i64, Int32.reduceToInt, Int64.reduceToInt, and_true, true_and, and_self, not_true_eq_false, not_false_eq_true, false_implies, true_implies, eq_self, implies_true, false_and, and_false, Classical.not_not, Int.reduceLT, Int.reduceLE, Int.reduceEq, reduceIte, reduceCtorEq, and_imp, imp_false, false_or, or_false, true_or, or_true]
theorem far_no {a b : Int32} (h1 : 0 ≤ a.toInt ∧ a.toInt ≤ 4) (h2 : 0 ≤ b.toInt ∧ b.toInt ≤ 4) : (a * 5 + b).toInt = a.toInt * 5 + b.toInt ∧ a * 5 + b = 5 * a + b := by
  have e6 : (5 : Int32).toInt = 5 := by decide
  have e1 : (a * 5).toInt = a.toInt * 5 := by rw [mul_c (by omega) (by omega) (by decide) (by decide), e6]
  refine ⟨by rw [fb_addI (by omega) (by omega), e1], by rw [Int32.mul_comm]⟩
theorem eq_farness {C : (Nat → Int32) → (Nat → Int32) → Prop} {ca_far m_farness : Nat → Int32} (hF : RF ca_far m_farness) (hC : ∀ a b, RF a b → C a b) (p1 p2 p3 : Int32) :
    P_X10_farness (fun r a => P_X11_farness (fun r2 b => ((r = r2 → C a b) ∧ (¬ r = r2 → False))) p1 p2 p3 m_farness) p1 p2 p3 ca_far := by
  have hF0 := hF
  obtain ⟨rfl, hb, hz⟩ := hF
  by_cases h1 : 0 ≤ p1.toInt ∧ p1.toInt ≤ 4
  · by_cases h2 : 0 ≤ p2.toInt ∧ p2.toInt ≤ 4
    · by_cases h3 : 0 ≤ p3.toInt ∧ p3.toInt ≤ 99
      · by_cases h4 : p1 = p2
        · simp +decide only [P_X10_farness, P_X11_farness, houseX_iff, house_iff, h1, h2, h3, h4, within_iff, in_iff, all_eq, bz_0, bz_1, bzT, bzF, nem, bz_or, i64, Int32.reduceToInt, Int64.reduceToInt, and_true, true_and, and_self, not_true_eq_false, not_false_eq_true, false_implies, true_implies, eq_self, implies_true, false_and, and_false, Classical.not_not, Int.reduceLT, Int.reduceLE, Int.reduceEq, reduceIte, reduceCtorEq, and_imp, imp_false, false_or, or_false, true_or, or_true]
          exact hC _ _ hF0
        · obtain ⟨e1, e2⟩ := far_no h1 h2
          obtain ⟨e3, e4⟩ := far_no h2 h1
          have h5 : vp_in (p1 * 5 + p2) 25 := vp_in_iff.mpr (by omega)
          have h6 : vp_in (p2 * 5 + p1) 25 := vp_in_iff.mpr (by omega)
          have hne : p1.toInt ≠ p2.toInt := fun e => h4 ((fa_eq _ _).mpr e)
          simp +decide only [P_X10_farness, P_X11_farness, P_X2_setFar, houseX_iff, house_iff, h1, h2, h3, h4, ← e2, ← e4, h5, h6, within_iff, in_iff, all_eq, bz_0, bz_1, bzT, bzF, nem, bz_or, i64, Int32.reduceToInt, Int64.reduceToInt, and_true, true_and, and_self, not_true_eq_false, not_false_eq_true, false_implies, true_implies, eq_self, implies_true, false_and, and_false, Classical.not_not, Int.reduceLT, Int.reduceLE, Int.reduceEq, reduceIte, reduceCtorEq, and_imp, imp_false, false_or, or_false, true_or, or_true]
          refine hC _ _ ⟨rfl, fun i => ?_, fun a ha => ?_⟩
          · rw [upd_at, upd_at]; split
            · exact h3
            · split
              · exact h3
              · exact hb i
          · rw [upd_at, upd_at, cl, cl, if_neg (by omega), if_neg (by omega)]; exact hz a ha
      · simp +decide only [P_X10_farness, P_X11_farness, houseX_iff, house_iff, h1, h2, h3, within_iff, in_iff, all_eq, bz_0, bz_1, bzT, bzF, nem, bz_or, i64, Int32.reduceToInt, Int64.reduceToInt, and_true, true_and, and_self, not_true_eq_false, not_false_eq_true, false_implies, true_implies, eq_self, implies_true, false_and, and_false, Classical.not_not, Int.reduceLT, Int.reduceLE, Int.reduceEq, reduceIte, reduceCtorEq, and_imp, imp_false, false_or, or_false, true_or, or_true]
        exact hC _ _ hF0
    · simp +decide only [P_X10_farness, P_X11_farness, houseX_iff, house_iff, h1, h2, within_iff, in_iff, all_eq, bz_0, bz_1, bzT, bzF, nem, bz_or, i64, Int32.reduceToInt, Int64.reduceToInt, and_true, true_and, and_self, not_true_eq_false, not_false_eq_true, false_implies, true_implies, eq_self, implies_true, false_and, and_false, Classical.not_not, Int.reduceLT, Int.reduceLE, Int.reduceEq, reduceIte, reduceCtorEq, and_imp, imp_false, false_or, or_false, true_or, or_true]
      exact hC _ _ hF0
  · simp +decide only [P_X10_farness, P_X11_farness, houseX_iff, house_iff, h1, within_iff, in_iff, all_eq, bz_0, bz_1, bzT, bzF, nem, bz_or, i64, Int32.reduceToInt, Int64.reduceToInt, and_true, true_and, and_self, not_true_eq_false, not_false_eq_true, false_implies, true_implies, eq_self, implies_true, false_and, and_false, Classical.not_not, Int.reduceLT, Int.reduceLE, Int.reduceEq, reduceIte, reduceCtorEq, and_imp, imp_false, false_or, or_false, true_or, or_true]
    exact hC _ _ hF0
/-- EVENTS alike -/
def RE (ev_day ev_house ev_kind ev_need ev_on : Nat → Int32) (ev_size m_events : Int32) (m_eventDay m_eventHouse m_eventKind m_eventNeed m_isOff : Nat → Int32) : Prop :=
  (m_events = ev_size ∧ m_eventDay = ev_day ∧ m_eventHouse = ev_house ∧ m_eventKind = ev_kind ∧ m_eventNeed = ev_need) ∧ 0 ≤ ev_size.toInt ∧ ev_size.toInt ≤ 12 ∧
  (∀ j : Nat, (j : Int) < ev_size.toInt → (0 ≤ (ev_day j).toInt ∧ (ev_day j).toInt ≤ 999) ∧ (0 ≤ (ev_house j).toInt ∧ (ev_house j).toInt ≤ 4) ∧ (0 ≤ (ev_kind j).toInt ∧ (ev_kind j).toInt ≤ 5) ∧ (1 ≤ (ev_need j).toInt ∧ (ev_need j).toInt ≤ 500) ∧ ((ev_on j = 1 ∧ m_isOff j = 0) ∨ (ev_on j = 0 ∧ m_isOff j = 1))) ∧
  ∀ j : Nat, ev_size.toInt ≤ (j : Int) → m_isOff j = 0
theorem eq_event {C : (Nat → Int32) → (Nat → Int32) → (Nat → Int32) → (Nat → Int32) → (Nat → Int32) → Int32 → Int32 → (Nat → Int32) → (Nat → Int32) → (Nat → Int32) → (Nat → Int32) → Prop} {kd_low kd_high : Nat → Int32} {kd_size m_kinds : Int32} {m_low m_high : Nat → Int32} {ev_day ev_house ev_kind ev_need ev_on : Nat → Int32} {ev_size m_events : Int32} {m_eventDay m_eventHouse m_eventKind m_eventNeed m_isOff : Nat → Int32} (hK : RK kd_low kd_high kd_size m_kinds m_low m_high) (hE : RE ev_day ev_house ev_kind ev_need ev_on ev_size m_events m_eventDay m_eventHouse m_eventKind m_eventNeed m_isOff)
    (hC : ∀ a b c d e f g h i j k, RE a b c d e f g h i j k m_isOff → C a b c d e f g h i j k) (p1 p2 p3 p4 : Int32) :
    P_X10_event (fun r a b c d e f => P_X11_event (fun r2 g h i j k => ((r = r2 → C a b c d e f g h i j k) ∧ (¬ r = r2 → False))) p1 p2 p3 p4 m_kinds m_events m_eventDay m_eventHouse m_eventKind m_eventNeed) p1 p2 p3 p4 kd_size ev_day ev_house ev_kind ev_need ev_on ev_size := by
  have hE0 := hE
  obtain ⟨rfl, -, -, k0, k6, -⟩ := hK
  obtain ⟨⟨rfl, rfl, rfl, rfl, rfl⟩, z0, z12, hj, hf⟩ := hE
  have hm : -2147483648 < m_kinds.toInt := by omega
  have e6 : m_events = 12 ↔ m_events.toInt = 12 := fa_eq _ _
  have l6 : m_events < 12 ↔ m_events.toInt < 12 := fa_lt _ _
  by_cases h1 : 0 ≤ p2.toInt ∧ p2.toInt ≤ 4
  · by_cases h2 : 0 ≤ p3.toInt ∧ p3.toInt ≤ m_kinds.toInt - 1
    · by_cases h3 : 0 ≤ p1.toInt ∧ p1.toInt ≤ 999
      · by_cases h4 : 1 ≤ p4.toInt ∧ p4.toInt ≤ 500
        · by_cases h5 : m_events.toInt = 12
          · have h6 : ¬ m_events.toInt < 12 := by omega
            simp +decide only [P_X10_event, P_X11_event, cell_iff _ _ _ _ hm, house_iff, isKind_iff _ _ _ hm, h1, h2, h3, h4, e6, l6, h5, h6, within_iff, in_iff, all_eq, bz_0, bz_1, bzT, bzF, nem, bz_or, i64, Int32.reduceToInt, Int64.reduceToInt, and_true, true_and, and_self, not_true_eq_false, not_false_eq_true, false_implies, true_implies, eq_self, implies_true, false_and, and_false, Classical.not_not, Int.reduceLT, Int.reduceLE, Int.reduceEq, reduceIte, reduceCtorEq, and_imp, imp_false, false_or, or_false, true_or, or_true]
            exact hC _ _ _ _ _ _ _ _ _ _ _ hE0
          · have h6 : m_events.toInt < 12 := by omega
            have h7 : vp_in m_events 12 := vp_in_iff.mpr ⟨z0, h6⟩
            have ea : (m_events + 1).toInt = m_events.toInt + 1 := add1 (by omega)
            simp +decide only [P_X10_event, P_X11_event, P_X3_add, cell_iff _ _ _ _ hm, house_iff, isKind_iff _ _ _ hm, h1, h2, h3, h4, e6, l6, h5, h6, h7, nar1, within_iff, in_iff, all_eq, bz_0, bz_1, bzT, bzF, nem, bz_or, i64, Int32.reduceToInt, Int64.reduceToInt, and_true, true_and, and_self, not_true_eq_false, not_false_eq_true, false_implies, true_implies, eq_self, implies_true, false_and, and_false, Classical.not_not, Int.reduceLT, Int.reduceLE, Int.reduceEq, reduceIte, reduceCtorEq, and_imp, imp_false, false_or, or_false, true_or, or_true]
            refine hC _ _ _ _ _ _ _ _ _ _ _ ⟨⟨rfl, rfl, rfl, rfl, rfl⟩, by omega, by omega, fun j hj2 => ?_, fun j hj2 => hf j (by omega)⟩
            rw [upd_at, upd_at, upd_at, upd_at, upd_at, cl]
            by_cases e : j = m_events.toInt.toNat
            · rw [if_pos e, if_pos e, if_pos e, if_pos e, if_pos e]
              exact ⟨h3, h1, ⟨h2.1, by omega⟩, h4, Or.inl ⟨rfl, hf j (by omega)⟩⟩
            · rw [if_neg e, if_neg e, if_neg e, if_neg e, if_neg e]
              exact hj j (by omega)
        · simp +decide only [P_X10_event, P_X11_event, cell_iff _ _ _ _ hm, house_iff, isKind_iff _ _ _ hm, h1, h2, h3, h4, within_iff, in_iff, all_eq, bz_0, bz_1, bzT, bzF, nem, bz_or, i64, Int32.reduceToInt, Int64.reduceToInt, and_true, true_and, and_self, not_true_eq_false, not_false_eq_true, false_implies, true_implies, eq_self, implies_true, false_and, and_false, Classical.not_not, Int.reduceLT, Int.reduceLE, Int.reduceEq, reduceIte, reduceCtorEq, and_imp, imp_false, false_or, or_false, true_or, or_true]
          exact hC _ _ _ _ _ _ _ _ _ _ _ hE0
      · simp +decide only [P_X10_event, P_X11_event, cell_iff _ _ _ _ hm, house_iff, isKind_iff _ _ _ hm, h1, h2, h3, within_iff, in_iff, all_eq, bz_0, bz_1, bzT, bzF, nem, bz_or, i64, Int32.reduceToInt, Int64.reduceToInt, and_true, true_and, and_self, not_true_eq_false, not_false_eq_true, false_implies, true_implies, eq_self, implies_true, false_and, and_false, Classical.not_not, Int.reduceLT, Int.reduceLE, Int.reduceEq, reduceIte, reduceCtorEq, and_imp, imp_false, false_or, or_false, true_or, or_true]
        exact hC _ _ _ _ _ _ _ _ _ _ _ hE0
    · simp +decide only [P_X10_event, P_X11_event, cell_iff _ _ _ _ hm, house_iff, isKind_iff _ _ _ hm, h1, h2, within_iff, in_iff, all_eq, bz_0, bz_1, bzT, bzF, nem, bz_or, i64, Int32.reduceToInt, Int64.reduceToInt, and_true, true_and, and_self, not_true_eq_false, not_false_eq_true, false_implies, true_implies, eq_self, implies_true, false_and, and_false, Classical.not_not, Int.reduceLT, Int.reduceLE, Int.reduceEq, reduceIte, reduceCtorEq, and_imp, imp_false, false_or, or_false, true_or, or_true]
      exact hC _ _ _ _ _ _ _ _ _ _ _ hE0
  · simp +decide only [P_X10_event, P_X11_event, cell_iff _ _ _ _ hm, house_iff, isKind_iff _ _ _ hm, h1, within_iff, in_iff, all_eq, bz_0, bz_1, bzT, bzF, nem, bz_or, i64, Int32.reduceToInt, Int64.reduceToInt, and_true, true_and, and_self, not_true_eq_false, not_false_eq_true, false_implies, true_implies, eq_self, implies_true, false_and, and_false, Classical.not_not, Int.reduceLT, Int.reduceLE, Int.reduceEq, reduceIte, reduceCtorEq, and_imp, imp_false, false_or, or_false, true_or, or_true]
    exact hC _ _ _ _ _ _ _ _ _ _ _ hE0
theorem eq_off {C : (Nat → Int32) → (Nat → Int32) → Prop} {ev_day ev_house ev_kind ev_need ev_on : Nat → Int32} {ev_size m_events : Int32} {m_eventDay m_eventHouse m_eventKind m_eventNeed m_isOff : Nat → Int32} (hE : RE ev_day ev_house ev_kind ev_need ev_on ev_size m_events m_eventDay m_eventHouse m_eventKind m_eventNeed m_isOff)
    (hC : ∀ a b, RE ev_day ev_house ev_kind ev_need a ev_size m_events m_eventDay m_eventHouse m_eventKind m_eventNeed b → C a b) (p1 : Int32) :
    P_X10_off (fun r a => P_X11_off (fun r2 b => ((r = r2 → C a b) ∧ (¬ r = r2 → False))) p1 m_events m_isOff) p1 ev_on ev_size := by
  have hE0 := hE
  obtain ⟨⟨rfl, rfl, rfl, rfl, rfl⟩, z0, z12, hj, hf⟩ := hE
  have es : (m_events - 1).toInt = m_events.toInt - 1 := sub1 (by omega)
  by_cases h1 : 0 ≤ p1.toInt ∧ p1.toInt ≤ m_events.toInt - 1
  · have h2 : vp_in p1 12 := vp_in_iff.mpr (by omega)
    obtain ⟨a1, a2, a3, a4, a5⟩ := hj p1.toNatClampNeg (by rw [cl]; omega)
    have key : ∀ b, (b = m_isOff ∧ m_isOff p1.toNatClampNeg = 1) ∨ (b = upd m_isOff p1.toNatClampNeg 1) → RE m_eventDay m_eventHouse m_eventKind m_eventNeed (upd ev_on p1.toNatClampNeg 0) m_events m_events m_eventDay m_eventHouse m_eventKind m_eventNeed b := by
      intro b hb
      have hbj : ∀ j : Nat, b j = if j = p1.toNatClampNeg then 1 else m_isOff j := by
        intro j
        rcases hb with ⟨rfl, h⟩ | rfl
        · split
          · rename_i e; rw [e, h]
          · rfl
        · rfl
      refine ⟨⟨rfl, rfl, rfl, rfl, rfl⟩, z0, z12, fun j hj2 => ?_, fun j hj2 => ?_⟩
      · obtain ⟨b1, b2, b3, b4, b5⟩ := hj j hj2
        refine ⟨b1, b2, b3, b4, ?_⟩
        rw [upd_at, hbj]
        by_cases e : j = p1.toNatClampNeg
        · rw [if_pos e, if_pos e]; exact Or.inr ⟨rfl, rfl⟩
        · rw [if_neg e, if_neg e]; exact b5
      · rw [hbj, if_neg (by rw [cl]; omega)]; exact hf j hj2
    rcases a5 with ⟨o1, o2⟩ | ⟨o1, o2⟩
    · simp +decide only [P_X10_off, P_X11_off, P_X3_has, P_X3_stop, es, h1, h2, nar0, nar1, o1, o2, within_iff, in_iff, all_eq, bz_0, bz_1, bzT, bzF, nem, bz_or, i64, Int32.reduceToInt, Int64.reduceToInt, and_true, true_and, and_self, not_true_eq_false, not_false_eq_true, false_implies, true_implies, eq_self, implies_true, false_and, and_false, Classical.not_not, Int.reduceLT, Int.reduceLE, Int.reduceEq, reduceIte, reduceCtorEq, and_imp, imp_false, false_or, or_false, true_or, or_true]
      exact hC _ _ (key _ (Or.inr rfl))
    · simp +decide only [P_X10_off, P_X11_off, P_X3_has, P_X3_stop, es, h1, h2, nar0, nar1, o1, o2, within_iff, in_iff, all_eq, bz_0, bz_1, bzT, bzF, nem, bz_or, i64, Int32.reduceToInt, Int64.reduceToInt, and_true, true_and, and_self, not_true_eq_false, not_false_eq_true, false_implies, true_implies, eq_self, implies_true, false_and, and_false, Classical.not_not, Int.reduceLT, Int.reduceLE, Int.reduceEq, reduceIte, reduceCtorEq, and_imp, imp_false, false_or, or_false, true_or, or_true]
      exact hC _ _ (key _ (Or.inl ⟨rfl, o2⟩))
  · simp +decide only [P_X10_off, P_X11_off, P_X3_has, es, h1, within_iff, in_iff, all_eq, bz_0, bz_1, bzT, bzF, nem, bz_or, i64, Int32.reduceToInt, Int64.reduceToInt, and_true, true_and, and_self, not_true_eq_false, not_false_eq_true, false_implies, true_implies, eq_self, implies_true, false_and, and_false, Classical.not_not, Int.reduceLT, Int.reduceLE, Int.reduceEq, reduceIte, reduceCtorEq, and_imp, imp_false, false_or, or_false, true_or, or_true]
    exact hC _ _ hE0
