def P_X11_layDays (post : Int32 → (Nat → Int32) → (Nat → Int32) → Prop) (p1 : Int32) (p2 : Int32) (m_events : Int32) (m_eventDay : Nat → Int32) (m_eventHouse : Nat → Int32) (m_eventKind : Nat → Int32) (m_eventNeed : Nat → Int32) (m_isOff : Nat → Int32) (m_days : Int32) (m_day : Nat → Int32) (m_need : Nat → Int32) : Prop :=
  ∀ (X7 : Int32 → Int32 → (Nat → Int32) → (Nat → Int32) → Prop),
  ∀ (X42 : Int32 → Int32 → Int32 → (Nat → Int32) → (Nat → Int32) → Prop),
  ∀ (X73 : Int32 → Int32 → Int32 → (Nat → Int32) → (Nat → Int32) → Prop),
  ∀ (X104 : Int32 → Int32 → Int32 → Int32 → (Nat → Int32) → (Nat → Int32) → Prop),
  ∀ (X164 : Int32 → Int32 → (Nat → Int32) → (Nat → Int32) → Prop),
  ∀ (X185 : Int32 → Int32 → (Nat → Int32) → (Nat → Int32) → Prop),
  ∀ (X196 : Int32 → Int32 → Int32 → (Nat → Int32) → (Nat → Int32) → Prop),
  (∀ (x3 : Int32) (m_days : Int32) (m_day : Nat → Int32) (m_need : Nat → Int32), (((m_events ≤ x3 → X164 (0 : Int32) m_days m_day m_need) ∧ (¬ m_events ≤ x3 → vp_in x3 12 ∧ (((m_eventKind x3.toNatClampNeg) = p1 → (((m_isOff x3.toNatClampNeg) = (0 : Int32) → ((x3 = p2 → ∀ y_8 : Int32, y_8 = (x3 + (1 : Int32)) → X7 y_8 m_days m_day m_need) ∧ (¬ x3 = p2 → X42 x3 (0 : Int32) m_days m_day m_need))) ∧ (¬ (m_isOff x3.toNatClampNeg) = (0 : Int32) → ∀ y_6 : Int32, y_6 = (x3 + (1 : Int32)) → X7 y_6 m_days m_day m_need))) ∧ (¬ (m_eventKind x3.toNatClampNeg) = p1 → ∀ y_4 : Int32, y_4 = (x3 + (1 : Int32)) → X7 y_4 m_days m_day m_need))))) → X7 x3 m_days m_day m_need) →
  (∀ (x3 : Int32) (x4 : Int32) (m_days : Int32) (m_day : Nat → Int32) (m_need : Nat → Int32), (((m_days ≤ x4 → X73 x3 x4 m_days m_day m_need) ∧ (¬ m_days ≤ x4 → vp_in x4 12 ∧ vp_in x3 12 ∧ (((m_eventDay x3.toNatClampNeg) ≤ (m_day x4.toNatClampNeg) → X73 x3 x4 m_days m_day m_need) ∧ (¬ (m_eventDay x3.toNatClampNeg) ≤ (m_day x4.toNatClampNeg) → ∀ y_17 : Int32, y_17 = (x4 + (1 : Int32)) → X42 x3 y_17 m_days m_day m_need))))) → X42 x3 x4 m_days m_day m_need) →
  (∀ (x3 : Int32) (x4 : Int32) (m_days : Int32) (m_day : Nat → Int32) (m_need : Nat → Int32), (((x4 = m_days → X104 x3 x4 m_days m_days m_day m_need) ∧ (¬ x4 = m_days → vp_in x4 12 ∧ vp_in x3 12 ∧ (((m_day x4.toNatClampNeg) = (m_eventDay x3.toNatClampNeg) → ∀ y_23 : Int32, y_23 = (x3 + (1 : Int32)) → X7 y_23 m_days m_day m_need) ∧ (¬ (m_day x4.toNatClampNeg) = (m_eventDay x3.toNatClampNeg) → X104 x3 x4 m_days m_days m_day m_need))))) → X73 x3 x4 m_days m_day m_need) →
  (∀ (x3 : Int32) (x4 : Int32) (x5 : Int32) (m_days : Int32) (m_day : Nat → Int32) (m_need : Nat → Int32), (((x5 ≤ x4 → vp_in x3 12 ∧ vp_in x4 12 ∧ ∀ m_day_42 : Nat → Int32, m_day_42 = upd m_day x4.toNatClampNeg (m_eventDay x3.toNatClampNeg) → ∀ y_43 : Int32, y_43 = (m_days + (1 : Int32)) → ∀ y_44 : Int32, y_44 = (x3 + (1 : Int32)) → X7 y_44 y_43 m_day_42 m_need) ∧ (¬ x5 ≤ x4 → vp_in (x5 - (1 : Int32)) 12 ∧ vp_in x5 12 ∧ ∀ m_day_47 : Nat → Int32, m_day_47 = upd m_day x5.toNatClampNeg (m_day (x5 - (1 : Int32)).toNatClampNeg) → ∀ y_48 : Int32, y_48 = (x5 + (-1 : Int32)) → X104 x3 x4 y_48 m_days m_day_47 m_need))) → X104 x3 x4 x5 m_days m_day m_need) →
  (∀ (x3 : Int32) (m_days : Int32) (m_day : Nat → Int32) (m_need : Nat → Int32), ((((60 : Int32) ≤ x3 → X185 (0 : Int32) m_days m_day m_need) ∧ (¬ (60 : Int32) ≤ x3 → vp_in x3 60 ∧ ∀ m_need_11 : Nat → Int32, m_need_11 = upd m_need x3.toNatClampNeg (0 : Int32) → ∀ y_12 : Int32, y_12 = (x3 + (1 : Int32)) → X164 y_12 m_days m_day m_need_11))) → X164 x3 m_days m_day m_need) →
  (∀ (x3 : Int32) (m_days : Int32) (m_day : Nat → Int32) (m_need : Nat → Int32), (((m_events ≤ x3 → post m_days m_day m_need) ∧ (¬ m_events ≤ x3 → X196 x3 (0 : Int32) m_days m_day m_need))) → X185 x3 m_days m_day m_need) →
  (∀ (x3 : Int32) (x4 : Int32) (m_days : Int32) (m_day : Nat → Int32) (m_need : Nat → Int32), (((m_days ≤ x4 → ∀ y_25 : Int32, y_25 = (x3 + (1 : Int32)) → X185 y_25 m_days m_day m_need) ∧ (¬ m_days ≤ x4 → vp_in x3 12 ∧ (((m_eventKind x3.toNatClampNeg) = p1 → (((m_isOff x3.toNatClampNeg) = (0 : Int32) → ((x3 = p2 → ∀ y_32 : Int32, y_32 = (x4 + (1 : Int32)) → X196 x3 y_32 m_days m_day m_need) ∧ (¬ x3 = p2 → vp_in x4 12 ∧ (((m_day x4.toNatClampNeg) = (m_eventDay x3.toNatClampNeg) → vp_in (((5 : Int32) * x4) + (m_eventHouse x3.toNatClampNeg)) 60 ∧ ∀ m_need_37 : Nat → Int32, m_need_37 = upd m_need (((5 : Int32) * x4) + (m_eventHouse x3.toNatClampNeg)).toNatClampNeg ((m_need (((5 : Int32) * x4) + (m_eventHouse x3.toNatClampNeg)).toNatClampNeg) + (m_eventNeed x3.toNatClampNeg)) → ∀ y_38 : Int32, y_38 = (x4 + (1 : Int32)) → X196 x3 y_38 m_days m_day m_need_37) ∧ (¬ (m_day x4.toNatClampNeg) = (m_eventDay x3.toNatClampNeg) → ∀ y_35 : Int32, y_35 = (x4 + (1 : Int32)) → X196 x3 y_35 m_days m_day m_need))))) ∧ (¬ (m_isOff x3.toNatClampNeg) = (0 : Int32) → ∀ y_30 : Int32, y_30 = (x4 + (1 : Int32)) → X196 x3 y_30 m_days m_day m_need))) ∧ (¬ (m_eventKind x3.toNatClampNeg) = p1 → ∀ y_28 : Int32, y_28 = (x4 + (1 : Int32)) → X196 x3 y_28 m_days m_day m_need))))) → X196 x3 x4 m_days m_day m_need) →
  X7 (0 : Int32) (0 : Int32) m_day m_need
abbrev rm_X11_layDays : Room := { frames := 0, cells := 0, slots := 0, locals := 0 }
theorem iw_X11_layDays_X11 : ∀ w ∈ wsX110, w ∈ wsX11_layDays := by decide +kernel
set_option maxHeartbeats 4000000 in
set_option maxRecDepth 100000 in
theorem c_X11_layDays (l : Launch) (G : va_G) (K : ClassId × ClassId × ClassId) (tb q : Nat → Nat) (sz : Nat) (m_kinds : Int32) (m_weighings : Int32) (m_spanLow : Int32) (m_spanHigh : Int32) (m_edges : Int32) (m_crew : Int32) (m_breakages : Int32) (post : Int32 → (Nat → Int32) → (Nat → Int32) → Prop) (p1 : Int32) (p2 : Int32) (m_events : Int32) (m_eventDay : Nat → Int32) (m_eventHouse : Nat → Int32) (m_eventKind : Nat → Int32) (m_eventNeed : Nat → Int32) (m_isOff : Nat → Int32) (m_days : Int32) (m_day : Nat → Int32) (m_need : Nat → Int32) (hw : P_X11_layDays post p1 p2 m_events m_eventDay m_eventHouse m_eventKind m_eventNeed m_isOff m_days m_day m_need) : Met l yX11_layDays wsX11_layDays rm_X11_layDays (va_Pc [.ref (q 0), .int p1, .int p2] (hPre G K tb [oX11 q m_kinds m_weighings m_spanLow m_spanHigh m_events m_days m_edges m_crew m_breakages, aI K (q 11) 12 m_eventDay, aI K (q 12) 12 m_eventHouse, aI K (q 13) 12 m_eventKind, aI K (q 14) 12 m_eventNeed, aZ K (q 15) 12 m_isOff, aI K (q 16) 12 m_day, aI K (q 17) 60 m_need] sz)) (va_Qv (fun (u : Int32 × (Nat → Int32) × (Nat → Int32)) => post u.1 u.2.1 u.2.2) (fun u => hB G K (va_A [oX11 q m_kinds m_weighings m_spanLow m_spanHigh m_events m_days m_edges m_crew m_breakages, aI K (q 11) 12 m_eventDay, aI K (q 12) 12 m_eventHouse, aI K (q 13) 12 m_eventKind, aI K (q 14) 12 m_eventNeed, aZ K (q 15) 12 m_isOff, aI K (q 16) 12 m_day, aI K (q 17) 60 m_need] sz) [oX11 q m_kinds m_weighings m_spanLow m_spanHigh m_events u.1 m_edges m_crew m_breakages, aI K (q 11) 12 m_eventDay, aI K (q 12) 12 m_eventHouse, aI K (q 13) 12 m_eventKind, aI K (q 14) 12 m_eventNeed, aZ K (q 15) 12 m_isOff, aI K (q 16) 12 u.2.1, aI K (q 17) 60 u.2.2]) (va_A [oX11 q m_kinds m_weighings m_spanLow m_spanHigh m_events m_days m_edges m_crew m_breakages, aI K (q 11) 12 m_eventDay, aI K (q 12) 12 m_eventHouse, aI K (q 13) 12 m_eventKind, aI K (q 14) 12 m_eventNeed, aZ K (q 15) 12 m_isOff, aI K (q 16) 12 m_day, aI K (q 17) 60 m_need] sz)) 0 0 (va_A [oX11 q m_kinds m_weighings m_spanLow m_spanHigh m_events m_days m_edges m_crew m_breakages, aI K (q 11) 12 m_eventDay, aI K (q 12) 12 m_eventHouse, aI K (q 13) 12 m_eventKind, aI K (q 14) 12 m_eventNeed, aZ K (q 15) 12 m_isOff, aI K (q 16) 12 m_day, aI K (q 17) 60 m_need] sz) := by
  refine hMet (fun A => va_Qv (fun (u : Int32 × (Nat → Int32) × (Nat → Int32)) => post u.1 u.2.1 u.2.2) (fun u => hB G K A [oX11 q m_kinds m_weighings m_spanLow m_spanHigh m_events u.1 m_edges m_crew m_breakages, aI K (q 11) 12 m_eventDay, aI K (q 12) 12 m_eventHouse, aI K (q 13) 12 m_eventKind, aI K (q 14) 12 m_eventNeed, aZ K (q 15) 12 m_isOff, aI K (q 16) 12 u.2.1, aI K (q 17) 60 u.2.2]) A) (by decide) rfl (Nat.le_of_ble_eq_true rfl) ?_
  intro p e s m av below meth c A Q ls hx hb hr hml hts hown hlocks hnm hA hP hK hD hS hE hQ hl
  have hts : ∀ w ∈ wsX11_layDays, w.before av s = true := hts
  have hown : s.vm.findClass RX11 = some m.cls := hown
  have hl : lv_has ls 6 [(0, .ref (q 0)), (1, .int p1), (2, .int p2)] := hl
  unfold P_X11_layDays at hw
  replace hw := hw (fun (x3 : Int32) (m_days : Int32) (m_day : Nat → Int32) (m_need : Nat → Int32) => ∀ (H : Heap) (locs : List Loc) (ls : Array Slot), va_P G vwCl [oX11 q m_kinds m_weighings m_spanLow m_spanHigh m_events m_days m_edges m_crew m_breakages, aI K (q 11) 12 m_eventDay, aI K (q 12) 12 m_eventHouse, aI K (q 13) 12 m_eventKind, aI K (q 14) 12 m_eventNeed, aZ K (q 15) 12 m_isOff, aI K (q 16) 12 m_day, aI K (q 17) 60 m_need] H → va_D A [oX11 q m_kinds m_weighings m_spanLow m_spanHigh m_events m_days m_edges m_crew m_breakages, aI K (q 11) 12 m_eventDay, aI K (q 12) 12 m_eventHouse, aI K (q 13) 12 m_eventKind, aI K (q 14) 12 m_eventNeed, aZ K (q 15) 12 m_isOff, aI K (q 16) 12 m_day, aI K (q 17) 60 m_need] → va_S A s.heap H locs → lv_has ls 6 [(0, .ref (q 0)), (1, .int p1), (2, .int p2), (3, .int x3)] → W p l e rm_X11_layDays s m av below meth c H locs 0 0 Q (F0 m 7 ls []))
  replace hw := hw (fun (x3 : Int32) (x4 : Int32) (m_days : Int32) (m_day : Nat → Int32) (m_need : Nat → Int32) => ∀ (H : Heap) (locs : List Loc) (ls : Array Slot), va_P G vwCl [oX11 q m_kinds m_weighings m_spanLow m_spanHigh m_events m_days m_edges m_crew m_breakages, aI K (q 11) 12 m_eventDay, aI K (q 12) 12 m_eventHouse, aI K (q 13) 12 m_eventKind, aI K (q 14) 12 m_eventNeed, aZ K (q 15) 12 m_isOff, aI K (q 16) 12 m_day, aI K (q 17) 60 m_need] H → va_D A [oX11 q m_kinds m_weighings m_spanLow m_spanHigh m_events m_days m_edges m_crew m_breakages, aI K (q 11) 12 m_eventDay, aI K (q 12) 12 m_eventHouse, aI K (q 13) 12 m_eventKind, aI K (q 14) 12 m_eventNeed, aZ K (q 15) 12 m_isOff, aI K (q 16) 12 m_day, aI K (q 17) 60 m_need] → va_S A s.heap H locs → lv_has ls 6 [(0, .ref (q 0)), (1, .int p1), (2, .int p2), (3, .int x3), (4, .int x4)] → W p l e rm_X11_layDays s m av below meth c H locs 0 0 Q (F0 m 42 ls []))
  replace hw := hw (fun (x3 : Int32) (x4 : Int32) (m_days : Int32) (m_day : Nat → Int32) (m_need : Nat → Int32) => ∀ (H : Heap) (locs : List Loc) (ls : Array Slot), va_P G vwCl [oX11 q m_kinds m_weighings m_spanLow m_spanHigh m_events m_days m_edges m_crew m_breakages, aI K (q 11) 12 m_eventDay, aI K (q 12) 12 m_eventHouse, aI K (q 13) 12 m_eventKind, aI K (q 14) 12 m_eventNeed, aZ K (q 15) 12 m_isOff, aI K (q 16) 12 m_day, aI K (q 17) 60 m_need] H → va_D A [oX11 q m_kinds m_weighings m_spanLow m_spanHigh m_events m_days m_edges m_crew m_breakages, aI K (q 11) 12 m_eventDay, aI K (q 12) 12 m_eventHouse, aI K (q 13) 12 m_eventKind, aI K (q 14) 12 m_eventNeed, aZ K (q 15) 12 m_isOff, aI K (q 16) 12 m_day, aI K (q 17) 60 m_need] → va_S A s.heap H locs → lv_has ls 6 [(0, .ref (q 0)), (1, .int p1), (2, .int p2), (3, .int x3), (4, .int x4)] → W p l e rm_X11_layDays s m av below meth c H locs 0 0 Q (F0 m 73 ls []))
  replace hw := hw (fun (x3 : Int32) (x4 : Int32) (x5 : Int32) (m_days : Int32) (m_day : Nat → Int32) (m_need : Nat → Int32) => ∀ (H : Heap) (locs : List Loc) (ls : Array Slot), va_P G vwCl [oX11 q m_kinds m_weighings m_spanLow m_spanHigh m_events m_days m_edges m_crew m_breakages, aI K (q 11) 12 m_eventDay, aI K (q 12) 12 m_eventHouse, aI K (q 13) 12 m_eventKind, aI K (q 14) 12 m_eventNeed, aZ K (q 15) 12 m_isOff, aI K (q 16) 12 m_day, aI K (q 17) 60 m_need] H → va_D A [oX11 q m_kinds m_weighings m_spanLow m_spanHigh m_events m_days m_edges m_crew m_breakages, aI K (q 11) 12 m_eventDay, aI K (q 12) 12 m_eventHouse, aI K (q 13) 12 m_eventKind, aI K (q 14) 12 m_eventNeed, aZ K (q 15) 12 m_isOff, aI K (q 16) 12 m_day, aI K (q 17) 60 m_need] → va_S A s.heap H locs → lv_has ls 6 [(0, .ref (q 0)), (1, .int p1), (2, .int p2), (3, .int x3), (4, .int x4), (5, .int x5)] → W p l e rm_X11_layDays s m av below meth c H locs 0 0 Q (F0 m 104 ls []))
  replace hw := hw (fun (x3 : Int32) (m_days : Int32) (m_day : Nat → Int32) (m_need : Nat → Int32) => ∀ (H : Heap) (locs : List Loc) (ls : Array Slot), va_P G vwCl [oX11 q m_kinds m_weighings m_spanLow m_spanHigh m_events m_days m_edges m_crew m_breakages, aI K (q 11) 12 m_eventDay, aI K (q 12) 12 m_eventHouse, aI K (q 13) 12 m_eventKind, aI K (q 14) 12 m_eventNeed, aZ K (q 15) 12 m_isOff, aI K (q 16) 12 m_day, aI K (q 17) 60 m_need] H → va_D A [oX11 q m_kinds m_weighings m_spanLow m_spanHigh m_events m_days m_edges m_crew m_breakages, aI K (q 11) 12 m_eventDay, aI K (q 12) 12 m_eventHouse, aI K (q 13) 12 m_eventKind, aI K (q 14) 12 m_eventNeed, aZ K (q 15) 12 m_isOff, aI K (q 16) 12 m_day, aI K (q 17) 60 m_need] → va_S A s.heap H locs → lv_has ls 6 [(0, .ref (q 0)), (1, .int p1), (2, .int p2), (3, .int x3)] → W p l e rm_X11_layDays s m av below meth c H locs 0 0 Q (F0 m 164 ls []))
  replace hw := hw (fun (x3 : Int32) (m_days : Int32) (m_day : Nat → Int32) (m_need : Nat → Int32) => ∀ (H : Heap) (locs : List Loc) (ls : Array Slot), va_P G vwCl [oX11 q m_kinds m_weighings m_spanLow m_spanHigh m_events m_days m_edges m_crew m_breakages, aI K (q 11) 12 m_eventDay, aI K (q 12) 12 m_eventHouse, aI K (q 13) 12 m_eventKind, aI K (q 14) 12 m_eventNeed, aZ K (q 15) 12 m_isOff, aI K (q 16) 12 m_day, aI K (q 17) 60 m_need] H → va_D A [oX11 q m_kinds m_weighings m_spanLow m_spanHigh m_events m_days m_edges m_crew m_breakages, aI K (q 11) 12 m_eventDay, aI K (q 12) 12 m_eventHouse, aI K (q 13) 12 m_eventKind, aI K (q 14) 12 m_eventNeed, aZ K (q 15) 12 m_isOff, aI K (q 16) 12 m_day, aI K (q 17) 60 m_need] → va_S A s.heap H locs → lv_has ls 6 [(0, .ref (q 0)), (1, .int p1), (2, .int p2), (3, .int x3)] → W p l e rm_X11_layDays s m av below meth c H locs 0 0 Q (F0 m 185 ls []))
  replace hw := hw (fun (x3 : Int32) (x4 : Int32) (m_days : Int32) (m_day : Nat → Int32) (m_need : Nat → Int32) => ∀ (H : Heap) (locs : List Loc) (ls : Array Slot), va_P G vwCl [oX11 q m_kinds m_weighings m_spanLow m_spanHigh m_events m_days m_edges m_crew m_breakages, aI K (q 11) 12 m_eventDay, aI K (q 12) 12 m_eventHouse, aI K (q 13) 12 m_eventKind, aI K (q 14) 12 m_eventNeed, aZ K (q 15) 12 m_isOff, aI K (q 16) 12 m_day, aI K (q 17) 60 m_need] H → va_D A [oX11 q m_kinds m_weighings m_spanLow m_spanHigh m_events m_days m_edges m_crew m_breakages, aI K (q 11) 12 m_eventDay, aI K (q 12) 12 m_eventHouse, aI K (q 13) 12 m_eventKind, aI K (q 14) 12 m_eventNeed, aZ K (q 15) 12 m_isOff, aI K (q 16) 12 m_day, aI K (q 17) 60 m_need] → va_S A s.heap H locs → lv_has ls 6 [(0, .ref (q 0)), (1, .int p1), (2, .int p2), (3, .int x3), (4, .int x4)] → W p l e rm_X11_layDays s m av below meth c H locs 0 0 Q (F0 m 196 ls []))
  replace hw := hw (by
    intro x3 m_days m_day m_need hw H locs ls hP hD hS hl
    refine lv_iload_n (pc := 7) hx hb dX11_layDays_7 rfl (lv_at hl 3 rfl) ?_
    refine lv_aload_n (pc := 8) hx hb dX11_layDays_8 rfl (lv_at hl 0 rfl) ?_
    refine va_get (pc := 9) (D := G) (ci := 11) (v := .int m_events) (C := RX11) (T := TX11) (N := 45) hx hb hts iw_X11_layDays_X11 hown hK hP 0 rfl rfl 14 (by decide) (hts _ (List.mem_of_getElem? (i := 2) rfl)) (fun _ h9 => h9) rfl dX11_layDays_9 ?_
    refine lv_icmp_ge (pc := 12) (tgt := 162) hx hb dX11_layDays_12 (by decide) (fun c_1 => ?_) (fun c_1 => ?_)
    · replace hw := hw.1 c_1
      refine lv_iconst (pc := 162) (v := (0 : Int32)) hx hb dX11_layDays_162 (by decide) ?_
      refine lv_istore_n (pc := 163) (lv' := [(3, .int (0 : Int32)), (0, .ref (q 0)), (1, .int p1), (2, .int p2)]) hx hb dX11_layDays_163 rfl hl (by decide) rfl (fun ls hl => ?_)
      exact hw _ _ _ hP hD hS (lv_sub hl [1, 2, 3, 0] rfl)
    · replace hw := hw.2 c_1
      refine lv_aload_n (pc := 15) hx hb dX11_layDays_15 rfl (lv_at hl 0 rfl) ?_
      refine va_get (pc := 16) (D := G) (ci := 11) (v := .ref (q 13)) (C := RX11) (T := TX11) (N := 45) hx hb hts iw_X11_layDays_X11 hown hK hP 0 rfl rfl 17 (by decide) (hts _ (List.mem_of_getElem? (i := 3) rfl)) (fun _ h9 => h9) rfl dX11_layDays_16 ?_
      refine lv_iload_n (pc := 19) hx hb dX11_layDays_19 rfl (lv_at hl 3 rfl) ?_
      obtain ⟨h_2, hw⟩ := hw
      refine va_iald (pc := 20) hx hb hK hP 3 0 rfl rfl h_2 dX11_layDays_20 ?_
      refine lv_iload_n (pc := 21) hx hb dX11_layDays_21 rfl (lv_at hl 1 rfl) ?_
      refine lv_icmp_ne (pc := 22) (tgt := 156) hx hb dX11_layDays_22 (by decide) (fun c_3 => ?_) (fun c_3 => ?_)
      · replace hw := hw.2 c_3
        obtain ⟨y_4, ey_4⟩ : ∃ z : Int32, z = (x3 + (1 : Int32)) := ⟨_, rfl⟩
        replace hw := hw y_4 ey_4
        refine lv_iinc (pc := 156) (v := y_4) (lv' := [(3, .int y_4), (0, .ref (q 0)), (1, .int p1), (2, .int p2)]) hx hb dX11_layDays_156 hl (k := 3) rfl (by rw [ey_4]; rfl) (by decide) rfl (fun ls hl => ?_)
        refine lv_goto (pc := 159) (tgt := 7) hx hb dX11_layDays_159 (by decide) ?_
        exact hw _ _ _ hP hD hS (lv_sub hl [1, 2, 3, 0] rfl)
      · replace hw := hw.1 c_3
        refine lv_aload_n (pc := 25) hx hb dX11_layDays_25 rfl (lv_at hl 0 rfl) ?_
        refine va_get (pc := 26) (D := G) (ci := 11) (v := .ref (q 15)) (C := RX11) (T := TX11) (N := 45) hx hb hts iw_X11_layDays_X11 hown hK hP 0 rfl rfl 19 (by decide) (hts _ (List.mem_of_getElem? (i := 4) rfl)) (fun _ h9 => h9) rfl dX11_layDays_26 ?_
        refine lv_iload_n (pc := 29) hx hb dX11_layDays_29 rfl (lv_at hl 3 rfl) ?_
        refine va_zald (pc := 30) hx hb hK hP 5 2 rfl rfl h_2 dX11_layDays_30 ?_
        refine lv_if_ne (pc := 31) (tgt := 156) hx hb dX11_layDays_31 (by decide) (fun c_5 => ?_) (fun c_5 => ?_)
        · replace hw := hw.2 c_5
          obtain ⟨y_6, ey_6⟩ : ∃ z : Int32, z = (x3 + (1 : Int32)) := ⟨_, rfl⟩
          replace hw := hw y_6 ey_6
          refine lv_iinc (pc := 156) (v := y_6) (lv' := [(3, .int y_6), (0, .ref (q 0)), (1, .int p1), (2, .int p2)]) hx hb dX11_layDays_156 hl (k := 3) rfl (by rw [ey_6]; rfl) (by decide) rfl (fun ls hl => ?_)
          refine lv_goto (pc := 159) (tgt := 7) hx hb dX11_layDays_159 (by decide) ?_
          exact hw _ _ _ hP hD hS (lv_sub hl [1, 2, 3, 0] rfl)
        · replace hw := hw.1 c_5
          refine lv_iload_n (pc := 34) hx hb dX11_layDays_34 rfl (lv_at hl 3 rfl) ?_
          refine lv_iload_n (pc := 35) hx hb dX11_layDays_35 rfl (lv_at hl 2 rfl) ?_
          refine lv_icmp_eq (pc := 36) (tgt := 156) hx hb dX11_layDays_36 (by decide) (fun c_7 => ?_) (fun c_7 => ?_)
          · replace hw := hw.1 c_7
            obtain ⟨y_8, ey_8⟩ : ∃ z : Int32, z = (x3 + (1 : Int32)) := ⟨_, rfl⟩
            replace hw := hw y_8 ey_8
            refine lv_iinc (pc := 156) (v := y_8) (lv' := [(3, .int y_8), (0, .ref (q 0)), (1, .int p1), (2, .int p2)]) hx hb dX11_layDays_156 hl (k := 3) rfl (by rw [ey_8]; rfl) (by decide) rfl (fun ls hl => ?_)
            refine lv_goto (pc := 159) (tgt := 7) hx hb dX11_layDays_159 (by decide) ?_
            exact hw _ _ _ hP hD hS (lv_sub hl [1, 2, 3, 0] rfl)
          · replace hw := hw.2 c_7
            refine lv_iconst (pc := 39) (v := (0 : Int32)) hx hb dX11_layDays_39 (by decide) ?_
            refine lv_istore (pc := 40) (lv' := [(4, .int (0 : Int32)), (0, .ref (q 0)), (1, .int p1), (2, .int p2), (3, .int x3)]) hx hb dX11_layDays_40 hl (by decide) rfl (fun ls hl => ?_)
            exact hw _ _ _ hP hD hS (lv_sub hl [1, 2, 3, 4, 0] rfl))
  replace hw := hw (by
    intro x3 x4 m_days m_day m_need hw H locs ls hP hD hS hl
    refine lv_iload (pc := 42) hx hb dX11_layDays_42 (lv_at hl 4 rfl) ?_
    refine lv_aload_n (pc := 44) hx hb dX11_layDays_44 rfl (lv_at hl 0 rfl) ?_
    refine va_get (pc := 45) (D := G) (ci := 11) (v := .int m_days) (C := RX11) (T := TX11) (N := 45) hx hb hts iw_X11_layDays_X11 hown hK hP 0 rfl rfl 20 (by decide) (hts _ (List.mem_of_getElem? (i := 1) rfl)) (fun _ h9 => h9) rfl dX11_layDays_45 ?_
    refine lv_icmp_ge (pc := 48) (tgt := 73) hx hb dX11_layDays_48 (by decide) (fun c_13 => ?_) (fun c_13 => ?_)
    · replace hw := hw.1 c_13
      exact hw _ _ _ hP hD hS (lv_sub hl [0, 1, 2, 3, 4] rfl)
    · replace hw := hw.2 c_13
      refine lv_aload_n (pc := 51) hx hb dX11_layDays_51 rfl (lv_at hl 0 rfl) ?_
      refine va_get (pc := 52) (D := G) (ci := 11) (v := .ref (q 16)) (C := RX11) (T := TX11) (N := 45) hx hb hts iw_X11_layDays_X11 hown hK hP 0 rfl rfl 21 (by decide) (hts _ (List.mem_of_getElem? (i := 5) rfl)) (fun _ h9 => h9) rfl dX11_layDays_52 ?_
      refine lv_iload (pc := 55) hx hb dX11_layDays_55 (lv_at hl 4 rfl) ?_
      obtain ⟨h_14, hw⟩ := hw
      refine va_iald (pc := 57) hx hb hK hP 6 0 rfl rfl h_14 dX11_layDays_57 ?_
      refine lv_aload_n (pc := 58) hx hb dX11_layDays_58 rfl (lv_at hl 0 rfl) ?_
      refine va_get (pc := 59) (D := G) (ci := 11) (v := .ref (q 11)) (C := RX11) (T := TX11) (N := 45) hx hb hts iw_X11_layDays_X11 hown hK hP 0 rfl rfl 15 (by decide) (hts _ (List.mem_of_getElem? (i := 6) rfl)) (fun _ h9 => h9) rfl dX11_layDays_59 ?_
      refine lv_iload_n (pc := 62) hx hb dX11_layDays_62 rfl (lv_at hl 3 rfl) ?_
      obtain ⟨h_15, hw⟩ := hw
      refine va_iald (pc := 63) hx hb hK hP 1 0 rfl rfl h_15 dX11_layDays_63 ?_
      refine lv_icmp_ge (pc := 64) (tgt := 73) hx hb dX11_layDays_64 (by decide) (fun c_16 => ?_) (fun c_16 => ?_)
      · replace hw := hw.1 c_16
        exact hw _ _ _ hP hD hS (lv_sub hl [0, 1, 2, 3, 4] rfl)
      · replace hw := hw.2 c_16
        obtain ⟨y_17, ey_17⟩ : ∃ z : Int32, z = (x4 + (1 : Int32)) := ⟨_, rfl⟩
        replace hw := hw y_17 ey_17
        refine lv_iinc (pc := 67) (v := y_17) (lv' := [(4, .int y_17), (0, .ref (q 0)), (1, .int p1), (2, .int p2), (3, .int x3)]) hx hb dX11_layDays_67 hl (k := 4) rfl (by rw [ey_17]; rfl) (by decide) rfl (fun ls hl => ?_)
        refine lv_goto (pc := 70) (tgt := 42) hx hb dX11_layDays_70 (by decide) ?_
        exact hw _ _ _ hP hD hS (lv_sub hl [1, 2, 3, 4, 0] rfl))
  replace hw := hw (by
    intro x3 x4 m_days m_day m_need hw H locs ls hP hD hS hl
    refine lv_iload (pc := 73) hx hb dX11_layDays_73 (lv_at hl 4 rfl) ?_
    refine lv_aload_n (pc := 75) hx hb dX11_layDays_75 rfl (lv_at hl 0 rfl) ?_
    refine va_get (pc := 76) (D := G) (ci := 11) (v := .int m_days) (C := RX11) (T := TX11) (N := 45) hx hb hts iw_X11_layDays_X11 hown hK hP 0 rfl rfl 20 (by decide) (hts _ (List.mem_of_getElem? (i := 1) rfl)) (fun _ h9 => h9) rfl dX11_layDays_76 ?_
    refine lv_icmp_eq (pc := 79) (tgt := 98) hx hb dX11_layDays_79 (by decide) (fun c_19 => ?_) (fun c_19 => ?_)
    · replace hw := hw.1 c_19
      refine lv_aload_n (pc := 98) hx hb dX11_layDays_98 rfl (lv_at hl 0 rfl) ?_
      refine va_get (pc := 99) (D := G) (ci := 11) (v := .int m_days) (C := RX11) (T := TX11) (N := 45) hx hb hts iw_X11_layDays_X11 hown hK hP 0 rfl rfl 20 (by decide) (hts _ (List.mem_of_getElem? (i := 1) rfl)) (fun _ h9 => h9) rfl dX11_layDays_99 ?_
      refine lv_istore (pc := 102) (lv' := [(5, .int m_days), (0, .ref (q 0)), (1, .int p1), (2, .int p2), (3, .int x3), (4, .int x4)]) hx hb dX11_layDays_102 hl (by decide) rfl (fun ls hl => ?_)
      exact hw _ _ _ hP hD hS (lv_sub hl [1, 2, 3, 4, 5, 0] rfl)
    · replace hw := hw.2 c_19
      refine lv_aload_n (pc := 82) hx hb dX11_layDays_82 rfl (lv_at hl 0 rfl) ?_
      refine va_get (pc := 83) (D := G) (ci := 11) (v := .ref (q 16)) (C := RX11) (T := TX11) (N := 45) hx hb hts iw_X11_layDays_X11 hown hK hP 0 rfl rfl 21 (by decide) (hts _ (List.mem_of_getElem? (i := 5) rfl)) (fun _ h9 => h9) rfl dX11_layDays_83 ?_
      refine lv_iload (pc := 86) hx hb dX11_layDays_86 (lv_at hl 4 rfl) ?_
      obtain ⟨h_20, hw⟩ := hw
      refine va_iald (pc := 88) hx hb hK hP 6 0 rfl rfl h_20 dX11_layDays_88 ?_
      refine lv_aload_n (pc := 89) hx hb dX11_layDays_89 rfl (lv_at hl 0 rfl) ?_
      refine va_get (pc := 90) (D := G) (ci := 11) (v := .ref (q 11)) (C := RX11) (T := TX11) (N := 45) hx hb hts iw_X11_layDays_X11 hown hK hP 0 rfl rfl 15 (by decide) (hts _ (List.mem_of_getElem? (i := 6) rfl)) (fun _ h9 => h9) rfl dX11_layDays_90 ?_
      refine lv_iload_n (pc := 93) hx hb dX11_layDays_93 rfl (lv_at hl 3 rfl) ?_
      obtain ⟨h_21, hw⟩ := hw
      refine va_iald (pc := 94) hx hb hK hP 1 0 rfl rfl h_21 dX11_layDays_94 ?_
      refine lv_icmp_eq (pc := 95) (tgt := 156) hx hb dX11_layDays_95 (by decide) (fun c_22 => ?_) (fun c_22 => ?_)
      · replace hw := hw.1 c_22
        obtain ⟨y_23, ey_23⟩ : ∃ z : Int32, z = (x3 + (1 : Int32)) := ⟨_, rfl⟩
        replace hw := hw y_23 ey_23
        refine lv_iinc (pc := 156) (v := y_23) (lv' := [(3, .int y_23), (0, .ref (q 0)), (1, .int p1), (2, .int p2), (4, .int x4)]) hx hb dX11_layDays_156 hl (k := 3) rfl (by rw [ey_23]; rfl) (by decide) rfl (fun ls hl => ?_)
        refine lv_goto (pc := 159) (tgt := 7) hx hb dX11_layDays_159 (by decide) ?_
        exact hw _ _ _ hP hD hS (lv_sub hl [1, 2, 3, 0] rfl)
      · replace hw := hw.2 c_22
        refine lv_aload_n (pc := 98) hx hb dX11_layDays_98 rfl (lv_at hl 0 rfl) ?_
        refine va_get (pc := 99) (D := G) (ci := 11) (v := .int m_days) (C := RX11) (T := TX11) (N := 45) hx hb hts iw_X11_layDays_X11 hown hK hP 0 rfl rfl 20 (by decide) (hts _ (List.mem_of_getElem? (i := 1) rfl)) (fun _ h9 => h9) rfl dX11_layDays_99 ?_
        refine lv_istore (pc := 102) (lv' := [(5, .int m_days), (0, .ref (q 0)), (1, .int p1), (2, .int p2), (3, .int x3), (4, .int x4)]) hx hb dX11_layDays_102 hl (by decide) rfl (fun ls hl => ?_)
        exact hw _ _ _ hP hD hS (lv_sub hl [1, 2, 3, 4, 5, 0] rfl))
  replace hw := hw (by
    intro x3 x4 x5 m_days m_day m_need hw H locs ls hP hD hS hl
    refine lv_iload (pc := 104) hx hb dX11_layDays_104 (lv_at hl 5 rfl) ?_
    refine lv_iload (pc := 106) hx hb dX11_layDays_106 (lv_at hl 4 rfl) ?_
    refine lv_icmp_le (pc := 108) (tgt := 133) hx hb dX11_layDays_108 (by decide) (fun c_39 => ?_) (fun c_39 => ?_)
    · replace hw := hw.1 c_39
      refine lv_aload_n (pc := 133) hx hb dX11_layDays_133 rfl (lv_at hl 0 rfl) ?_
      refine va_get (pc := 134) (D := G) (ci := 11) (v := .ref (q 16)) (C := RX11) (T := TX11) (N := 45) hx hb hts iw_X11_layDays_X11 hown hK hP 0 rfl rfl 21 (by decide) (hts _ (List.mem_of_getElem? (i := 5) rfl)) (fun _ h9 => h9) rfl dX11_layDays_134 ?_
      refine lv_iload (pc := 137) hx hb dX11_layDays_137 (lv_at hl 4 rfl) ?_
      refine lv_aload_n (pc := 139) hx hb dX11_layDays_139 rfl (lv_at hl 0 rfl) ?_
      refine va_get (pc := 140) (D := G) (ci := 11) (v := .ref (q 11)) (C := RX11) (T := TX11) (N := 45) hx hb hts iw_X11_layDays_X11 hown hK hP 0 rfl rfl 15 (by decide) (hts _ (List.mem_of_getElem? (i := 6) rfl)) (fun _ h9 => h9) rfl dX11_layDays_140 ?_
      refine lv_iload_n (pc := 143) hx hb dX11_layDays_143 rfl (lv_at hl 3 rfl) ?_
      obtain ⟨h_40, hw⟩ := hw
      refine va_iald (pc := 144) hx hb hK hP 1 0 rfl rfl h_40 dX11_layDays_144 ?_
      obtain ⟨h_41, hw⟩ := hw
      refine va_iast (pc := 145) hx hb hK hP hD hS 6 0 rfl rfl h_41 dX11_layDays_145 (fun H locs hP hD hS => ?_)
      obtain ⟨m_day_42, em_day_42⟩ : ∃ z : Nat → Int32, z = upd m_day x4.toNatClampNeg (m_eventDay x3.toNatClampNeg) := ⟨_, rfl⟩
      have hP : va_P G vwCl [oX11 q m_kinds m_weighings m_spanLow m_spanHigh m_events m_days m_edges m_crew m_breakages, aI K (q 11) 12 m_eventDay, aI K (q 12) 12 m_eventHouse, aI K (q 13) 12 m_eventKind, aI K (q 14) 12 m_eventNeed, aZ K (q 15) 12 m_isOff, aI K (q 16) 12 m_day_42, aI K (q 17) 60 m_need] H := by rw [em_day_42]; exact hP
      have hD : va_D A [oX11 q m_kinds m_weighings m_spanLow m_spanHigh m_events m_days m_edges m_crew m_breakages, aI K (q 11) 12 m_eventDay, aI K (q 12) 12 m_eventHouse, aI K (q 13) 12 m_eventKind, aI K (q 14) 12 m_eventNeed, aZ K (q 15) 12 m_isOff, aI K (q 16) 12 m_day_42, aI K (q 17) 60 m_need] := by rw [em_day_42]; exact hD
      replace hw := hw m_day_42 em_day_42
      refine lv_aload_n (pc := 146) hx hb dX11_layDays_146 rfl (lv_at hl 0 rfl) ?_
      refine lv_dup (pc := 147) hx hb dX11_layDays_147 rfl ?_
      refine va_get (pc := 148) (D := G) (ci := 11) (v := .int m_days) (C := RX11) (T := TX11) (N := 45) hx hb hts iw_X11_layDays_X11 hown hK hP 0 rfl rfl 20 (by decide) (hts _ (List.mem_of_getElem? (i := 1) rfl)) (fun _ h9 => h9) rfl dX11_layDays_148 ?_
      refine lv_iconst (pc := 151) (v := (1 : Int32)) hx hb dX11_layDays_151 (by decide) ?_
      refine lv_iadd (pc := 152) hx hb dX11_layDays_152 ?_
      refine lv_topi (fun y_43 ey_43 => ?_)
      replace hw := hw y_43 ey_43
      refine va_put (pc := 153) (D := G) (ci := 11) (v := .int y_43) (ty := .int) (C := RX11) (T := TX11) (N := 45) hx hb hts iw_X11_layDays_X11 tyX11 tyX11_ok nmX11 hown hK hP hD hS 0 rfl rfl 20 (by decide) (hts _ (List.mem_of_getElem? (i := 1) rfl)) (fun _ h9 => h9) rfl (by decide +kernel) rfl rfl (Nat.le_of_ble_eq_true rfl) dX11_layDays_153 (fun H locs hP hD hS => ?_)
      have hP : va_P G vwCl [oX11 q m_kinds m_weighings m_spanLow m_spanHigh m_events y_43 m_edges m_crew m_breakages, aI K (q 11) 12 m_eventDay, aI K (q 12) 12 m_eventHouse, aI K (q 13) 12 m_eventKind, aI K (q 14) 12 m_eventNeed, aZ K (q 15) 12 m_isOff, aI K (q 16) 12 m_day_42, aI K (q 17) 60 m_need] H := hP
      have hD : va_D A [oX11 q m_kinds m_weighings m_spanLow m_spanHigh m_events y_43 m_edges m_crew m_breakages, aI K (q 11) 12 m_eventDay, aI K (q 12) 12 m_eventHouse, aI K (q 13) 12 m_eventKind, aI K (q 14) 12 m_eventNeed, aZ K (q 15) 12 m_isOff, aI K (q 16) 12 m_day_42, aI K (q 17) 60 m_need] := hD
      obtain ⟨y_44, ey_44⟩ : ∃ z : Int32, z = (x3 + (1 : Int32)) := ⟨_, rfl⟩
      replace hw := hw y_44 ey_44
      refine lv_iinc (pc := 156) (v := y_44) (lv' := [(3, .int y_44), (0, .ref (q 0)), (1, .int p1), (2, .int p2), (4, .int x4), (5, .int x5)]) hx hb dX11_layDays_156 hl (k := 3) rfl (by rw [ey_44]; rfl) (by decide) rfl (fun ls hl => ?_)
      refine lv_goto (pc := 159) (tgt := 7) hx hb dX11_layDays_159 (by decide) ?_
      exact hw _ _ _ hP hD hS (lv_sub hl [1, 2, 3, 0] rfl)
    · replace hw := hw.2 c_39
      refine lv_aload_n (pc := 111) hx hb dX11_layDays_111 rfl (lv_at hl 0 rfl) ?_
      refine va_get (pc := 112) (D := G) (ci := 11) (v := .ref (q 16)) (C := RX11) (T := TX11) (N := 45) hx hb hts iw_X11_layDays_X11 hown hK hP 0 rfl rfl 21 (by decide) (hts _ (List.mem_of_getElem? (i := 5) rfl)) (fun _ h9 => h9) rfl dX11_layDays_112 ?_
      refine lv_iload (pc := 115) hx hb dX11_layDays_115 (lv_at hl 5 rfl) ?_
      refine lv_aload_n (pc := 117) hx hb dX11_layDays_117 rfl (lv_at hl 0 rfl) ?_
      refine va_get (pc := 118) (D := G) (ci := 11) (v := .ref (q 16)) (C := RX11) (T := TX11) (N := 45) hx hb hts iw_X11_layDays_X11 hown hK hP 0 rfl rfl 21 (by decide) (hts _ (List.mem_of_getElem? (i := 5) rfl)) (fun _ h9 => h9) rfl dX11_layDays_118 ?_
      refine lv_iload (pc := 121) hx hb dX11_layDays_121 (lv_at hl 5 rfl) ?_
      refine lv_iconst (pc := 123) (v := (1 : Int32)) hx hb dX11_layDays_123 (by decide) ?_
      refine lv_isub (pc := 124) hx hb dX11_layDays_124 ?_
      obtain ⟨h_45, hw⟩ := hw
      refine va_iald (pc := 125) hx hb hK hP 6 0 rfl rfl h_45 dX11_layDays_125 ?_
      obtain ⟨h_46, hw⟩ := hw
      refine va_iast (pc := 126) hx hb hK hP hD hS 6 0 rfl rfl h_46 dX11_layDays_126 (fun H locs hP hD hS => ?_)
      obtain ⟨m_day_47, em_day_47⟩ : ∃ z : Nat → Int32, z = upd m_day x5.toNatClampNeg (m_day (x5 - (1 : Int32)).toNatClampNeg) := ⟨_, rfl⟩
      have hP : va_P G vwCl [oX11 q m_kinds m_weighings m_spanLow m_spanHigh m_events m_days m_edges m_crew m_breakages, aI K (q 11) 12 m_eventDay, aI K (q 12) 12 m_eventHouse, aI K (q 13) 12 m_eventKind, aI K (q 14) 12 m_eventNeed, aZ K (q 15) 12 m_isOff, aI K (q 16) 12 m_day_47, aI K (q 17) 60 m_need] H := by rw [em_day_47]; exact hP
      have hD : va_D A [oX11 q m_kinds m_weighings m_spanLow m_spanHigh m_events m_days m_edges m_crew m_breakages, aI K (q 11) 12 m_eventDay, aI K (q 12) 12 m_eventHouse, aI K (q 13) 12 m_eventKind, aI K (q 14) 12 m_eventNeed, aZ K (q 15) 12 m_isOff, aI K (q 16) 12 m_day_47, aI K (q 17) 60 m_need] := by rw [em_day_47]; exact hD
      replace hw := hw m_day_47 em_day_47
      obtain ⟨y_48, ey_48⟩ : ∃ z : Int32, z = (x5 + (-1 : Int32)) := ⟨_, rfl⟩
      replace hw := hw y_48 ey_48
      refine lv_iinc (pc := 127) (v := y_48) (lv' := [(5, .int y_48), (0, .ref (q 0)), (1, .int p1), (2, .int p2), (3, .int x3), (4, .int x4)]) hx hb dX11_layDays_127 hl (k := 5) rfl (by rw [ey_48]; rfl) (by decide) rfl (fun ls hl => ?_)
      refine lv_goto (pc := 130) (tgt := 104) hx hb dX11_layDays_130 (by decide) ?_
      exact hw _ _ _ hP hD hS (lv_sub hl [1, 2, 3, 4, 5, 0] rfl))
  replace hw := hw (by
    intro x3 m_days m_day m_need hw H locs ls hP hD hS hl
    refine lv_iload_n (pc := 164) hx hb dX11_layDays_164 rfl (lv_at hl 3 rfl) ?_
    refine lv_bipush (pc := 165) (v := (60 : Int32)) hx hb dX11_layDays_165 (by decide) ?_
    refine lv_icmp_ge (pc := 167) (tgt := 183) hx hb dX11_layDays_167 (by decide) (fun c_9 => ?_) (fun c_9 => ?_)
    · replace hw := hw.1 c_9
      refine lv_iconst (pc := 183) (v := (0 : Int32)) hx hb dX11_layDays_183 (by decide) ?_
      refine lv_istore_n (pc := 184) (lv' := [(3, .int (0 : Int32)), (0, .ref (q 0)), (1, .int p1), (2, .int p2)]) hx hb dX11_layDays_184 rfl hl (by decide) rfl (fun ls hl => ?_)
      exact hw _ _ _ hP hD hS (lv_sub hl [1, 2, 3, 0] rfl)
    · replace hw := hw.2 c_9
      refine lv_aload_n (pc := 170) hx hb dX11_layDays_170 rfl (lv_at hl 0 rfl) ?_
      refine va_get (pc := 171) (D := G) (ci := 11) (v := .ref (q 17)) (C := RX11) (T := TX11) (N := 45) hx hb hts iw_X11_layDays_X11 hown hK hP 0 rfl rfl 22 (by decide) (hts _ (List.mem_of_getElem? (i := 7) rfl)) (fun _ h9 => h9) rfl dX11_layDays_171 ?_
      refine lv_iload_n (pc := 174) hx hb dX11_layDays_174 rfl (lv_at hl 3 rfl) ?_
      refine lv_iconst (pc := 175) (v := (0 : Int32)) hx hb dX11_layDays_175 (by decide) ?_
      obtain ⟨h_10, hw⟩ := hw
      refine va_iast (pc := 176) hx hb hK hP hD hS 7 0 rfl rfl h_10 dX11_layDays_176 (fun H locs hP hD hS => ?_)
      obtain ⟨m_need_11, em_need_11⟩ : ∃ z : Nat → Int32, z = upd m_need x3.toNatClampNeg (0 : Int32) := ⟨_, rfl⟩
      have hP : va_P G vwCl [oX11 q m_kinds m_weighings m_spanLow m_spanHigh m_events m_days m_edges m_crew m_breakages, aI K (q 11) 12 m_eventDay, aI K (q 12) 12 m_eventHouse, aI K (q 13) 12 m_eventKind, aI K (q 14) 12 m_eventNeed, aZ K (q 15) 12 m_isOff, aI K (q 16) 12 m_day, aI K (q 17) 60 m_need_11] H := by rw [em_need_11]; exact hP
      have hD : va_D A [oX11 q m_kinds m_weighings m_spanLow m_spanHigh m_events m_days m_edges m_crew m_breakages, aI K (q 11) 12 m_eventDay, aI K (q 12) 12 m_eventHouse, aI K (q 13) 12 m_eventKind, aI K (q 14) 12 m_eventNeed, aZ K (q 15) 12 m_isOff, aI K (q 16) 12 m_day, aI K (q 17) 60 m_need_11] := by rw [em_need_11]; exact hD
      replace hw := hw m_need_11 em_need_11
      obtain ⟨y_12, ey_12⟩ : ∃ z : Int32, z = (x3 + (1 : Int32)) := ⟨_, rfl⟩
      replace hw := hw y_12 ey_12
      refine lv_iinc (pc := 177) (v := y_12) (lv' := [(3, .int y_12), (0, .ref (q 0)), (1, .int p1), (2, .int p2)]) hx hb dX11_layDays_177 hl (k := 3) rfl (by rw [ey_12]; rfl) (by decide) rfl (fun ls hl => ?_)
      refine lv_goto (pc := 180) (tgt := 164) hx hb dX11_layDays_180 (by decide) ?_
      exact hw _ _ _ hP hD hS (lv_sub hl [1, 2, 3, 0] rfl))
  replace hw := hw (by
    intro x3 m_days m_day m_need hw H locs ls hP hD hS hl
    refine lv_iload_n (pc := 185) hx hb dX11_layDays_185 rfl (lv_at hl 3 rfl) ?_
    refine lv_aload_n (pc := 186) hx hb dX11_layDays_186 rfl (lv_at hl 0 rfl) ?_
    refine va_get (pc := 187) (D := G) (ci := 11) (v := .int m_events) (C := RX11) (T := TX11) (N := 45) hx hb hts iw_X11_layDays_X11 hown hK hP 0 rfl rfl 14 (by decide) (hts _ (List.mem_of_getElem? (i := 2) rfl)) (fun _ h9 => h9) rfl dX11_layDays_187 ?_
    refine lv_icmp_ge (pc := 190) (tgt := 282) hx hb dX11_layDays_190 (by decide) (fun c_18 => ?_) (fun c_18 => ?_)
    · replace hw := hw.1 c_18
      exact hRetV (S := Int32 × (Nat → Int32) × (Nat → Int32)) (m_days, m_day, m_need) hx hb hr hlocks hQ hw hP hK hD hS dX11_layDays_282
    · replace hw := hw.2 c_18
      refine lv_iconst (pc := 193) (v := (0 : Int32)) hx hb dX11_layDays_193 (by decide) ?_
      refine lv_istore (pc := 194) (lv' := [(4, .int (0 : Int32)), (0, .ref (q 0)), (1, .int p1), (2, .int p2), (3, .int x3)]) hx hb dX11_layDays_194 hl (by decide) rfl (fun ls hl => ?_)
      exact hw _ _ _ hP hD hS (lv_sub hl [1, 2, 3, 4, 0] rfl))
  replace hw := hw (by
    intro x3 x4 m_days m_day m_need hw H locs ls hP hD hS hl
    refine lv_iload (pc := 196) hx hb dX11_layDays_196 (lv_at hl 4 rfl) ?_
    refine lv_aload_n (pc := 198) hx hb dX11_layDays_198 rfl (lv_at hl 0 rfl) ?_
    refine va_get (pc := 199) (D := G) (ci := 11) (v := .int m_days) (C := RX11) (T := TX11) (N := 45) hx hb hts iw_X11_layDays_X11 hown hK hP 0 rfl rfl 20 (by decide) (hts _ (List.mem_of_getElem? (i := 1) rfl)) (fun _ h9 => h9) rfl dX11_layDays_199 ?_
    refine lv_icmp_ge (pc := 202) (tgt := 276) hx hb dX11_layDays_202 (by decide) (fun c_24 => ?_) (fun c_24 => ?_)
    · replace hw := hw.1 c_24
      obtain ⟨y_25, ey_25⟩ : ∃ z : Int32, z = (x3 + (1 : Int32)) := ⟨_, rfl⟩
      replace hw := hw y_25 ey_25
      refine lv_iinc (pc := 276) (v := y_25) (lv' := [(3, .int y_25), (0, .ref (q 0)), (1, .int p1), (2, .int p2), (4, .int x4)]) hx hb dX11_layDays_276 hl (k := 3) rfl (by rw [ey_25]; rfl) (by decide) rfl (fun ls hl => ?_)
      refine lv_goto (pc := 279) (tgt := 185) hx hb dX11_layDays_279 (by decide) ?_
      exact hw _ _ _ hP hD hS (lv_sub hl [1, 2, 3, 0] rfl)
    · replace hw := hw.2 c_24
      refine lv_aload_n (pc := 205) hx hb dX11_layDays_205 rfl (lv_at hl 0 rfl) ?_
      refine va_get (pc := 206) (D := G) (ci := 11) (v := .ref (q 13)) (C := RX11) (T := TX11) (N := 45) hx hb hts iw_X11_layDays_X11 hown hK hP 0 rfl rfl 17 (by decide) (hts _ (List.mem_of_getElem? (i := 3) rfl)) (fun _ h9 => h9) rfl dX11_layDays_206 ?_
      refine lv_iload_n (pc := 209) hx hb dX11_layDays_209 rfl (lv_at hl 3 rfl) ?_
      obtain ⟨h_26, hw⟩ := hw
      refine va_iald (pc := 210) hx hb hK hP 3 0 rfl rfl h_26 dX11_layDays_210 ?_
      refine lv_iload_n (pc := 211) hx hb dX11_layDays_211 rfl (lv_at hl 1 rfl) ?_
      refine lv_icmp_ne (pc := 212) (tgt := 270) hx hb dX11_layDays_212 (by decide) (fun c_27 => ?_) (fun c_27 => ?_)
      · replace hw := hw.2 c_27
        obtain ⟨y_28, ey_28⟩ : ∃ z : Int32, z = (x4 + (1 : Int32)) := ⟨_, rfl⟩
        replace hw := hw y_28 ey_28
        refine lv_iinc (pc := 270) (v := y_28) (lv' := [(4, .int y_28), (0, .ref (q 0)), (1, .int p1), (2, .int p2), (3, .int x3)]) hx hb dX11_layDays_270 hl (k := 4) rfl (by rw [ey_28]; rfl) (by decide) rfl (fun ls hl => ?_)
        refine lv_goto (pc := 273) (tgt := 196) hx hb dX11_layDays_273 (by decide) ?_
        exact hw _ _ _ hP hD hS (lv_sub hl [1, 2, 3, 4, 0] rfl)
      · replace hw := hw.1 c_27
        refine lv_aload_n (pc := 215) hx hb dX11_layDays_215 rfl (lv_at hl 0 rfl) ?_
        refine va_get (pc := 216) (D := G) (ci := 11) (v := .ref (q 15)) (C := RX11) (T := TX11) (N := 45) hx hb hts iw_X11_layDays_X11 hown hK hP 0 rfl rfl 19 (by decide) (hts _ (List.mem_of_getElem? (i := 4) rfl)) (fun _ h9 => h9) rfl dX11_layDays_216 ?_
        refine lv_iload_n (pc := 219) hx hb dX11_layDays_219 rfl (lv_at hl 3 rfl) ?_
        refine va_zald (pc := 220) hx hb hK hP 5 2 rfl rfl h_26 dX11_layDays_220 ?_
        refine lv_if_ne (pc := 221) (tgt := 270) hx hb dX11_layDays_221 (by decide) (fun c_29 => ?_) (fun c_29 => ?_)
        · replace hw := hw.2 c_29
          obtain ⟨y_30, ey_30⟩ : ∃ z : Int32, z = (x4 + (1 : Int32)) := ⟨_, rfl⟩
          replace hw := hw y_30 ey_30
          refine lv_iinc (pc := 270) (v := y_30) (lv' := [(4, .int y_30), (0, .ref (q 0)), (1, .int p1), (2, .int p2), (3, .int x3)]) hx hb dX11_layDays_270 hl (k := 4) rfl (by rw [ey_30]; rfl) (by decide) rfl (fun ls hl => ?_)
          refine lv_goto (pc := 273) (tgt := 196) hx hb dX11_layDays_273 (by decide) ?_
          exact hw _ _ _ hP hD hS (lv_sub hl [1, 2, 3, 4, 0] rfl)
        · replace hw := hw.1 c_29
          refine lv_iload_n (pc := 224) hx hb dX11_layDays_224 rfl (lv_at hl 3 rfl) ?_
          refine lv_iload_n (pc := 225) hx hb dX11_layDays_225 rfl (lv_at hl 2 rfl) ?_
          refine lv_icmp_eq (pc := 226) (tgt := 270) hx hb dX11_layDays_226 (by decide) (fun c_31 => ?_) (fun c_31 => ?_)
          · replace hw := hw.1 c_31
            obtain ⟨y_32, ey_32⟩ : ∃ z : Int32, z = (x4 + (1 : Int32)) := ⟨_, rfl⟩
            replace hw := hw y_32 ey_32
            refine lv_iinc (pc := 270) (v := y_32) (lv' := [(4, .int y_32), (0, .ref (q 0)), (1, .int p1), (2, .int p2), (3, .int x3)]) hx hb dX11_layDays_270 hl (k := 4) rfl (by rw [ey_32]; rfl) (by decide) rfl (fun ls hl => ?_)
            refine lv_goto (pc := 273) (tgt := 196) hx hb dX11_layDays_273 (by decide) ?_
            exact hw _ _ _ hP hD hS (lv_sub hl [1, 2, 3, 4, 0] rfl)
          · replace hw := hw.2 c_31
            refine lv_aload_n (pc := 229) hx hb dX11_layDays_229 rfl (lv_at hl 0 rfl) ?_
            refine va_get (pc := 230) (D := G) (ci := 11) (v := .ref (q 16)) (C := RX11) (T := TX11) (N := 45) hx hb hts iw_X11_layDays_X11 hown hK hP 0 rfl rfl 21 (by decide) (hts _ (List.mem_of_getElem? (i := 5) rfl)) (fun _ h9 => h9) rfl dX11_layDays_230 ?_
            refine lv_iload (pc := 233) hx hb dX11_layDays_233 (lv_at hl 4 rfl) ?_
            obtain ⟨h_33, hw⟩ := hw
            refine va_iald (pc := 235) hx hb hK hP 6 0 rfl rfl h_33 dX11_layDays_235 ?_
            refine lv_aload_n (pc := 236) hx hb dX11_layDays_236 rfl (lv_at hl 0 rfl) ?_
            refine va_get (pc := 237) (D := G) (ci := 11) (v := .ref (q 11)) (C := RX11) (T := TX11) (N := 45) hx hb hts iw_X11_layDays_X11 hown hK hP 0 rfl rfl 15 (by decide) (hts _ (List.mem_of_getElem? (i := 6) rfl)) (fun _ h9 => h9) rfl dX11_layDays_237 ?_
            refine lv_iload_n (pc := 240) hx hb dX11_layDays_240 rfl (lv_at hl 3 rfl) ?_
            refine va_iald (pc := 241) hx hb hK hP 1 0 rfl rfl h_26 dX11_layDays_241 ?_
            refine lv_icmp_ne (pc := 242) (tgt := 270) hx hb dX11_layDays_242 (by decide) (fun c_34 => ?_) (fun c_34 => ?_)
            · replace hw := hw.2 c_34
              obtain ⟨y_35, ey_35⟩ : ∃ z : Int32, z = (x4 + (1 : Int32)) := ⟨_, rfl⟩
              replace hw := hw y_35 ey_35
              refine lv_iinc (pc := 270) (v := y_35) (lv' := [(4, .int y_35), (0, .ref (q 0)), (1, .int p1), (2, .int p2), (3, .int x3)]) hx hb dX11_layDays_270 hl (k := 4) rfl (by rw [ey_35]; rfl) (by decide) rfl (fun ls hl => ?_)
              refine lv_goto (pc := 273) (tgt := 196) hx hb dX11_layDays_273 (by decide) ?_
              exact hw _ _ _ hP hD hS (lv_sub hl [1, 2, 3, 4, 0] rfl)
            · replace hw := hw.1 c_34
              refine lv_aload_n (pc := 245) hx hb dX11_layDays_245 rfl (lv_at hl 0 rfl) ?_
              refine va_get (pc := 246) (D := G) (ci := 11) (v := .ref (q 17)) (C := RX11) (T := TX11) (N := 45) hx hb hts iw_X11_layDays_X11 hown hK hP 0 rfl rfl 22 (by decide) (hts _ (List.mem_of_getElem? (i := 7) rfl)) (fun _ h9 => h9) rfl dX11_layDays_246 ?_
              refine lv_iconst (pc := 249) (v := (5 : Int32)) hx hb dX11_layDays_249 (by decide) ?_
              refine lv_iload (pc := 250) hx hb dX11_layDays_250 (lv_at hl 4 rfl) ?_
              refine lv_imul (pc := 252) hx hb dX11_layDays_252 ?_
              refine lv_aload_n (pc := 253) hx hb dX11_layDays_253 rfl (lv_at hl 0 rfl) ?_
              refine va_get (pc := 254) (D := G) (ci := 11) (v := .ref (q 12)) (C := RX11) (T := TX11) (N := 45) hx hb hts iw_X11_layDays_X11 hown hK hP 0 rfl rfl 16 (by decide) (hts _ (List.mem_of_getElem? (i := 8) rfl)) (fun _ h9 => h9) rfl dX11_layDays_254 ?_
              refine lv_iload_n (pc := 257) hx hb dX11_layDays_257 rfl (lv_at hl 3 rfl) ?_
              refine va_iald (pc := 258) hx hb hK hP 2 0 rfl rfl h_26 dX11_layDays_258 ?_
              refine lv_iadd (pc := 259) hx hb dX11_layDays_259 ?_
              refine lv_dup2_11 (pc := 260) hx hb dX11_layDays_260 rfl rfl ?_
              obtain ⟨h_36, hw⟩ := hw
              refine va_iald (pc := 261) hx hb hK hP 7 0 rfl rfl h_36 dX11_layDays_261 ?_
              refine lv_aload_n (pc := 262) hx hb dX11_layDays_262 rfl (lv_at hl 0 rfl) ?_
              refine va_get (pc := 263) (D := G) (ci := 11) (v := .ref (q 14)) (C := RX11) (T := TX11) (N := 45) hx hb hts iw_X11_layDays_X11 hown hK hP 0 rfl rfl 18 (by decide) (hts _ (List.mem_of_getElem? (i := 9) rfl)) (fun _ h9 => h9) rfl dX11_layDays_263 ?_
              refine lv_iload_n (pc := 266) hx hb dX11_layDays_266 rfl (lv_at hl 3 rfl) ?_
              refine va_iald (pc := 267) hx hb hK hP 4 0 rfl rfl h_26 dX11_layDays_267 ?_
              refine lv_iadd (pc := 268) hx hb dX11_layDays_268 ?_
              refine va_iast (pc := 269) hx hb hK hP hD hS 7 0 rfl rfl h_36 dX11_layDays_269 (fun H locs hP hD hS => ?_)
              obtain ⟨m_need_37, em_need_37⟩ : ∃ z : Nat → Int32, z = upd m_need (((5 : Int32) * x4) + (m_eventHouse x3.toNatClampNeg)).toNatClampNeg ((m_need (((5 : Int32) * x4) + (m_eventHouse x3.toNatClampNeg)).toNatClampNeg) + (m_eventNeed x3.toNatClampNeg)) := ⟨_, rfl⟩
              have hP : va_P G vwCl [oX11 q m_kinds m_weighings m_spanLow m_spanHigh m_events m_days m_edges m_crew m_breakages, aI K (q 11) 12 m_eventDay, aI K (q 12) 12 m_eventHouse, aI K (q 13) 12 m_eventKind, aI K (q 14) 12 m_eventNeed, aZ K (q 15) 12 m_isOff, aI K (q 16) 12 m_day, aI K (q 17) 60 m_need_37] H := by rw [em_need_37]; exact hP
              have hD : va_D A [oX11 q m_kinds m_weighings m_spanLow m_spanHigh m_events m_days m_edges m_crew m_breakages, aI K (q 11) 12 m_eventDay, aI K (q 12) 12 m_eventHouse, aI K (q 13) 12 m_eventKind, aI K (q 14) 12 m_eventNeed, aZ K (q 15) 12 m_isOff, aI K (q 16) 12 m_day, aI K (q 17) 60 m_need_37] := by rw [em_need_37]; exact hD
              replace hw := hw m_need_37 em_need_37
              obtain ⟨y_38, ey_38⟩ : ∃ z : Int32, z = (x4 + (1 : Int32)) := ⟨_, rfl⟩
              replace hw := hw y_38 ey_38
              refine lv_iinc (pc := 270) (v := y_38) (lv' := [(4, .int y_38), (0, .ref (q 0)), (1, .int p1), (2, .int p2), (3, .int x3)]) hx hb dX11_layDays_270 hl (k := 4) rfl (by rw [ey_38]; rfl) (by decide) rfl (fun ls hl => ?_)
              refine lv_goto (pc := 273) (tgt := 196) hx hb dX11_layDays_273 (by decide) ?_
              exact hw _ _ _ hP hD hS (lv_sub hl [1, 2, 3, 4, 0] rfl))
  refine lv_aload_n (pc := 0) hx hb dX11_layDays_0 rfl (lv_at hl 0 rfl) ?_
  refine lv_iconst (pc := 1) (v := (0 : Int32)) hx hb dX11_layDays_1 (by decide) ?_
  refine va_put (pc := 2) (D := G) (ci := 11) (v := .int (0 : Int32)) (ty := .int) (C := RX11) (T := TX11) (N := 45) hx hb hts iw_X11_layDays_X11 tyX11 tyX11_ok nmX11 hown hK hP hD hS 0 rfl rfl 20 (by decide) (hts _ (List.mem_of_getElem? (i := 1) rfl)) (fun _ h9 => h9) rfl (by decide +kernel) rfl rfl (Nat.le_of_ble_eq_true rfl) dX11_layDays_2 (fun H locs hP hD hS => ?_)
  have hP : va_P G vwCl [oX11 q m_kinds m_weighings m_spanLow m_spanHigh m_events (0 : Int32) m_edges m_crew m_breakages, aI K (q 11) 12 m_eventDay, aI K (q 12) 12 m_eventHouse, aI K (q 13) 12 m_eventKind, aI K (q 14) 12 m_eventNeed, aZ K (q 15) 12 m_isOff, aI K (q 16) 12 m_day, aI K (q 17) 60 m_need] H := hP
  have hD : va_D A [oX11 q m_kinds m_weighings m_spanLow m_spanHigh m_events (0 : Int32) m_edges m_crew m_breakages, aI K (q 11) 12 m_eventDay, aI K (q 12) 12 m_eventHouse, aI K (q 13) 12 m_eventKind, aI K (q 14) 12 m_eventNeed, aZ K (q 15) 12 m_isOff, aI K (q 16) 12 m_day, aI K (q 17) 60 m_need] := hD
  refine lv_iconst (pc := 5) (v := (0 : Int32)) hx hb dX11_layDays_5 (by decide) ?_
  refine lv_istore_n (pc := 6) (lv' := [(3, .int (0 : Int32)), (0, .ref (q 0)), (1, .int p1), (2, .int p2)]) hx hb dX11_layDays_6 rfl hl (by decide) rfl (fun ls hl => ?_)
  exact hw _ _ _ hP hD hS (lv_sub hl [1, 2, 3, 0] rfl)
def P_X11_edge (post : Int32 → (Nat → Int32) → (Nat → Int32) → (Nat → Int32) → (Nat → Int64) → Prop) (p1 : Int32) (p2 : Int32) (p3 : Int32) (p4 : Int64) (m_edges : Int32) (m_edgeFrom : Nat → Int32) (m_edgeTo : Nat → Int32) (m_room : Nat → Int32) (m_price : Nat → Int64) : Prop :=
  vp_in m_edges 1000 ∧ ∀ m_edgeFrom_2 : Nat → Int32, m_edgeFrom_2 = upd m_edgeFrom m_edges.toNatClampNeg p1 → ∀ m_edgeTo_3 : Nat → Int32, m_edgeTo_3 = upd m_edgeTo m_edges.toNatClampNeg p2 → ∀ m_room_4 : Nat → Int32, m_room_4 = upd m_room m_edges.toNatClampNeg p3 → ∀ m_price_5 : Nat → Int64, m_price_5 = vp_updL m_price m_edges.toNatClampNeg p4 → vp_in (m_edges + (1 : Int32)) 1000 ∧ ∀ m_edgeFrom_7 : Nat → Int32, m_edgeFrom_7 = upd m_edgeFrom_2 (m_edges + (1 : Int32)).toNatClampNeg p2 → ∀ m_edgeTo_8 : Nat → Int32, m_edgeTo_8 = upd m_edgeTo_3 (m_edges + (1 : Int32)).toNatClampNeg p1 → ∀ m_room_9 : Nat → Int32, m_room_9 = upd m_room_4 (m_edges + (1 : Int32)).toNatClampNeg (0 : Int32) → ∀ m_price_10 : Nat → Int64, m_price_10 = vp_updL m_price_5 (m_edges + (1 : Int32)).toNatClampNeg (-p4) → ∀ y_11 : Int32, y_11 = (m_edges + (2 : Int32)) → post y_11 m_edgeFrom_7 m_edgeTo_8 m_room_9 m_price_10
abbrev rm_X11_edge : Room := { frames := 0, cells := 0, slots := 0, locals := 0 }
theorem iw_X11_edge_X11 : ∀ w ∈ wsX110, w ∈ wsX11_edge := by decide +kernel
set_option maxHeartbeats 4000000 in
set_option maxRecDepth 100000 in
theorem c_X11_edge (l : Launch) (G : va_G) (K : ClassId × ClassId × ClassId) (tb q : Nat → Nat) (sz : Nat) (m_kinds : Int32) (m_weighings : Int32) (m_spanLow : Int32) (m_spanHigh : Int32) (m_events : Int32) (m_days : Int32) (m_crew : Int32) (m_breakages : Int32) (post : Int32 → (Nat → Int32) → (Nat → Int32) → (Nat → Int32) → (Nat → Int64) → Prop) (p1 : Int32) (p2 : Int32) (p3 : Int32) (p4 : Int64) (m_edges : Int32) (m_edgeFrom : Nat → Int32) (m_edgeTo : Nat → Int32) (m_room : Nat → Int32) (m_price : Nat → Int64) (hw : P_X11_edge post p1 p2 p3 p4 m_edges m_edgeFrom m_edgeTo m_room m_price) : Met l yX11_edge wsX11_edge rm_X11_edge (va_Pc [.ref (q 0), .int p1, .int p2, .int p3, .long p4] (hPre G K tb [oX11 q m_kinds m_weighings m_spanLow m_spanHigh m_events m_days m_edges m_crew m_breakages, aI K (q 18) 1000 m_edgeFrom, aI K (q 19) 1000 m_edgeTo, aI K (q 20) 1000 m_room, aJ K (q 21) 1000 m_price] sz)) (va_Qv (fun (u : Int32 × (Nat → Int32) × (Nat → Int32) × (Nat → Int32) × (Nat → Int64)) => post u.1 u.2.1 u.2.2.1 u.2.2.2.1 u.2.2.2.2) (fun u => hB G K (va_A [oX11 q m_kinds m_weighings m_spanLow m_spanHigh m_events m_days m_edges m_crew m_breakages, aI K (q 18) 1000 m_edgeFrom, aI K (q 19) 1000 m_edgeTo, aI K (q 20) 1000 m_room, aJ K (q 21) 1000 m_price] sz) [oX11 q m_kinds m_weighings m_spanLow m_spanHigh m_events m_days u.1 m_crew m_breakages, aI K (q 18) 1000 u.2.1, aI K (q 19) 1000 u.2.2.1, aI K (q 20) 1000 u.2.2.2.1, aJ K (q 21) 1000 u.2.2.2.2]) (va_A [oX11 q m_kinds m_weighings m_spanLow m_spanHigh m_events m_days m_edges m_crew m_breakages, aI K (q 18) 1000 m_edgeFrom, aI K (q 19) 1000 m_edgeTo, aI K (q 20) 1000 m_room, aJ K (q 21) 1000 m_price] sz)) 0 0 (va_A [oX11 q m_kinds m_weighings m_spanLow m_spanHigh m_events m_days m_edges m_crew m_breakages, aI K (q 18) 1000 m_edgeFrom, aI K (q 19) 1000 m_edgeTo, aI K (q 20) 1000 m_room, aJ K (q 21) 1000 m_price] sz) := by
  refine hMet (fun A => va_Qv (fun (u : Int32 × (Nat → Int32) × (Nat → Int32) × (Nat → Int32) × (Nat → Int64)) => post u.1 u.2.1 u.2.2.1 u.2.2.2.1 u.2.2.2.2) (fun u => hB G K A [oX11 q m_kinds m_weighings m_spanLow m_spanHigh m_events m_days u.1 m_crew m_breakages, aI K (q 18) 1000 u.2.1, aI K (q 19) 1000 u.2.2.1, aI K (q 20) 1000 u.2.2.2.1, aJ K (q 21) 1000 u.2.2.2.2]) A) (by decide) rfl (Nat.le_of_ble_eq_true rfl) ?_
  intro p e s m av below meth c A Q ls hx hb hr hml hts hown hlocks hnm hA hP hK hD hS hE hQ hl
  have hts : ∀ w ∈ wsX11_edge, w.before av s = true := hts
  have hown : s.vm.findClass RX11 = some m.cls := hown
  have hl : lv_has ls 6 [(0, .ref (q 0)), (1, .int p1), (2, .int p2), (3, .int p3), (4, .long p4)] := hl
  unfold P_X11_edge at hw
  refine lv_aload_n (pc := 0) hx hb dX11_edge_0 rfl (lv_at hl 0 rfl) ?_
  refine va_get (pc := 1) (D := G) (ci := 11) (v := .ref (q 18)) (C := RX11) (T := TX11) (N := 45) hx hb hts iw_X11_edge_X11 hown hK hP 0 rfl rfl 24 (by decide) (hts _ (List.mem_of_getElem? (i := 1) rfl)) (fun _ h9 => h9) rfl dX11_edge_1 ?_
  refine lv_aload_n (pc := 4) hx hb dX11_edge_4 rfl (lv_at hl 0 rfl) ?_
  refine va_get (pc := 5) (D := G) (ci := 11) (v := .int m_edges) (C := RX11) (T := TX11) (N := 45) hx hb hts iw_X11_edge_X11 hown hK hP 0 rfl rfl 23 (by decide) (hts _ (List.mem_of_getElem? (i := 2) rfl)) (fun _ h9 => h9) rfl dX11_edge_5 ?_
  refine lv_iload_n (pc := 8) hx hb dX11_edge_8 rfl (lv_at hl 1 rfl) ?_
  obtain ⟨h_1, hw⟩ := hw
  refine va_iast (pc := 9) hx hb hK hP hD hS 1 0 rfl rfl h_1 dX11_edge_9 (fun H locs hP hD hS => ?_)
  obtain ⟨m_edgeFrom_2, em_edgeFrom_2⟩ : ∃ z : Nat → Int32, z = upd m_edgeFrom m_edges.toNatClampNeg p1 := ⟨_, rfl⟩
  have hP : va_P G vwCl [oX11 q m_kinds m_weighings m_spanLow m_spanHigh m_events m_days m_edges m_crew m_breakages, aI K (q 18) 1000 m_edgeFrom_2, aI K (q 19) 1000 m_edgeTo, aI K (q 20) 1000 m_room, aJ K (q 21) 1000 m_price] H := by rw [em_edgeFrom_2]; exact hP
  have hD : va_D A [oX11 q m_kinds m_weighings m_spanLow m_spanHigh m_events m_days m_edges m_crew m_breakages, aI K (q 18) 1000 m_edgeFrom_2, aI K (q 19) 1000 m_edgeTo, aI K (q 20) 1000 m_room, aJ K (q 21) 1000 m_price] := by rw [em_edgeFrom_2]; exact hD
  replace hw := hw m_edgeFrom_2 em_edgeFrom_2
  refine lv_aload_n (pc := 10) hx hb dX11_edge_10 rfl (lv_at hl 0 rfl) ?_
  refine va_get (pc := 11) (D := G) (ci := 11) (v := .ref (q 19)) (C := RX11) (T := TX11) (N := 45) hx hb hts iw_X11_edge_X11 hown hK hP 0 rfl rfl 25 (by decide) (hts _ (List.mem_of_getElem? (i := 3) rfl)) (fun _ h9 => h9) rfl dX11_edge_11 ?_
  refine lv_aload_n (pc := 14) hx hb dX11_edge_14 rfl (lv_at hl 0 rfl) ?_
  refine va_get (pc := 15) (D := G) (ci := 11) (v := .int m_edges) (C := RX11) (T := TX11) (N := 45) hx hb hts iw_X11_edge_X11 hown hK hP 0 rfl rfl 23 (by decide) (hts _ (List.mem_of_getElem? (i := 2) rfl)) (fun _ h9 => h9) rfl dX11_edge_15 ?_
  refine lv_iload_n (pc := 18) hx hb dX11_edge_18 rfl (lv_at hl 2 rfl) ?_
  refine va_iast (pc := 19) hx hb hK hP hD hS 2 0 rfl rfl h_1 dX11_edge_19 (fun H locs hP hD hS => ?_)
  obtain ⟨m_edgeTo_3, em_edgeTo_3⟩ : ∃ z : Nat → Int32, z = upd m_edgeTo m_edges.toNatClampNeg p2 := ⟨_, rfl⟩
  have hP : va_P G vwCl [oX11 q m_kinds m_weighings m_spanLow m_spanHigh m_events m_days m_edges m_crew m_breakages, aI K (q 18) 1000 m_edgeFrom_2, aI K (q 19) 1000 m_edgeTo_3, aI K (q 20) 1000 m_room, aJ K (q 21) 1000 m_price] H := by rw [em_edgeTo_3]; exact hP
  have hD : va_D A [oX11 q m_kinds m_weighings m_spanLow m_spanHigh m_events m_days m_edges m_crew m_breakages, aI K (q 18) 1000 m_edgeFrom_2, aI K (q 19) 1000 m_edgeTo_3, aI K (q 20) 1000 m_room, aJ K (q 21) 1000 m_price] := by rw [em_edgeTo_3]; exact hD
  replace hw := hw m_edgeTo_3 em_edgeTo_3
  refine lv_aload_n (pc := 20) hx hb dX11_edge_20 rfl (lv_at hl 0 rfl) ?_
  refine va_get (pc := 21) (D := G) (ci := 11) (v := .ref (q 20)) (C := RX11) (T := TX11) (N := 45) hx hb hts iw_X11_edge_X11 hown hK hP 0 rfl rfl 26 (by decide) (hts _ (List.mem_of_getElem? (i := 4) rfl)) (fun _ h9 => h9) rfl dX11_edge_21 ?_
  refine lv_aload_n (pc := 24) hx hb dX11_edge_24 rfl (lv_at hl 0 rfl) ?_
  refine va_get (pc := 25) (D := G) (ci := 11) (v := .int m_edges) (C := RX11) (T := TX11) (N := 45) hx hb hts iw_X11_edge_X11 hown hK hP 0 rfl rfl 23 (by decide) (hts _ (List.mem_of_getElem? (i := 2) rfl)) (fun _ h9 => h9) rfl dX11_edge_25 ?_
  refine lv_iload_n (pc := 28) hx hb dX11_edge_28 rfl (lv_at hl 3 rfl) ?_
  refine va_iast (pc := 29) hx hb hK hP hD hS 3 0 rfl rfl h_1 dX11_edge_29 (fun H locs hP hD hS => ?_)
  obtain ⟨m_room_4, em_room_4⟩ : ∃ z : Nat → Int32, z = upd m_room m_edges.toNatClampNeg p3 := ⟨_, rfl⟩
  have hP : va_P G vwCl [oX11 q m_kinds m_weighings m_spanLow m_spanHigh m_events m_days m_edges m_crew m_breakages, aI K (q 18) 1000 m_edgeFrom_2, aI K (q 19) 1000 m_edgeTo_3, aI K (q 20) 1000 m_room_4, aJ K (q 21) 1000 m_price] H := by rw [em_room_4]; exact hP
  have hD : va_D A [oX11 q m_kinds m_weighings m_spanLow m_spanHigh m_events m_days m_edges m_crew m_breakages, aI K (q 18) 1000 m_edgeFrom_2, aI K (q 19) 1000 m_edgeTo_3, aI K (q 20) 1000 m_room_4, aJ K (q 21) 1000 m_price] := by rw [em_room_4]; exact hD
  replace hw := hw m_room_4 em_room_4
  refine lv_aload_n (pc := 30) hx hb dX11_edge_30 rfl (lv_at hl 0 rfl) ?_
  refine va_get (pc := 31) (D := G) (ci := 11) (v := .ref (q 21)) (C := RX11) (T := TX11) (N := 45) hx hb hts iw_X11_edge_X11 hown hK hP 0 rfl rfl 27 (by decide) (hts _ (List.mem_of_getElem? (i := 5) rfl)) (fun _ h9 => h9) rfl dX11_edge_31 ?_
  refine lv_aload_n (pc := 34) hx hb dX11_edge_34 rfl (lv_at hl 0 rfl) ?_
  refine va_get (pc := 35) (D := G) (ci := 11) (v := .int m_edges) (C := RX11) (T := TX11) (N := 45) hx hb hts iw_X11_edge_X11 hown hK hP 0 rfl rfl 23 (by decide) (hts _ (List.mem_of_getElem? (i := 2) rfl)) (fun _ h9 => h9) rfl dX11_edge_35 ?_
  refine lv_lload (pc := 38) hx hb dX11_edge_38 (lv_at hl 4 rfl) ?_
  refine va_last (pc := 40) hx hb hK hP hD hS 4 1 rfl rfl h_1 dX11_edge_40 (fun H locs hP hD hS => ?_)
  obtain ⟨m_price_5, em_price_5⟩ : ∃ z : Nat → Int64, z = vp_updL m_price m_edges.toNatClampNeg p4 := ⟨_, rfl⟩
  have hP : va_P G vwCl [oX11 q m_kinds m_weighings m_spanLow m_spanHigh m_events m_days m_edges m_crew m_breakages, aI K (q 18) 1000 m_edgeFrom_2, aI K (q 19) 1000 m_edgeTo_3, aI K (q 20) 1000 m_room_4, aJ K (q 21) 1000 m_price_5] H := by rw [em_price_5]; exact hP
  have hD : va_D A [oX11 q m_kinds m_weighings m_spanLow m_spanHigh m_events m_days m_edges m_crew m_breakages, aI K (q 18) 1000 m_edgeFrom_2, aI K (q 19) 1000 m_edgeTo_3, aI K (q 20) 1000 m_room_4, aJ K (q 21) 1000 m_price_5] := by rw [em_price_5]; exact hD
  replace hw := hw m_price_5 em_price_5
  refine lv_aload_n (pc := 41) hx hb dX11_edge_41 rfl (lv_at hl 0 rfl) ?_
  refine va_get (pc := 42) (D := G) (ci := 11) (v := .ref (q 18)) (C := RX11) (T := TX11) (N := 45) hx hb hts iw_X11_edge_X11 hown hK hP 0 rfl rfl 24 (by decide) (hts _ (List.mem_of_getElem? (i := 1) rfl)) (fun _ h9 => h9) rfl dX11_edge_42 ?_
  refine lv_aload_n (pc := 45) hx hb dX11_edge_45 rfl (lv_at hl 0 rfl) ?_
  refine va_get (pc := 46) (D := G) (ci := 11) (v := .int m_edges) (C := RX11) (T := TX11) (N := 45) hx hb hts iw_X11_edge_X11 hown hK hP 0 rfl rfl 23 (by decide) (hts _ (List.mem_of_getElem? (i := 2) rfl)) (fun _ h9 => h9) rfl dX11_edge_46 ?_
  refine lv_iconst (pc := 49) (v := (1 : Int32)) hx hb dX11_edge_49 (by decide) ?_
  refine lv_iadd (pc := 50) hx hb dX11_edge_50 ?_
  refine lv_iload_n (pc := 51) hx hb dX11_edge_51 rfl (lv_at hl 2 rfl) ?_
  obtain ⟨h_6, hw⟩ := hw
  refine va_iast (pc := 52) hx hb hK hP hD hS 1 0 rfl rfl h_6 dX11_edge_52 (fun H locs hP hD hS => ?_)
  obtain ⟨m_edgeFrom_7, em_edgeFrom_7⟩ : ∃ z : Nat → Int32, z = upd m_edgeFrom_2 (m_edges + (1 : Int32)).toNatClampNeg p2 := ⟨_, rfl⟩
  have hP : va_P G vwCl [oX11 q m_kinds m_weighings m_spanLow m_spanHigh m_events m_days m_edges m_crew m_breakages, aI K (q 18) 1000 m_edgeFrom_7, aI K (q 19) 1000 m_edgeTo_3, aI K (q 20) 1000 m_room_4, aJ K (q 21) 1000 m_price_5] H := by rw [em_edgeFrom_7]; exact hP
  have hD : va_D A [oX11 q m_kinds m_weighings m_spanLow m_spanHigh m_events m_days m_edges m_crew m_breakages, aI K (q 18) 1000 m_edgeFrom_7, aI K (q 19) 1000 m_edgeTo_3, aI K (q 20) 1000 m_room_4, aJ K (q 21) 1000 m_price_5] := by rw [em_edgeFrom_7]; exact hD
  replace hw := hw m_edgeFrom_7 em_edgeFrom_7
  refine lv_aload_n (pc := 53) hx hb dX11_edge_53 rfl (lv_at hl 0 rfl) ?_
  refine va_get (pc := 54) (D := G) (ci := 11) (v := .ref (q 19)) (C := RX11) (T := TX11) (N := 45) hx hb hts iw_X11_edge_X11 hown hK hP 0 rfl rfl 25 (by decide) (hts _ (List.mem_of_getElem? (i := 3) rfl)) (fun _ h9 => h9) rfl dX11_edge_54 ?_
  refine lv_aload_n (pc := 57) hx hb dX11_edge_57 rfl (lv_at hl 0 rfl) ?_
  refine va_get (pc := 58) (D := G) (ci := 11) (v := .int m_edges) (C := RX11) (T := TX11) (N := 45) hx hb hts iw_X11_edge_X11 hown hK hP 0 rfl rfl 23 (by decide) (hts _ (List.mem_of_getElem? (i := 2) rfl)) (fun _ h9 => h9) rfl dX11_edge_58 ?_
  refine lv_iconst (pc := 61) (v := (1 : Int32)) hx hb dX11_edge_61 (by decide) ?_
  refine lv_iadd (pc := 62) hx hb dX11_edge_62 ?_
  refine lv_iload_n (pc := 63) hx hb dX11_edge_63 rfl (lv_at hl 1 rfl) ?_
  refine va_iast (pc := 64) hx hb hK hP hD hS 2 0 rfl rfl h_6 dX11_edge_64 (fun H locs hP hD hS => ?_)
  obtain ⟨m_edgeTo_8, em_edgeTo_8⟩ : ∃ z : Nat → Int32, z = upd m_edgeTo_3 (m_edges + (1 : Int32)).toNatClampNeg p1 := ⟨_, rfl⟩
  have hP : va_P G vwCl [oX11 q m_kinds m_weighings m_spanLow m_spanHigh m_events m_days m_edges m_crew m_breakages, aI K (q 18) 1000 m_edgeFrom_7, aI K (q 19) 1000 m_edgeTo_8, aI K (q 20) 1000 m_room_4, aJ K (q 21) 1000 m_price_5] H := by rw [em_edgeTo_8]; exact hP
  have hD : va_D A [oX11 q m_kinds m_weighings m_spanLow m_spanHigh m_events m_days m_edges m_crew m_breakages, aI K (q 18) 1000 m_edgeFrom_7, aI K (q 19) 1000 m_edgeTo_8, aI K (q 20) 1000 m_room_4, aJ K (q 21) 1000 m_price_5] := by rw [em_edgeTo_8]; exact hD
  replace hw := hw m_edgeTo_8 em_edgeTo_8
  refine lv_aload_n (pc := 65) hx hb dX11_edge_65 rfl (lv_at hl 0 rfl) ?_
  refine va_get (pc := 66) (D := G) (ci := 11) (v := .ref (q 20)) (C := RX11) (T := TX11) (N := 45) hx hb hts iw_X11_edge_X11 hown hK hP 0 rfl rfl 26 (by decide) (hts _ (List.mem_of_getElem? (i := 4) rfl)) (fun _ h9 => h9) rfl dX11_edge_66 ?_
  refine lv_aload_n (pc := 69) hx hb dX11_edge_69 rfl (lv_at hl 0 rfl) ?_
  refine va_get (pc := 70) (D := G) (ci := 11) (v := .int m_edges) (C := RX11) (T := TX11) (N := 45) hx hb hts iw_X11_edge_X11 hown hK hP 0 rfl rfl 23 (by decide) (hts _ (List.mem_of_getElem? (i := 2) rfl)) (fun _ h9 => h9) rfl dX11_edge_70 ?_
  refine lv_iconst (pc := 73) (v := (1 : Int32)) hx hb dX11_edge_73 (by decide) ?_
  refine lv_iadd (pc := 74) hx hb dX11_edge_74 ?_
  refine lv_iconst (pc := 75) (v := (0 : Int32)) hx hb dX11_edge_75 (by decide) ?_
  refine va_iast (pc := 76) hx hb hK hP hD hS 3 0 rfl rfl h_6 dX11_edge_76 (fun H locs hP hD hS => ?_)
  obtain ⟨m_room_9, em_room_9⟩ : ∃ z : Nat → Int32, z = upd m_room_4 (m_edges + (1 : Int32)).toNatClampNeg (0 : Int32) := ⟨_, rfl⟩
  have hP : va_P G vwCl [oX11 q m_kinds m_weighings m_spanLow m_spanHigh m_events m_days m_edges m_crew m_breakages, aI K (q 18) 1000 m_edgeFrom_7, aI K (q 19) 1000 m_edgeTo_8, aI K (q 20) 1000 m_room_9, aJ K (q 21) 1000 m_price_5] H := by rw [em_room_9]; exact hP
  have hD : va_D A [oX11 q m_kinds m_weighings m_spanLow m_spanHigh m_events m_days m_edges m_crew m_breakages, aI K (q 18) 1000 m_edgeFrom_7, aI K (q 19) 1000 m_edgeTo_8, aI K (q 20) 1000 m_room_9, aJ K (q 21) 1000 m_price_5] := by rw [em_room_9]; exact hD
  replace hw := hw m_room_9 em_room_9
  refine lv_aload_n (pc := 77) hx hb dX11_edge_77 rfl (lv_at hl 0 rfl) ?_
  refine va_get (pc := 78) (D := G) (ci := 11) (v := .ref (q 21)) (C := RX11) (T := TX11) (N := 45) hx hb hts iw_X11_edge_X11 hown hK hP 0 rfl rfl 27 (by decide) (hts _ (List.mem_of_getElem? (i := 5) rfl)) (fun _ h9 => h9) rfl dX11_edge_78 ?_
  refine lv_aload_n (pc := 81) hx hb dX11_edge_81 rfl (lv_at hl 0 rfl) ?_
  refine va_get (pc := 82) (D := G) (ci := 11) (v := .int m_edges) (C := RX11) (T := TX11) (N := 45) hx hb hts iw_X11_edge_X11 hown hK hP 0 rfl rfl 23 (by decide) (hts _ (List.mem_of_getElem? (i := 2) rfl)) (fun _ h9 => h9) rfl dX11_edge_82 ?_
  refine lv_iconst (pc := 85) (v := (1 : Int32)) hx hb dX11_edge_85 (by decide) ?_
  refine lv_iadd (pc := 86) hx hb dX11_edge_86 ?_
  refine lv_lload (pc := 87) hx hb dX11_edge_87 (lv_at hl 4 rfl) ?_
  refine lv_lneg (pc := 89) hx hb dX11_edge_89 ?_
  refine va_last (pc := 90) hx hb hK hP hD hS 4 1 rfl rfl h_6 dX11_edge_90 (fun H locs hP hD hS => ?_)
  obtain ⟨m_price_10, em_price_10⟩ : ∃ z : Nat → Int64, z = vp_updL m_price_5 (m_edges + (1 : Int32)).toNatClampNeg (-p4) := ⟨_, rfl⟩
  have hP : va_P G vwCl [oX11 q m_kinds m_weighings m_spanLow m_spanHigh m_events m_days m_edges m_crew m_breakages, aI K (q 18) 1000 m_edgeFrom_7, aI K (q 19) 1000 m_edgeTo_8, aI K (q 20) 1000 m_room_9, aJ K (q 21) 1000 m_price_10] H := by rw [em_price_10]; exact hP
  have hD : va_D A [oX11 q m_kinds m_weighings m_spanLow m_spanHigh m_events m_days m_edges m_crew m_breakages, aI K (q 18) 1000 m_edgeFrom_7, aI K (q 19) 1000 m_edgeTo_8, aI K (q 20) 1000 m_room_9, aJ K (q 21) 1000 m_price_10] := by rw [em_price_10]; exact hD
  replace hw := hw m_price_10 em_price_10
  refine lv_aload_n (pc := 91) hx hb dX11_edge_91 rfl (lv_at hl 0 rfl) ?_
  refine lv_dup (pc := 92) hx hb dX11_edge_92 rfl ?_
  refine va_get (pc := 93) (D := G) (ci := 11) (v := .int m_edges) (C := RX11) (T := TX11) (N := 45) hx hb hts iw_X11_edge_X11 hown hK hP 0 rfl rfl 23 (by decide) (hts _ (List.mem_of_getElem? (i := 2) rfl)) (fun _ h9 => h9) rfl dX11_edge_93 ?_
  refine lv_iconst (pc := 96) (v := (2 : Int32)) hx hb dX11_edge_96 (by decide) ?_
  refine lv_iadd (pc := 97) hx hb dX11_edge_97 ?_
  refine lv_topi (fun y_11 ey_11 => ?_)
  replace hw := hw y_11 ey_11
  refine va_put (pc := 98) (D := G) (ci := 11) (v := .int y_11) (ty := .int) (C := RX11) (T := TX11) (N := 45) hx hb hts iw_X11_edge_X11 tyX11 tyX11_ok nmX11 hown hK hP hD hS 0 rfl rfl 23 (by decide) (hts _ (List.mem_of_getElem? (i := 2) rfl)) (fun _ h9 => h9) rfl (by decide +kernel) rfl rfl (Nat.le_of_ble_eq_true rfl) dX11_edge_98 (fun H locs hP hD hS => ?_)
  have hP : va_P G vwCl [oX11 q m_kinds m_weighings m_spanLow m_spanHigh m_events m_days y_11 m_crew m_breakages, aI K (q 18) 1000 m_edgeFrom_7, aI K (q 19) 1000 m_edgeTo_8, aI K (q 20) 1000 m_room_9, aJ K (q 21) 1000 m_price_10] H := hP
  have hD : va_D A [oX11 q m_kinds m_weighings m_spanLow m_spanHigh m_events m_days y_11 m_crew m_breakages, aI K (q 18) 1000 m_edgeFrom_7, aI K (q 19) 1000 m_edgeTo_8, aI K (q 20) 1000 m_room_9, aJ K (q 21) 1000 m_price_10] := hD
  exact hRetV (S := Int32 × (Nat → Int32) × (Nat → Int32) × (Nat → Int32) × (Nat → Int64)) (y_11, m_edgeFrom_7, m_edgeTo_8, m_room_9, m_price_10) hx hb hr hlocks hQ hw hP hK hD hS dX11_edge_101
def P_X11_layNet (post : Int32 → (Nat → Int32) → (Nat → Int32) → (Nat → Int32) → (Nat → Int64) → Prop) (p1 : Int32) (m_book : Nat → Int32) (m_farness : Nat → Int32) (m_days : Int32) (m_need : Nat → Int32) (m_edges : Int32) (m_edgeFrom : Nat → Int32) (m_edgeTo : Nat → Int32) (m_room : Nat → Int32) (m_price : Nat → Int64) : Prop :=
  ∀ (X7 : Int32 → Int32 → (Nat → Int32) → (Nat → Int32) → (Nat → Int32) → (Nat → Int64) → Prop),
  ∀ (X40 : Int32 → Int32 → (Nat → Int32) → (Nat → Int32) → (Nat → Int32) → (Nat → Int64) → Prop),
  ∀ (X50 : Int32 → Int32 → Int32 → (Nat → Int32) → (Nat → Int32) → (Nat → Int32) → (Nat → Int64) → Prop),
  ∀ (X84 : Int32 → Int32 → Int32 → Int32 → Int32 → (Nat → Int32) → (Nat → Int32) → (Nat → Int32) → (Nat → Int64) → Prop),
  ∀ (X134 : Int32 → Int32 → Int32 → (Nat → Int32) → (Nat → Int32) → (Nat → Int32) → (Nat → Int64) → Prop),
  ∀ (X217 : Int32 → Int32 → (Nat → Int32) → (Nat → Int32) → (Nat → Int32) → (Nat → Int64) → Prop),
  (∀ (x2 : Int32) (m_edges : Int32) (m_edgeFrom : Nat → Int32) (m_edgeTo : Nat → Int32) (m_room : Nat → Int32) (m_price : Nat → Int64), ((((5 : Int32) ≤ x2 → X40 (0 : Int32) m_edges m_edgeFrom m_edgeTo m_room m_price) ∧ (¬ (5 : Int32) ≤ x2 → vp_in (((6 : Int32) * x2) + p1) 30 ∧ P_X11_edge (fun m_edges_3 m_edgeFrom_4 m_edgeTo_5 m_room_6 m_price_7 => ∀ y_8 : Int32, y_8 = (x2 + (1 : Int32)) → X7 y_8 m_edges_3 m_edgeFrom_4 m_edgeTo_5 m_room_6 m_price_7) (0 : Int32) ((2 : Int32) + x2) (m_book (((6 : Int32) * x2) + p1).toNatClampNeg) (0 : Int64) m_edges m_edgeFrom m_edgeTo m_room m_price))) → X7 x2 m_edges m_edgeFrom m_edgeTo m_room m_price) →
  (∀ (x2 : Int32) (m_edges : Int32) (m_edgeFrom : Nat → Int32) (m_edgeTo : Nat → Int32) (m_room : Nat → Int32) (m_price : Nat → Int64), (((m_days ≤ x2 → X217 (0 : Int32) m_edges m_edgeFrom m_edgeTo m_room m_price) ∧ (¬ m_days ≤ x2 → X50 x2 (0 : Int32) m_edges m_edgeFrom m_edgeTo m_room m_price))) → X40 x2 m_edges m_edgeFrom m_edgeTo m_room m_price) →
  (∀ (x2 : Int32) (x3 : Int32) (m_edges : Int32) (m_edgeFrom : Nat → Int32) (m_edgeTo : Nat → Int32) (m_room : Nat → Int32) (m_price : Nat → Int64), ((((5 : Int32) ≤ x3 → X134 x2 (0 : Int32) m_edges m_edgeFrom m_edgeTo m_room m_price) ∧ (¬ (5 : Int32) ≤ x3 → ∀ v_21 : Int32, v_21 = (if x2 = (0 : Int32) then ((2 : Int32) + x3) else (((((7 : Int32) + ((10 : Int32) * x2)) - (10 : Int32)) + (5 : Int32)) + x3)) → X84 x2 x3 v_21 (0 : Int32) m_edges m_edgeFrom m_edgeTo m_room m_price))) → X50 x2 x3 m_edges m_edgeFrom m_edgeTo m_room m_price) →
  (∀ (x2 : Int32) (x3 : Int32) (x4 : Int32) (x5 : Int32) (m_edges : Int32) (m_edgeFrom : Nat → Int32) (m_edgeTo : Nat → Int32) (m_room : Nat → Int32) (m_price : Nat → Int64), ((((5 : Int32) ≤ x5 → ∀ y_37 : Int32, y_37 = (x3 + (1 : Int32)) → X50 x2 y_37 m_edges m_edgeFrom m_edgeTo m_room m_price) ∧ (¬ (5 : Int32) ≤ x5 → vp_in (((5 : Int32) * x3) + x5) 25 ∧ P_X11_edge (fun m_edges_39 m_edgeFrom_40 m_edgeTo_41 m_room_42 m_price_43 => ∀ y_44 : Int32, y_44 = (x5 + (1 : Int32)) → X84 x2 x3 x4 y_44 m_edges_39 m_edgeFrom_40 m_edgeTo_41 m_room_42 m_price_43) x4 (((7 : Int32) + ((10 : Int32) * x2)) + x5) (1000000 : Int32) (m_farness (((5 : Int32) * x3) + x5).toNatClampNeg).toInt64 m_edges m_edgeFrom m_edgeTo m_room m_price))) → X84 x2 x3 x4 x5 m_edges m_edgeFrom m_edgeTo m_room m_price) →
  (∀ (x2 : Int32) (x3 : Int32) (m_edges : Int32) (m_edgeFrom : Nat → Int32) (m_edgeTo : Nat → Int32) (m_room : Nat → Int32) (m_price : Nat → Int64), ((((5 : Int32) ≤ x3 → ∀ y_23 : Int32, y_23 = (x2 + (1 : Int32)) → X40 y_23 m_edges m_edgeFrom m_edgeTo m_room m_price) ∧ (¬ (5 : Int32) ≤ x3 → vp_in (((5 : Int32) * x2) + x3) 60 ∧ P_X11_edge (fun m_edges_25 m_edgeFrom_26 m_edgeTo_27 m_room_28 m_price_29 => P_X11_edge (fun m_edges_30 m_edgeFrom_31 m_edgeTo_32 m_room_33 m_price_34 => ∀ y_35 : Int32, y_35 = (x3 + (1 : Int32)) → X134 x2 y_35 m_edges_30 m_edgeFrom_31 m_edgeTo_32 m_room_33 m_price_34) (((7 : Int32) + ((10 : Int32) * x2)) + x3) ((((7 : Int32) + ((10 : Int32) * x2)) + (5 : Int32)) + x3) (1000000 : Int32) (0 : Int64) m_edges_25 m_edgeFrom_26 m_edgeTo_27 m_room_28 m_price_29) (((7 : Int32) + ((10 : Int32) * x2)) + x3) ((((7 : Int32) + ((10 : Int32) * x2)) + (5 : Int32)) + x3) (m_need (((5 : Int32) * x2) + x3).toNatClampNeg) (-10000000 : Int64) m_edges m_edgeFrom m_edgeTo m_room m_price))) → X134 x2 x3 m_edges m_edgeFrom m_edgeTo m_room m_price) →
  (∀ (x2 : Int32) (m_edges : Int32) (m_edgeFrom : Nat → Int32) (m_edgeTo : Nat → Int32) (m_room : Nat → Int32) (m_price : Nat → Int64), ((((5 : Int32) ≤ x2 → post m_edges m_edgeFrom m_edgeTo m_room m_price) ∧ (¬ (5 : Int32) ≤ x2 → ∀ v_12 : Int32, v_12 = (if m_days = (0 : Int32) then ((2 : Int32) + x2) else (((((7 : Int32) + ((10 : Int32) * m_days)) - (10 : Int32)) + (5 : Int32)) + x2)) → P_X11_edge (fun m_edges_13 m_edgeFrom_14 m_edgeTo_15 m_room_16 m_price_17 => ∀ y_18 : Int32, y_18 = (x2 + (1 : Int32)) → X217 y_18 m_edges_13 m_edgeFrom_14 m_edgeTo_15 m_room_16 m_price_17) v_12 (1 : Int32) (1000000 : Int32) (0 : Int64) m_edges m_edgeFrom m_edgeTo m_room m_price))) → X217 x2 m_edges m_edgeFrom m_edgeTo m_room m_price) →
  X7 (0 : Int32) (0 : Int32) m_edgeFrom m_edgeTo m_room m_price
abbrev rm_X11_layNet : Room := { frames := 1, cells := 0, slots := 0, locals := 25 }
theorem iw_X11_layNet_X11 : ∀ w ∈ wsX110, w ∈ wsX11_layNet := by decide +kernel
set_option maxHeartbeats 4000000 in
set_option maxRecDepth 100000 in
theorem c_X11_layNet (l : Launch) (G : va_G) (K : ClassId × ClassId × ClassId) (tb q : Nat → Nat) (sz : Nat) (m_kinds : Int32) (m_weighings : Int32) (m_spanLow : Int32) (m_spanHigh : Int32) (m_events : Int32) (m_crew : Int32) (m_breakages : Int32) (post : Int32 → (Nat → Int32) → (Nat → Int32) → (Nat → Int32) → (Nat → Int64) → Prop) (p1 : Int32) (m_book : Nat → Int32) (m_farness : Nat → Int32) (m_days : Int32) (m_need : Nat → Int32) (m_edges : Int32) (m_edgeFrom : Nat → Int32) (m_edgeTo : Nat → Int32) (m_room : Nat → Int32) (m_price : Nat → Int64) (hw : P_X11_layNet post p1 m_book m_farness m_days m_need m_edges m_edgeFrom m_edgeTo m_room m_price) : Met l yX11_layNet wsX11_layNet rm_X11_layNet (va_Pc [.ref (q 0), .int p1] (hPre G K tb [oX11 q m_kinds m_weighings m_spanLow m_spanHigh m_events m_days m_edges m_crew m_breakages, aI K (q 3) 30 m_book, aI K (q 10) 25 m_farness, aI K (q 17) 60 m_need, aI K (q 18) 1000 m_edgeFrom, aI K (q 19) 1000 m_edgeTo, aI K (q 20) 1000 m_room, aJ K (q 21) 1000 m_price] sz)) (va_Qv (fun (u : Int32 × (Nat → Int32) × (Nat → Int32) × (Nat → Int32) × (Nat → Int64)) => post u.1 u.2.1 u.2.2.1 u.2.2.2.1 u.2.2.2.2) (fun u => hB G K (va_A [oX11 q m_kinds m_weighings m_spanLow m_spanHigh m_events m_days m_edges m_crew m_breakages, aI K (q 3) 30 m_book, aI K (q 10) 25 m_farness, aI K (q 17) 60 m_need, aI K (q 18) 1000 m_edgeFrom, aI K (q 19) 1000 m_edgeTo, aI K (q 20) 1000 m_room, aJ K (q 21) 1000 m_price] sz) [oX11 q m_kinds m_weighings m_spanLow m_spanHigh m_events m_days u.1 m_crew m_breakages, aI K (q 3) 30 m_book, aI K (q 10) 25 m_farness, aI K (q 17) 60 m_need, aI K (q 18) 1000 u.2.1, aI K (q 19) 1000 u.2.2.1, aI K (q 20) 1000 u.2.2.2.1, aJ K (q 21) 1000 u.2.2.2.2]) (va_A [oX11 q m_kinds m_weighings m_spanLow m_spanHigh m_events m_days m_edges m_crew m_breakages, aI K (q 3) 30 m_book, aI K (q 10) 25 m_farness, aI K (q 17) 60 m_need, aI K (q 18) 1000 m_edgeFrom, aI K (q 19) 1000 m_edgeTo, aI K (q 20) 1000 m_room, aJ K (q 21) 1000 m_price] sz)) 0 0 (va_A [oX11 q m_kinds m_weighings m_spanLow m_spanHigh m_events m_days m_edges m_crew m_breakages, aI K (q 3) 30 m_book, aI K (q 10) 25 m_farness, aI K (q 17) 60 m_need, aI K (q 18) 1000 m_edgeFrom, aI K (q 19) 1000 m_edgeTo, aI K (q 20) 1000 m_room, aJ K (q 21) 1000 m_price] sz) := by
  refine hMet (fun A => va_Qv (fun (u : Int32 × (Nat → Int32) × (Nat → Int32) × (Nat → Int32) × (Nat → Int64)) => post u.1 u.2.1 u.2.2.1 u.2.2.2.1 u.2.2.2.2) (fun u => hB G K A [oX11 q m_kinds m_weighings m_spanLow m_spanHigh m_events m_days u.1 m_crew m_breakages, aI K (q 3) 30 m_book, aI K (q 10) 25 m_farness, aI K (q 17) 60 m_need, aI K (q 18) 1000 u.2.1, aI K (q 19) 1000 u.2.2.1, aI K (q 20) 1000 u.2.2.2.1, aJ K (q 21) 1000 u.2.2.2.2]) A) (by decide) rfl (Nat.le_of_ble_eq_true rfl) ?_
  intro p e s m av below meth c A Q ls hx hb hr hml hts hown hlocks hnm hA hP hK hD hS hE hQ hl
  have hts : ∀ w ∈ wsX11_layNet, w.before av s = true := hts
  have hown : s.vm.findClass RX11 = some m.cls := hown
  have hl : lv_has ls 6 [(0, .ref (q 0)), (1, .int p1)] := hl
  unfold P_X11_layNet at hw
  replace hw := hw (fun (x2 : Int32) (m_edges : Int32) (m_edgeFrom : Nat → Int32) (m_edgeTo : Nat → Int32) (m_room : Nat → Int32) (m_price : Nat → Int64) => ∀ (H : Heap) (locs : List Loc) (ls : Array Slot), va_P G vwCl [oX11 q m_kinds m_weighings m_spanLow m_spanHigh m_events m_days m_edges m_crew m_breakages, aI K (q 3) 30 m_book, aI K (q 10) 25 m_farness, aI K (q 17) 60 m_need, aI K (q 18) 1000 m_edgeFrom, aI K (q 19) 1000 m_edgeTo, aI K (q 20) 1000 m_room, aJ K (q 21) 1000 m_price] H → va_D A [oX11 q m_kinds m_weighings m_spanLow m_spanHigh m_events m_days m_edges m_crew m_breakages, aI K (q 3) 30 m_book, aI K (q 10) 25 m_farness, aI K (q 17) 60 m_need, aI K (q 18) 1000 m_edgeFrom, aI K (q 19) 1000 m_edgeTo, aI K (q 20) 1000 m_room, aJ K (q 21) 1000 m_price] → va_S A s.heap H locs → lv_has ls 6 [(0, .ref (q 0)), (1, .int p1), (2, .int x2)] → W p l e rm_X11_layNet s m av below meth c H locs 0 0 Q (F0 m 7 ls []))
  replace hw := hw (fun (x2 : Int32) (m_edges : Int32) (m_edgeFrom : Nat → Int32) (m_edgeTo : Nat → Int32) (m_room : Nat → Int32) (m_price : Nat → Int64) => ∀ (H : Heap) (locs : List Loc) (ls : Array Slot), va_P G vwCl [oX11 q m_kinds m_weighings m_spanLow m_spanHigh m_events m_days m_edges m_crew m_breakages, aI K (q 3) 30 m_book, aI K (q 10) 25 m_farness, aI K (q 17) 60 m_need, aI K (q 18) 1000 m_edgeFrom, aI K (q 19) 1000 m_edgeTo, aI K (q 20) 1000 m_room, aJ K (q 21) 1000 m_price] H → va_D A [oX11 q m_kinds m_weighings m_spanLow m_spanHigh m_events m_days m_edges m_crew m_breakages, aI K (q 3) 30 m_book, aI K (q 10) 25 m_farness, aI K (q 17) 60 m_need, aI K (q 18) 1000 m_edgeFrom, aI K (q 19) 1000 m_edgeTo, aI K (q 20) 1000 m_room, aJ K (q 21) 1000 m_price] → va_S A s.heap H locs → lv_has ls 6 [(0, .ref (q 0)), (2, .int x2)] → W p l e rm_X11_layNet s m av below meth c H locs 0 0 Q (F0 m 40 ls []))
  replace hw := hw (fun (x2 : Int32) (x3 : Int32) (m_edges : Int32) (m_edgeFrom : Nat → Int32) (m_edgeTo : Nat → Int32) (m_room : Nat → Int32) (m_price : Nat → Int64) => ∀ (H : Heap) (locs : List Loc) (ls : Array Slot), va_P G vwCl [oX11 q m_kinds m_weighings m_spanLow m_spanHigh m_events m_days m_edges m_crew m_breakages, aI K (q 3) 30 m_book, aI K (q 10) 25 m_farness, aI K (q 17) 60 m_need, aI K (q 18) 1000 m_edgeFrom, aI K (q 19) 1000 m_edgeTo, aI K (q 20) 1000 m_room, aJ K (q 21) 1000 m_price] H → va_D A [oX11 q m_kinds m_weighings m_spanLow m_spanHigh m_events m_days m_edges m_crew m_breakages, aI K (q 3) 30 m_book, aI K (q 10) 25 m_farness, aI K (q 17) 60 m_need, aI K (q 18) 1000 m_edgeFrom, aI K (q 19) 1000 m_edgeTo, aI K (q 20) 1000 m_room, aJ K (q 21) 1000 m_price] → va_S A s.heap H locs → lv_has ls 6 [(0, .ref (q 0)), (2, .int x2), (3, .int x3)] → W p l e rm_X11_layNet s m av below meth c H locs 0 0 Q (F0 m 50 ls []))
  replace hw := hw (fun (x2 : Int32) (x3 : Int32) (x4 : Int32) (x5 : Int32) (m_edges : Int32) (m_edgeFrom : Nat → Int32) (m_edgeTo : Nat → Int32) (m_room : Nat → Int32) (m_price : Nat → Int64) => ∀ (H : Heap) (locs : List Loc) (ls : Array Slot), va_P G vwCl [oX11 q m_kinds m_weighings m_spanLow m_spanHigh m_events m_days m_edges m_crew m_breakages, aI K (q 3) 30 m_book, aI K (q 10) 25 m_farness, aI K (q 17) 60 m_need, aI K (q 18) 1000 m_edgeFrom, aI K (q 19) 1000 m_edgeTo, aI K (q 20) 1000 m_room, aJ K (q 21) 1000 m_price] H → va_D A [oX11 q m_kinds m_weighings m_spanLow m_spanHigh m_events m_days m_edges m_crew m_breakages, aI K (q 3) 30 m_book, aI K (q 10) 25 m_farness, aI K (q 17) 60 m_need, aI K (q 18) 1000 m_edgeFrom, aI K (q 19) 1000 m_edgeTo, aI K (q 20) 1000 m_room, aJ K (q 21) 1000 m_price] → va_S A s.heap H locs → lv_has ls 6 [(0, .ref (q 0)), (2, .int x2), (3, .int x3), (4, .int x4), (5, .int x5)] → W p l e rm_X11_layNet s m av below meth c H locs 0 0 Q (F0 m 84 ls []))
  replace hw := hw (fun (x2 : Int32) (x3 : Int32) (m_edges : Int32) (m_edgeFrom : Nat → Int32) (m_edgeTo : Nat → Int32) (m_room : Nat → Int32) (m_price : Nat → Int64) => ∀ (H : Heap) (locs : List Loc) (ls : Array Slot), va_P G vwCl [oX11 q m_kinds m_weighings m_spanLow m_spanHigh m_events m_days m_edges m_crew m_breakages, aI K (q 3) 30 m_book, aI K (q 10) 25 m_farness, aI K (q 17) 60 m_need, aI K (q 18) 1000 m_edgeFrom, aI K (q 19) 1000 m_edgeTo, aI K (q 20) 1000 m_room, aJ K (q 21) 1000 m_price] H → va_D A [oX11 q m_kinds m_weighings m_spanLow m_spanHigh m_events m_days m_edges m_crew m_breakages, aI K (q 3) 30 m_book, aI K (q 10) 25 m_farness, aI K (q 17) 60 m_need, aI K (q 18) 1000 m_edgeFrom, aI K (q 19) 1000 m_edgeTo, aI K (q 20) 1000 m_room, aJ K (q 21) 1000 m_price] → va_S A s.heap H locs → lv_has ls 6 [(0, .ref (q 0)), (2, .int x2), (3, .int x3)] → W p l e rm_X11_layNet s m av below meth c H locs 0 0 Q (F0 m 134 ls []))
  replace hw := hw (fun (x2 : Int32) (m_edges : Int32) (m_edgeFrom : Nat → Int32) (m_edgeTo : Nat → Int32) (m_room : Nat → Int32) (m_price : Nat → Int64) => ∀ (H : Heap) (locs : List Loc) (ls : Array Slot), va_P G vwCl [oX11 q m_kinds m_weighings m_spanLow m_spanHigh m_events m_days m_edges m_crew m_breakages, aI K (q 3) 30 m_book, aI K (q 10) 25 m_farness, aI K (q 17) 60 m_need, aI K (q 18) 1000 m_edgeFrom, aI K (q 19) 1000 m_edgeTo, aI K (q 20) 1000 m_room, aJ K (q 21) 1000 m_price] H → va_D A [oX11 q m_kinds m_weighings m_spanLow m_spanHigh m_events m_days m_edges m_crew m_breakages, aI K (q 3) 30 m_book, aI K (q 10) 25 m_farness, aI K (q 17) 60 m_need, aI K (q 18) 1000 m_edgeFrom, aI K (q 19) 1000 m_edgeTo, aI K (q 20) 1000 m_room, aJ K (q 21) 1000 m_price] → va_S A s.heap H locs → lv_has ls 6 [(0, .ref (q 0)), (2, .int x2)] → W p l e rm_X11_layNet s m av below meth c H locs 0 0 Q (F0 m 217 ls []))
  replace hw := hw (by
    intro x2 m_edges m_edgeFrom m_edgeTo m_room m_price hw H locs ls hP hD hS hl
    refine lv_iload_n (pc := 7) hx hb dX11_layNet_7 rfl (lv_at hl 2 rfl) ?_
    refine lv_iconst (pc := 8) (v := (5 : Int32)) hx hb dX11_layNet_8 (by decide) ?_
    refine lv_icmp_ge (pc := 9) (tgt := 38) hx hb dX11_layNet_9 (by decide) (fun c_1 => ?_) (fun c_1 => ?_)
    · replace hw := hw.1 c_1
      refine lv_iconst (pc := 38) (v := (0 : Int32)) hx hb dX11_layNet_38 (by decide) ?_
      refine lv_istore_n (pc := 39) (lv' := [(2, .int (0 : Int32)), (0, .ref (q 0)), (1, .int p1)]) hx hb dX11_layNet_39 rfl hl (by decide) rfl (fun ls hl => ?_)
      exact hw _ _ _ hP hD hS (lv_sub hl [1, 0] rfl)
    · replace hw := hw.2 c_1
      refine lv_aload_n (pc := 12) hx hb dX11_layNet_12 rfl (lv_at hl 0 rfl) ?_
      refine lv_iconst (pc := 13) (v := (0 : Int32)) hx hb dX11_layNet_13 (by decide) ?_
      refine lv_iconst (pc := 14) (v := (2 : Int32)) hx hb dX11_layNet_14 (by decide) ?_
      refine lv_iload_n (pc := 15) hx hb dX11_layNet_15 rfl (lv_at hl 2 rfl) ?_
      refine lv_iadd (pc := 16) hx hb dX11_layNet_16 ?_
      refine lv_aload_n (pc := 17) hx hb dX11_layNet_17 rfl (lv_at hl 0 rfl) ?_
      refine va_get (pc := 18) (D := G) (ci := 11) (v := .ref (q 3)) (C := RX11) (T := TX11) (N := 45) hx hb hts iw_X11_layNet_X11 hown hK hP 0 rfl rfl 3 (by decide) (hts _ (List.mem_of_getElem? (i := 2) rfl)) (fun _ h9 => h9) rfl dX11_layNet_18 ?_
      refine lv_bipush (pc := 21) (v := (6 : Int32)) hx hb dX11_layNet_21 (by decide) ?_
      refine lv_iload_n (pc := 23) hx hb dX11_layNet_23 rfl (lv_at hl 2 rfl) ?_
      refine lv_imul (pc := 24) hx hb dX11_layNet_24 ?_
      refine lv_iload_n (pc := 25) hx hb dX11_layNet_25 rfl (lv_at hl 1 rfl) ?_
      refine lv_iadd (pc := 26) hx hb dX11_layNet_26 ?_
      obtain ⟨h_2, hw⟩ := hw
      refine va_iald (pc := 27) hx hb hK hP 1 0 rfl rfl h_2 dX11_layNet_27 ?_
      refine lv_lconst (pc := 28) (v := (0 : Int64)) hx hb dX11_layNet_28 (by decide) ?_
      refine hCallV (pc := 29) (wr := [aI K (q 3) 30 m_book, aI K (q 10) 25 m_farness, aI K (q 17) 60 m_need]) (wsf := fun (u : Int32 × (Nat → Int32) × (Nat → Int32) × (Nat → Int32) × (Nat → Int64)) => [oX11 q m_kinds m_weighings m_spanLow m_spanHigh m_events m_days u.1 m_crew m_breakages, aI K (q 18) 1000 u.2.1, aI K (q 19) 1000 u.2.2.1, aI K (q 20) 1000 u.2.2.2.1, aJ K (q 21) 1000 u.2.2.2.2]) [0, 4, 5, 6, 7] [1, 2, 3] (va_runV (As := [.int (0 : Int32), .int ((2 : Int32) + x2), .int (m_book (((6 : Int32) * x2) + p1).toNatClampNeg), .long (0 : Int64)]) (rest := []) ⟨hx, hb, hml, hown, hts⟩ (c_X11_edge l G K tb q H.size m_kinds m_weighings m_spanLow m_spanHigh m_events m_days m_crew m_breakages _ (0 : Int32) ((2 : Int32) + x2) (m_book (((6 : Int32) * x2) + p1).toNatClampNeg) (0 : Int64) m_edges m_edgeFrom m_edgeTo m_room m_price hw) (cwV 4 hts gX11_layNet_X11_edge rfl rfl rfl (by decide +kernel) ⟨Nat.le_of_ble_eq_true rfl, Nat.le_of_ble_eq_true rfl⟩) (hPreV hE hP hK hD hS hA [0, 4, 5, 6, 7] (by decide) rfl rfl rfl rfl (q0 := 0) (ci := 11) rfl) rfl rfl hl.1 rfl (lv_room (Nat.le_of_ble_eq_true rfl)) dX11_layNet_29 ⟨Nat.zero_le _, Nat.zero_le _⟩) hP hD hS hA rfl rfl (by decide) (by decide) (fun u H locs hw hP hD hS => ?_)
      obtain ⟨m_edges_3, m_edgeFrom_4, m_edgeTo_5, m_room_6, m_price_7⟩ := u
      have hP : va_P G vwCl [oX11 q m_kinds m_weighings m_spanLow m_spanHigh m_events m_days m_edges_3 m_crew m_breakages, aI K (q 3) 30 m_book, aI K (q 10) 25 m_farness, aI K (q 17) 60 m_need, aI K (q 18) 1000 m_edgeFrom_4, aI K (q 19) 1000 m_edgeTo_5, aI K (q 20) 1000 m_room_6, aJ K (q 21) 1000 m_price_7] H := hP.sub [3, 0, 1, 2, 4, 5, 6, 7] rfl
      have hD : va_D A [oX11 q m_kinds m_weighings m_spanLow m_spanHigh m_events m_days m_edges_3 m_crew m_breakages, aI K (q 3) 30 m_book, aI K (q 10) 25 m_farness, aI K (q 17) 60 m_need, aI K (q 18) 1000 m_edgeFrom_4, aI K (q 19) 1000 m_edgeTo_5, aI K (q 20) 1000 m_room_6, aJ K (q 21) 1000 m_price_7] := hD.sub [3, 0, 1, 2, 4, 5, 6, 7] (by decide) rfl
      obtain ⟨y_8, ey_8⟩ : ∃ z : Int32, z = (x2 + (1 : Int32)) := ⟨_, rfl⟩
      replace hw := hw y_8 ey_8
      refine lv_iinc (pc := 32) (v := y_8) (lv' := [(2, .int y_8), (0, .ref (q 0)), (1, .int p1)]) hx hb dX11_layNet_32 hl (k := 2) rfl (by rw [ey_8]; rfl) (by decide) rfl (fun ls hl => ?_)
      refine lv_goto (pc := 35) (tgt := 7) hx hb dX11_layNet_35 (by decide) ?_
      exact hw _ _ _ hP hD hS (lv_sub hl [1, 2, 0] rfl))
  replace hw := hw (by
    intro x2 m_edges m_edgeFrom m_edgeTo m_room m_price hw H locs ls hP hD hS hl
    refine lv_iload_n (pc := 40) hx hb dX11_layNet_40 rfl (lv_at hl 1 rfl) ?_
    refine lv_aload_n (pc := 41) hx hb dX11_layNet_41 rfl (lv_at hl 0 rfl) ?_
    refine va_get (pc := 42) (D := G) (ci := 11) (v := .int m_days) (C := RX11) (T := TX11) (N := 45) hx hb hts iw_X11_layNet_X11 hown hK hP 0 rfl rfl 20 (by decide) (hts _ (List.mem_of_getElem? (i := 3) rfl)) (fun _ h9 => h9) rfl dX11_layNet_42 ?_
    refine lv_icmp_ge (pc := 45) (tgt := 215) hx hb dX11_layNet_45 (by decide) (fun c_9 => ?_) (fun c_9 => ?_)
    · replace hw := hw.1 c_9
      refine lv_iconst (pc := 215) (v := (0 : Int32)) hx hb dX11_layNet_215 (by decide) ?_
      refine lv_istore_n (pc := 216) (lv' := [(2, .int (0 : Int32)), (0, .ref (q 0))]) hx hb dX11_layNet_216 rfl hl (by decide) rfl (fun ls hl => ?_)
      exact hw _ _ _ hP hD hS (lv_sub hl [1, 0] rfl)
    · replace hw := hw.2 c_9
      refine lv_iconst (pc := 48) (v := (0 : Int32)) hx hb dX11_layNet_48 (by decide) ?_
      refine lv_istore_n (pc := 49) (lv' := [(3, .int (0 : Int32)), (0, .ref (q 0)), (2, .int x2)]) hx hb dX11_layNet_49 rfl hl (by decide) rfl (fun ls hl => ?_)
      exact hw _ _ _ hP hD hS (lv_sub hl [1, 2, 0] rfl))
  replace hw := hw (by
    intro x2 x3 m_edges m_edgeFrom m_edgeTo m_room m_price hw H locs ls hP hD hS hl
    refine lv_iload_n (pc := 50) hx hb dX11_layNet_50 rfl (lv_at hl 2 rfl) ?_
    refine lv_iconst (pc := 51) (v := (5 : Int32)) hx hb dX11_layNet_51 (by decide) ?_
    refine lv_icmp_ge (pc := 52) (tgt := 132) hx hb dX11_layNet_52 (by decide) (fun c_19 => ?_) (fun c_19 => ?_)
    · replace hw := hw.1 c_19
      refine lv_iconst (pc := 132) (v := (0 : Int32)) hx hb dX11_layNet_132 (by decide) ?_
      refine lv_istore_n (pc := 133) (lv' := [(3, .int (0 : Int32)), (0, .ref (q 0)), (2, .int x2)]) hx hb dX11_layNet_133 rfl hl (by decide) rfl (fun ls hl => ?_)
      exact hw _ _ _ hP hD hS (lv_sub hl [1, 2, 0] rfl)
    · replace hw := hw.2 c_19
      refine lv_iload_n (pc := 55) hx hb dX11_layNet_55 rfl (lv_at hl 1 rfl) ?_
      have K_v_21 : ∀ v_21 : Int32, v_21 = (if x2 = (0 : Int32) then ((2 : Int32) + x3) else (((((7 : Int32) + ((10 : Int32) * x2)) - (10 : Int32)) + (5 : Int32)) + x3)) → W p l e rm_X11_layNet s m av below meth c H locs 0 0 Q (F0 m 79 ls [.int v_21]) := by
        intro v_21 ev_21
        replace hw := hw v_21 ev_21
        refine lv_istore (pc := 79) (lv' := [(4, .int v_21), (0, .ref (q 0)), (2, .int x2), (3, .int x3)]) hx hb dX11_layNet_79 hl (by decide) rfl (fun ls hl => ?_)
        refine lv_iconst (pc := 81) (v := (0 : Int32)) hx hb dX11_layNet_81 (by decide) ?_
        refine lv_istore (pc := 82) (lv' := [(5, .int (0 : Int32)), (4, .int v_21), (0, .ref (q 0)), (2, .int x2), (3, .int x3)]) hx hb dX11_layNet_82 hl (by decide) rfl (fun ls hl => ?_)
        exact hw _ _ _ hP hD hS (lv_sub hl [2, 3, 4, 1, 0] rfl)
      refine lv_if_ne (pc := 56) (tgt := 65) hx hb dX11_layNet_56 (by decide) (fun c_20 => ?_) (fun c_20 => ?_)
      · skip
        refine lv_bipush (pc := 65) (v := (7 : Int32)) hx hb dX11_layNet_65 (by decide) ?_
        refine lv_bipush (pc := 67) (v := (10 : Int32)) hx hb dX11_layNet_67 (by decide) ?_
        refine lv_iload_n (pc := 69) hx hb dX11_layNet_69 rfl (lv_at hl 1 rfl) ?_
        refine lv_imul (pc := 70) hx hb dX11_layNet_70 ?_
        refine lv_iadd (pc := 71) hx hb dX11_layNet_71 ?_
        refine lv_bipush (pc := 72) (v := (10 : Int32)) hx hb dX11_layNet_72 (by decide) ?_
        refine lv_isub (pc := 74) hx hb dX11_layNet_74 ?_
        refine lv_iconst (pc := 75) (v := (5 : Int32)) hx hb dX11_layNet_75 (by decide) ?_
        refine lv_iadd (pc := 76) hx hb dX11_layNet_76 ?_
        refine lv_iload_n (pc := 77) hx hb dX11_layNet_77 rfl (lv_at hl 2 rfl) ?_
        refine lv_iadd (pc := 78) hx hb dX11_layNet_78 ?_
        exact K_v_21 _ (by rw [if_neg c_20])
      · skip
        refine lv_iconst (pc := 59) (v := (2 : Int32)) hx hb dX11_layNet_59 (by decide) ?_
        refine lv_iload_n (pc := 60) hx hb dX11_layNet_60 rfl (lv_at hl 2 rfl) ?_
        refine lv_iadd (pc := 61) hx hb dX11_layNet_61 ?_
        refine lv_goto (pc := 62) (tgt := 79) hx hb dX11_layNet_62 (by decide) ?_
        exact K_v_21 _ (by rw [if_pos c_20]))
  replace hw := hw (by
    intro x2 x3 x4 x5 m_edges m_edgeFrom m_edgeTo m_room m_price hw H locs ls hP hD hS hl
    refine lv_iload (pc := 84) hx hb dX11_layNet_84 (lv_at hl 4 rfl) ?_
    refine lv_iconst (pc := 86) (v := (5 : Int32)) hx hb dX11_layNet_86 (by decide) ?_
    refine lv_icmp_ge (pc := 87) (tgt := 126) hx hb dX11_layNet_87 (by decide) (fun c_36 => ?_) (fun c_36 => ?_)
    · replace hw := hw.1 c_36
      obtain ⟨y_37, ey_37⟩ : ∃ z : Int32, z = (x3 + (1 : Int32)) := ⟨_, rfl⟩
      replace hw := hw y_37 ey_37
      refine lv_iinc (pc := 126) (v := y_37) (lv' := [(3, .int y_37), (0, .ref (q 0)), (2, .int x2), (4, .int x4), (5, .int x5)]) hx hb dX11_layNet_126 hl (k := 2) rfl (by rw [ey_37]; rfl) (by decide) rfl (fun ls hl => ?_)
      refine lv_goto (pc := 129) (tgt := 50) hx hb dX11_layNet_129 (by decide) ?_
      exact hw _ _ _ hP hD hS (lv_sub hl [1, 2, 0] rfl)
    · replace hw := hw.2 c_36
      refine lv_aload_n (pc := 90) hx hb dX11_layNet_90 rfl (lv_at hl 0 rfl) ?_
      refine lv_iload (pc := 91) hx hb dX11_layNet_91 (lv_at hl 3 rfl) ?_
      refine lv_bipush (pc := 93) (v := (7 : Int32)) hx hb dX11_layNet_93 (by decide) ?_
      refine lv_bipush (pc := 95) (v := (10 : Int32)) hx hb dX11_layNet_95 (by decide) ?_
      refine lv_iload_n (pc := 97) hx hb dX11_layNet_97 rfl (lv_at hl 1 rfl) ?_
      refine lv_imul (pc := 98) hx hb dX11_layNet_98 ?_
      refine lv_iadd (pc := 99) hx hb dX11_layNet_99 ?_
      refine lv_iload (pc := 100) hx hb dX11_layNet_100 (lv_at hl 4 rfl) ?_
      refine lv_iadd (pc := 102) hx hb dX11_layNet_102 ?_
      refine lv_ldc (pc := 103) (v := (1000000 : Int32)) hx hb hown (hts _ (List.mem_of_getElem? (i := 4) rfl)) dX11_layNet_103 ?_
      refine lv_aload_n (pc := 105) hx hb dX11_layNet_105 rfl (lv_at hl 0 rfl) ?_
      refine va_get (pc := 106) (D := G) (ci := 11) (v := .ref (q 10)) (C := RX11) (T := TX11) (N := 45) hx hb hts iw_X11_layNet_X11 hown hK hP 0 rfl rfl 13 (by decide) (hts _ (List.mem_of_getElem? (i := 5) rfl)) (fun _ h9 => h9) rfl dX11_layNet_106 ?_
      refine lv_iconst (pc := 109) (v := (5 : Int32)) hx hb dX11_layNet_109 (by decide) ?_
      refine lv_iload_n (pc := 110) hx hb dX11_layNet_110 rfl (lv_at hl 2 rfl) ?_
      refine lv_imul (pc := 111) hx hb dX11_layNet_111 ?_
      refine lv_iload (pc := 112) hx hb dX11_layNet_112 (lv_at hl 4 rfl) ?_
      refine lv_iadd (pc := 114) hx hb dX11_layNet_114 ?_
      obtain ⟨h_38, hw⟩ := hw
      refine va_iald (pc := 115) hx hb hK hP 2 0 rfl rfl h_38 dX11_layNet_115 ?_
      refine lv_i2l (pc := 116) hx hb dX11_layNet_116 rfl ?_
      refine hCallV (pc := 117) (wr := [aI K (q 3) 30 m_book, aI K (q 10) 25 m_farness, aI K (q 17) 60 m_need]) (wsf := fun (u : Int32 × (Nat → Int32) × (Nat → Int32) × (Nat → Int32) × (Nat → Int64)) => [oX11 q m_kinds m_weighings m_spanLow m_spanHigh m_events m_days u.1 m_crew m_breakages, aI K (q 18) 1000 u.2.1, aI K (q 19) 1000 u.2.2.1, aI K (q 20) 1000 u.2.2.2.1, aJ K (q 21) 1000 u.2.2.2.2]) [0, 4, 5, 6, 7] [1, 2, 3] (va_runV (As := [.int x4, .int (((7 : Int32) + ((10 : Int32) * x2)) + x5), .int (1000000 : Int32), .long (m_farness (((5 : Int32) * x3) + x5).toNatClampNeg).toInt64]) (rest := []) ⟨hx, hb, hml, hown, hts⟩ (c_X11_edge l G K tb q H.size m_kinds m_weighings m_spanLow m_spanHigh m_events m_days m_crew m_breakages _ x4 (((7 : Int32) + ((10 : Int32) * x2)) + x5) (1000000 : Int32) (m_farness (((5 : Int32) * x3) + x5).toNatClampNeg).toInt64 m_edges m_edgeFrom m_edgeTo m_room m_price hw) (cwV 4 hts gX11_layNet_X11_edge rfl rfl rfl (by decide +kernel) ⟨Nat.le_of_ble_eq_true rfl, Nat.le_of_ble_eq_true rfl⟩) (hPreV hE hP hK hD hS hA [0, 4, 5, 6, 7] (by decide) rfl rfl rfl rfl (q0 := 0) (ci := 11) rfl) rfl rfl hl.1 rfl (lv_room (Nat.le_of_ble_eq_true rfl)) dX11_layNet_117 ⟨Nat.zero_le _, Nat.zero_le _⟩) hP hD hS hA rfl rfl (by decide) (by decide) (fun u H locs hw hP hD hS => ?_)
      obtain ⟨m_edges_39, m_edgeFrom_40, m_edgeTo_41, m_room_42, m_price_43⟩ := u
      have hP : va_P G vwCl [oX11 q m_kinds m_weighings m_spanLow m_spanHigh m_events m_days m_edges_39 m_crew m_breakages, aI K (q 3) 30 m_book, aI K (q 10) 25 m_farness, aI K (q 17) 60 m_need, aI K (q 18) 1000 m_edgeFrom_40, aI K (q 19) 1000 m_edgeTo_41, aI K (q 20) 1000 m_room_42, aJ K (q 21) 1000 m_price_43] H := hP.sub [3, 0, 1, 2, 4, 5, 6, 7] rfl
      have hD : va_D A [oX11 q m_kinds m_weighings m_spanLow m_spanHigh m_events m_days m_edges_39 m_crew m_breakages, aI K (q 3) 30 m_book, aI K (q 10) 25 m_farness, aI K (q 17) 60 m_need, aI K (q 18) 1000 m_edgeFrom_40, aI K (q 19) 1000 m_edgeTo_41, aI K (q 20) 1000 m_room_42, aJ K (q 21) 1000 m_price_43] := hD.sub [3, 0, 1, 2, 4, 5, 6, 7] (by decide) rfl
      obtain ⟨y_44, ey_44⟩ : ∃ z : Int32, z = (x5 + (1 : Int32)) := ⟨_, rfl⟩
      replace hw := hw y_44 ey_44
      refine lv_iinc (pc := 120) (v := y_44) (lv' := [(5, .int y_44), (0, .ref (q 0)), (2, .int x2), (3, .int x3), (4, .int x4)]) hx hb dX11_layNet_120 hl (k := 4) rfl (by rw [ey_44]; rfl) (by decide) rfl (fun ls hl => ?_)
      refine lv_goto (pc := 123) (tgt := 84) hx hb dX11_layNet_123 (by decide) ?_
      exact hw _ _ _ hP hD hS (lv_sub hl [1, 2, 3, 4, 0] rfl))
  replace hw := hw (by
    intro x2 x3 m_edges m_edgeFrom m_edgeTo m_room m_price hw H locs ls hP hD hS hl
    refine lv_iload_n (pc := 134) hx hb dX11_layNet_134 rfl (lv_at hl 2 rfl) ?_
    refine lv_iconst (pc := 135) (v := (5 : Int32)) hx hb dX11_layNet_135 (by decide) ?_
    refine lv_icmp_ge (pc := 136) (tgt := 209) hx hb dX11_layNet_136 (by decide) (fun c_22 => ?_) (fun c_22 => ?_)
    · replace hw := hw.1 c_22
      obtain ⟨y_23, ey_23⟩ : ∃ z : Int32, z = (x2 + (1 : Int32)) := ⟨_, rfl⟩
      replace hw := hw y_23 ey_23
      refine lv_iinc (pc := 209) (v := y_23) (lv' := [(2, .int y_23), (0, .ref (q 0)), (3, .int x3)]) hx hb dX11_layNet_209 hl (k := 1) rfl (by rw [ey_23]; rfl) (by decide) rfl (fun ls hl => ?_)
      refine lv_goto (pc := 212) (tgt := 40) hx hb dX11_layNet_212 (by decide) ?_
      exact hw _ _ _ hP hD hS (lv_sub hl [1, 0] rfl)
    · replace hw := hw.2 c_22
      refine lv_aload_n (pc := 139) hx hb dX11_layNet_139 rfl (lv_at hl 0 rfl) ?_
      refine lv_bipush (pc := 140) (v := (7 : Int32)) hx hb dX11_layNet_140 (by decide) ?_
      refine lv_bipush (pc := 142) (v := (10 : Int32)) hx hb dX11_layNet_142 (by decide) ?_
      refine lv_iload_n (pc := 144) hx hb dX11_layNet_144 rfl (lv_at hl 1 rfl) ?_
      refine lv_imul (pc := 145) hx hb dX11_layNet_145 ?_
      refine lv_iadd (pc := 146) hx hb dX11_layNet_146 ?_
      refine lv_iload_n (pc := 147) hx hb dX11_layNet_147 rfl (lv_at hl 2 rfl) ?_
      refine lv_iadd (pc := 148) hx hb dX11_layNet_148 ?_
      refine lv_bipush (pc := 149) (v := (7 : Int32)) hx hb dX11_layNet_149 (by decide) ?_
      refine lv_bipush (pc := 151) (v := (10 : Int32)) hx hb dX11_layNet_151 (by decide) ?_
      refine lv_iload_n (pc := 153) hx hb dX11_layNet_153 rfl (lv_at hl 1 rfl) ?_
      refine lv_imul (pc := 154) hx hb dX11_layNet_154 ?_
      refine lv_iadd (pc := 155) hx hb dX11_layNet_155 ?_
      refine lv_iconst (pc := 156) (v := (5 : Int32)) hx hb dX11_layNet_156 (by decide) ?_
      refine lv_iadd (pc := 157) hx hb dX11_layNet_157 ?_
      refine lv_iload_n (pc := 158) hx hb dX11_layNet_158 rfl (lv_at hl 2 rfl) ?_
      refine lv_iadd (pc := 159) hx hb dX11_layNet_159 ?_
      refine lv_aload_n (pc := 160) hx hb dX11_layNet_160 rfl (lv_at hl 0 rfl) ?_
      refine va_get (pc := 161) (D := G) (ci := 11) (v := .ref (q 17)) (C := RX11) (T := TX11) (N := 45) hx hb hts iw_X11_layNet_X11 hown hK hP 0 rfl rfl 22 (by decide) (hts _ (List.mem_of_getElem? (i := 6) rfl)) (fun _ h9 => h9) rfl dX11_layNet_161 ?_
      refine lv_iconst (pc := 164) (v := (5 : Int32)) hx hb dX11_layNet_164 (by decide) ?_
      refine lv_iload_n (pc := 165) hx hb dX11_layNet_165 rfl (lv_at hl 1 rfl) ?_
      refine lv_imul (pc := 166) hx hb dX11_layNet_166 ?_
      refine lv_iload_n (pc := 167) hx hb dX11_layNet_167 rfl (lv_at hl 2 rfl) ?_
      refine lv_iadd (pc := 168) hx hb dX11_layNet_168 ?_
      obtain ⟨h_24, hw⟩ := hw
      refine va_iald (pc := 169) hx hb hK hP 3 0 rfl rfl h_24 dX11_layNet_169 ?_
      refine lv_ldc2 (pc := 170) (v := (-10000000 : Int64)) hx hb hown (hts _ (List.mem_of_getElem? (i := 7) rfl)) dX11_layNet_170 ?_
      refine hCallV (pc := 173) (wr := [aI K (q 3) 30 m_book, aI K (q 10) 25 m_farness, aI K (q 17) 60 m_need]) (wsf := fun (u : Int32 × (Nat → Int32) × (Nat → Int32) × (Nat → Int32) × (Nat → Int64)) => [oX11 q m_kinds m_weighings m_spanLow m_spanHigh m_events m_days u.1 m_crew m_breakages, aI K (q 18) 1000 u.2.1, aI K (q 19) 1000 u.2.2.1, aI K (q 20) 1000 u.2.2.2.1, aJ K (q 21) 1000 u.2.2.2.2]) [0, 4, 5, 6, 7] [1, 2, 3] (va_runV (As := [.int (((7 : Int32) + ((10 : Int32) * x2)) + x3), .int ((((7 : Int32) + ((10 : Int32) * x2)) + (5 : Int32)) + x3), .int (m_need (((5 : Int32) * x2) + x3).toNatClampNeg), .long (-10000000 : Int64)]) (rest := []) ⟨hx, hb, hml, hown, hts⟩ (c_X11_edge l G K tb q H.size m_kinds m_weighings m_spanLow m_spanHigh m_events m_days m_crew m_breakages _ (((7 : Int32) + ((10 : Int32) * x2)) + x3) ((((7 : Int32) + ((10 : Int32) * x2)) + (5 : Int32)) + x3) (m_need (((5 : Int32) * x2) + x3).toNatClampNeg) (-10000000 : Int64) m_edges m_edgeFrom m_edgeTo m_room m_price hw) (cwV 4 hts gX11_layNet_X11_edge rfl rfl rfl (by decide +kernel) ⟨Nat.le_of_ble_eq_true rfl, Nat.le_of_ble_eq_true rfl⟩) (hPreV hE hP hK hD hS hA [0, 4, 5, 6, 7] (by decide) rfl rfl rfl rfl (q0 := 0) (ci := 11) rfl) rfl rfl hl.1 rfl (lv_room (Nat.le_of_ble_eq_true rfl)) dX11_layNet_173 ⟨Nat.zero_le _, Nat.zero_le _⟩) hP hD hS hA rfl rfl (by decide) (by decide) (fun u H locs hw hP hD hS => ?_)
      obtain ⟨m_edges_25, m_edgeFrom_26, m_edgeTo_27, m_room_28, m_price_29⟩ := u
      have hP : va_P G vwCl [oX11 q m_kinds m_weighings m_spanLow m_spanHigh m_events m_days m_edges_25 m_crew m_breakages, aI K (q 3) 30 m_book, aI K (q 10) 25 m_farness, aI K (q 17) 60 m_need, aI K (q 18) 1000 m_edgeFrom_26, aI K (q 19) 1000 m_edgeTo_27, aI K (q 20) 1000 m_room_28, aJ K (q 21) 1000 m_price_29] H := hP.sub [3, 0, 1, 2, 4, 5, 6, 7] rfl
      have hD : va_D A [oX11 q m_kinds m_weighings m_spanLow m_spanHigh m_events m_days m_edges_25 m_crew m_breakages, aI K (q 3) 30 m_book, aI K (q 10) 25 m_farness, aI K (q 17) 60 m_need, aI K (q 18) 1000 m_edgeFrom_26, aI K (q 19) 1000 m_edgeTo_27, aI K (q 20) 1000 m_room_28, aJ K (q 21) 1000 m_price_29] := hD.sub [3, 0, 1, 2, 4, 5, 6, 7] (by decide) rfl
      refine lv_aload_n (pc := 176) hx hb dX11_layNet_176 rfl (lv_at hl 0 rfl) ?_
      refine lv_bipush (pc := 177) (v := (7 : Int32)) hx hb dX11_layNet_177 (by decide) ?_
      refine lv_bipush (pc := 179) (v := (10 : Int32)) hx hb dX11_layNet_179 (by decide) ?_
      refine lv_iload_n (pc := 181) hx hb dX11_layNet_181 rfl (lv_at hl 1 rfl) ?_
      refine lv_imul (pc := 182) hx hb dX11_layNet_182 ?_
      refine lv_iadd (pc := 183) hx hb dX11_layNet_183 ?_
      refine lv_iload_n (pc := 184) hx hb dX11_layNet_184 rfl (lv_at hl 2 rfl) ?_
      refine lv_iadd (pc := 185) hx hb dX11_layNet_185 ?_
      refine lv_bipush (pc := 186) (v := (7 : Int32)) hx hb dX11_layNet_186 (by decide) ?_
      refine lv_bipush (pc := 188) (v := (10 : Int32)) hx hb dX11_layNet_188 (by decide) ?_
      refine lv_iload_n (pc := 190) hx hb dX11_layNet_190 rfl (lv_at hl 1 rfl) ?_
      refine lv_imul (pc := 191) hx hb dX11_layNet_191 ?_
      refine lv_iadd (pc := 192) hx hb dX11_layNet_192 ?_
      refine lv_iconst (pc := 193) (v := (5 : Int32)) hx hb dX11_layNet_193 (by decide) ?_
      refine lv_iadd (pc := 194) hx hb dX11_layNet_194 ?_
      refine lv_iload_n (pc := 195) hx hb dX11_layNet_195 rfl (lv_at hl 2 rfl) ?_
      refine lv_iadd (pc := 196) hx hb dX11_layNet_196 ?_
      refine lv_ldc (pc := 197) (v := (1000000 : Int32)) hx hb hown (hts _ (List.mem_of_getElem? (i := 4) rfl)) dX11_layNet_197 ?_
      refine lv_lconst (pc := 199) (v := (0 : Int64)) hx hb dX11_layNet_199 (by decide) ?_
      refine hCallV (pc := 200) (wr := [aI K (q 3) 30 m_book, aI K (q 10) 25 m_farness, aI K (q 17) 60 m_need]) (wsf := fun (u : Int32 × (Nat → Int32) × (Nat → Int32) × (Nat → Int32) × (Nat → Int64)) => [oX11 q m_kinds m_weighings m_spanLow m_spanHigh m_events m_days u.1 m_crew m_breakages, aI K (q 18) 1000 u.2.1, aI K (q 19) 1000 u.2.2.1, aI K (q 20) 1000 u.2.2.2.1, aJ K (q 21) 1000 u.2.2.2.2]) [0, 4, 5, 6, 7] [1, 2, 3] (va_runV (As := [.int (((7 : Int32) + ((10 : Int32) * x2)) + x3), .int ((((7 : Int32) + ((10 : Int32) * x2)) + (5 : Int32)) + x3), .int (1000000 : Int32), .long (0 : Int64)]) (rest := []) ⟨hx, hb, hml, hown, hts⟩ (c_X11_edge l G K tb q H.size m_kinds m_weighings m_spanLow m_spanHigh m_events m_days m_crew m_breakages _ (((7 : Int32) + ((10 : Int32) * x2)) + x3) ((((7 : Int32) + ((10 : Int32) * x2)) + (5 : Int32)) + x3) (1000000 : Int32) (0 : Int64) m_edges_25 m_edgeFrom_26 m_edgeTo_27 m_room_28 m_price_29 hw) (cwV 4 hts gX11_layNet_X11_edge rfl rfl rfl (by decide +kernel) ⟨Nat.le_of_ble_eq_true rfl, Nat.le_of_ble_eq_true rfl⟩) (hPreV hE hP hK hD hS hA [0, 4, 5, 6, 7] (by decide) rfl rfl rfl rfl (q0 := 0) (ci := 11) rfl) rfl rfl hl.1 rfl (lv_room (Nat.le_of_ble_eq_true rfl)) dX11_layNet_200 ⟨Nat.zero_le _, Nat.zero_le _⟩) hP hD hS hA rfl rfl (by decide) (by decide) (fun u H locs hw hP hD hS => ?_)
      obtain ⟨m_edges_30, m_edgeFrom_31, m_edgeTo_32, m_room_33, m_price_34⟩ := u
      have hP : va_P G vwCl [oX11 q m_kinds m_weighings m_spanLow m_spanHigh m_events m_days m_edges_30 m_crew m_breakages, aI K (q 3) 30 m_book, aI K (q 10) 25 m_farness, aI K (q 17) 60 m_need, aI K (q 18) 1000 m_edgeFrom_31, aI K (q 19) 1000 m_edgeTo_32, aI K (q 20) 1000 m_room_33, aJ K (q 21) 1000 m_price_34] H := hP.sub [3, 0, 1, 2, 4, 5, 6, 7] rfl
      have hD : va_D A [oX11 q m_kinds m_weighings m_spanLow m_spanHigh m_events m_days m_edges_30 m_crew m_breakages, aI K (q 3) 30 m_book, aI K (q 10) 25 m_farness, aI K (q 17) 60 m_need, aI K (q 18) 1000 m_edgeFrom_31, aI K (q 19) 1000 m_edgeTo_32, aI K (q 20) 1000 m_room_33, aJ K (q 21) 1000 m_price_34] := hD.sub [3, 0, 1, 2, 4, 5, 6, 7] (by decide) rfl
      obtain ⟨y_35, ey_35⟩ : ∃ z : Int32, z = (x3 + (1 : Int32)) := ⟨_, rfl⟩
      replace hw := hw y_35 ey_35
      refine lv_iinc (pc := 203) (v := y_35) (lv' := [(3, .int y_35), (0, .ref (q 0)), (2, .int x2)]) hx hb dX11_layNet_203 hl (k := 2) rfl (by rw [ey_35]; rfl) (by decide) rfl (fun ls hl => ?_)
      refine lv_goto (pc := 206) (tgt := 134) hx hb dX11_layNet_206 (by decide) ?_
      exact hw _ _ _ hP hD hS (lv_sub hl [1, 2, 0] rfl))
  replace hw := hw (by
    intro x2 m_edges m_edgeFrom m_edgeTo m_room m_price hw H locs ls hP hD hS hl
    refine lv_iload_n (pc := 217) hx hb dX11_layNet_217 rfl (lv_at hl 1 rfl) ?_
    refine lv_iconst (pc := 218) (v := (5 : Int32)) hx hb dX11_layNet_218 (by decide) ?_
    refine lv_icmp_ge (pc := 219) (tgt := 266) hx hb dX11_layNet_219 (by decide) (fun c_10 => ?_) (fun c_10 => ?_)
    · replace hw := hw.1 c_10
      exact hRetV (S := Int32 × (Nat → Int32) × (Nat → Int32) × (Nat → Int32) × (Nat → Int64)) (m_edges, m_edgeFrom, m_edgeTo, m_room, m_price) hx hb hr hlocks hQ hw hP hK hD hS dX11_layNet_266
    · replace hw := hw.2 c_10
      refine lv_aload_n (pc := 222) hx hb dX11_layNet_222 rfl (lv_at hl 0 rfl) ?_
      refine lv_aload_n (pc := 223) hx hb dX11_layNet_223 rfl (lv_at hl 0 rfl) ?_
      refine va_get (pc := 224) (D := G) (ci := 11) (v := .int m_days) (C := RX11) (T := TX11) (N := 45) hx hb hts iw_X11_layNet_X11 hown hK hP 0 rfl rfl 20 (by decide) (hts _ (List.mem_of_getElem? (i := 3) rfl)) (fun _ h9 => h9) rfl dX11_layNet_224 ?_
      have K_v_12 : ∀ v_12 : Int32, v_12 = (if m_days = (0 : Int32) then ((2 : Int32) + x2) else (((((7 : Int32) + ((10 : Int32) * m_days)) - (10 : Int32)) + (5 : Int32)) + x2)) → W p l e rm_X11_layNet s m av below meth c H locs 0 0 Q (F0 m 253 ls [.int v_12, .ref (q 0)]) := by
        intro v_12 ev_12
        replace hw := hw v_12 ev_12
        refine lv_iconst (pc := 253) (v := (1 : Int32)) hx hb dX11_layNet_253 (by decide) ?_
        refine lv_ldc (pc := 254) (v := (1000000 : Int32)) hx hb hown (hts _ (List.mem_of_getElem? (i := 4) rfl)) dX11_layNet_254 ?_
        refine lv_lconst (pc := 256) (v := (0 : Int64)) hx hb dX11_layNet_256 (by decide) ?_
        refine hCallV (pc := 257) (wr := [aI K (q 3) 30 m_book, aI K (q 10) 25 m_farness, aI K (q 17) 60 m_need]) (wsf := fun (u : Int32 × (Nat → Int32) × (Nat → Int32) × (Nat → Int32) × (Nat → Int64)) => [oX11 q m_kinds m_weighings m_spanLow m_spanHigh m_events m_days u.1 m_crew m_breakages, aI K (q 18) 1000 u.2.1, aI K (q 19) 1000 u.2.2.1, aI K (q 20) 1000 u.2.2.2.1, aJ K (q 21) 1000 u.2.2.2.2]) [0, 4, 5, 6, 7] [1, 2, 3] (va_runV (As := [.int v_12, .int (1 : Int32), .int (1000000 : Int32), .long (0 : Int64)]) (rest := []) ⟨hx, hb, hml, hown, hts⟩ (c_X11_edge l G K tb q H.size m_kinds m_weighings m_spanLow m_spanHigh m_events m_days m_crew m_breakages _ v_12 (1 : Int32) (1000000 : Int32) (0 : Int64) m_edges m_edgeFrom m_edgeTo m_room m_price hw) (cwV 4 hts gX11_layNet_X11_edge rfl rfl rfl (by decide +kernel) ⟨Nat.le_of_ble_eq_true rfl, Nat.le_of_ble_eq_true rfl⟩) (hPreV hE hP hK hD hS hA [0, 4, 5, 6, 7] (by decide) rfl rfl rfl rfl (q0 := 0) (ci := 11) rfl) rfl rfl hl.1 rfl (lv_room (Nat.le_of_ble_eq_true rfl)) dX11_layNet_257 ⟨Nat.zero_le _, Nat.zero_le _⟩) hP hD hS hA rfl rfl (by decide) (by decide) (fun u H locs hw hP hD hS => ?_)
        obtain ⟨m_edges_13, m_edgeFrom_14, m_edgeTo_15, m_room_16, m_price_17⟩ := u
        have hP : va_P G vwCl [oX11 q m_kinds m_weighings m_spanLow m_spanHigh m_events m_days m_edges_13 m_crew m_breakages, aI K (q 3) 30 m_book, aI K (q 10) 25 m_farness, aI K (q 17) 60 m_need, aI K (q 18) 1000 m_edgeFrom_14, aI K (q 19) 1000 m_edgeTo_15, aI K (q 20) 1000 m_room_16, aJ K (q 21) 1000 m_price_17] H := hP.sub [3, 0, 1, 2, 4, 5, 6, 7] rfl
        have hD : va_D A [oX11 q m_kinds m_weighings m_spanLow m_spanHigh m_events m_days m_edges_13 m_crew m_breakages, aI K (q 3) 30 m_book, aI K (q 10) 25 m_farness, aI K (q 17) 60 m_need, aI K (q 18) 1000 m_edgeFrom_14, aI K (q 19) 1000 m_edgeTo_15, aI K (q 20) 1000 m_room_16, aJ K (q 21) 1000 m_price_17] := hD.sub [3, 0, 1, 2, 4, 5, 6, 7] (by decide) rfl
        obtain ⟨y_18, ey_18⟩ : ∃ z : Int32, z = (x2 + (1 : Int32)) := ⟨_, rfl⟩
        replace hw := hw y_18 ey_18
        refine lv_iinc (pc := 260) (v := y_18) (lv' := [(2, .int y_18), (0, .ref (q 0))]) hx hb dX11_layNet_260 hl (k := 1) rfl (by rw [ey_18]; rfl) (by decide) rfl (fun ls hl => ?_)
        refine lv_goto (pc := 263) (tgt := 217) hx hb dX11_layNet_263 (by decide) ?_
        exact hw _ _ _ hP hD hS (lv_sub hl [1, 0] rfl)
      refine lv_if_ne (pc := 227) (tgt := 236) hx hb dX11_layNet_227 (by decide) (fun c_11 => ?_) (fun c_11 => ?_)
      · skip
        refine lv_bipush (pc := 236) (v := (7 : Int32)) hx hb dX11_layNet_236 (by decide) ?_
        refine lv_bipush (pc := 238) (v := (10 : Int32)) hx hb dX11_layNet_238 (by decide) ?_
        refine lv_aload_n (pc := 240) hx hb dX11_layNet_240 rfl (lv_at hl 0 rfl) ?_
        refine va_get (pc := 241) (D := G) (ci := 11) (v := .int m_days) (C := RX11) (T := TX11) (N := 45) hx hb hts iw_X11_layNet_X11 hown hK hP 0 rfl rfl 20 (by decide) (hts _ (List.mem_of_getElem? (i := 3) rfl)) (fun _ h9 => h9) rfl dX11_layNet_241 ?_
        refine lv_imul (pc := 244) hx hb dX11_layNet_244 ?_
        refine lv_iadd (pc := 245) hx hb dX11_layNet_245 ?_
        refine lv_bipush (pc := 246) (v := (10 : Int32)) hx hb dX11_layNet_246 (by decide) ?_
        refine lv_isub (pc := 248) hx hb dX11_layNet_248 ?_
        refine lv_iconst (pc := 249) (v := (5 : Int32)) hx hb dX11_layNet_249 (by decide) ?_
        refine lv_iadd (pc := 250) hx hb dX11_layNet_250 ?_
        refine lv_iload_n (pc := 251) hx hb dX11_layNet_251 rfl (lv_at hl 1 rfl) ?_
        refine lv_iadd (pc := 252) hx hb dX11_layNet_252 ?_
        exact K_v_12 _ (by rw [if_neg c_11])
      · skip
        refine lv_iconst (pc := 230) (v := (2 : Int32)) hx hb dX11_layNet_230 (by decide) ?_
        refine lv_iload_n (pc := 231) hx hb dX11_layNet_231 rfl (lv_at hl 1 rfl) ?_
        refine lv_iadd (pc := 232) hx hb dX11_layNet_232 ?_
        refine lv_goto (pc := 233) (tgt := 253) hx hb dX11_layNet_233 (by decide) ?_
        exact K_v_12 _ (by rw [if_pos c_11]))
  refine lv_aload_n (pc := 0) hx hb dX11_layNet_0 rfl (lv_at hl 0 rfl) ?_
  refine lv_iconst (pc := 1) (v := (0 : Int32)) hx hb dX11_layNet_1 (by decide) ?_
  refine va_put (pc := 2) (D := G) (ci := 11) (v := .int (0 : Int32)) (ty := .int) (C := RX11) (T := TX11) (N := 45) hx hb hts iw_X11_layNet_X11 tyX11 tyX11_ok nmX11 hown hK hP hD hS 0 rfl rfl 23 (by decide) (hts _ (List.mem_of_getElem? (i := 1) rfl)) (fun _ h9 => h9) rfl (by decide +kernel) rfl rfl (Nat.le_of_ble_eq_true rfl) dX11_layNet_2 (fun H locs hP hD hS => ?_)
  have hP : va_P G vwCl [oX11 q m_kinds m_weighings m_spanLow m_spanHigh m_events m_days (0 : Int32) m_crew m_breakages, aI K (q 3) 30 m_book, aI K (q 10) 25 m_farness, aI K (q 17) 60 m_need, aI K (q 18) 1000 m_edgeFrom, aI K (q 19) 1000 m_edgeTo, aI K (q 20) 1000 m_room, aJ K (q 21) 1000 m_price] H := hP
  have hD : va_D A [oX11 q m_kinds m_weighings m_spanLow m_spanHigh m_events m_days (0 : Int32) m_crew m_breakages, aI K (q 3) 30 m_book, aI K (q 10) 25 m_farness, aI K (q 17) 60 m_need, aI K (q 18) 1000 m_edgeFrom, aI K (q 19) 1000 m_edgeTo, aI K (q 20) 1000 m_room, aJ K (q 21) 1000 m_price] := hD
  refine lv_iconst (pc := 5) (v := (0 : Int32)) hx hb dX11_layNet_5 (by decide) ?_
  refine lv_istore_n (pc := 6) (lv' := [(2, .int (0 : Int32)), (0, .ref (q 0)), (1, .int p1)]) hx hb dX11_layNet_6 rfl hl (by decide) rfl (fun ls hl => ?_)
  exact hw _ _ _ hP hD hS (lv_sub hl [1, 2, 0] rfl)
def P_X11_layFar (post : Int32 → (Nat → Int64) → (Nat → Int32) → Prop) (m_days : Int32) (m_edges : Int32) (m_edgeFrom : Nat → Int32) (m_edgeTo : Nat → Int32) (m_room : Nat → Int32) (m_price : Nat → Int64) (m_far : Nat → Int64) (m_came : Nat → Int32) : Prop :=
  ∀ (X13 : Int32 → Int32 → (Nat → Int64) → (Nat → Int32) → Prop),
  ∀ (X43 : Int32 → (Nat → Int64) → (Nat → Int32) → Prop),
  ∀ (X51 : Int32 → Int32 → (Nat → Int64) → (Nat → Int32) → Prop),
  (∀ (x1 : Int32) (x2 : Int32) (m_far : Nat → Int64) (m_came : Nat → Int32), (((x1 ≤ x2 → X43 (1 : Int32) m_far m_came) ∧ (¬ x1 ≤ x2 → ∀ v_4 : Int64, v_4 = (if x2 = (0 : Int32) then (0 : Int64) else (1000000000000000 : Int64)) → vp_in x2 130 ∧ ∀ m_far_6 : Nat → Int64, m_far_6 = vp_updL m_far x2.toNatClampNeg v_4 → ∀ y_7 : Int32, y_7 = (x2 + (1 : Int32)) → X13 x1 y_7 m_far_6 m_came))) → X13 x1 x2 m_far m_came) →
  (∀ (x2 : Int32) (m_far : Nat → Int64) (m_came : Nat → Int32), (((x2 = (0 : Int32) → vp_in (1 : Int32) 130 ∧ ∀ v_11 : Int32, v_11 = (if (0 : Int32) ≤ (lg_cmp (m_far (1 : Int32).toNatClampNeg) (1000000000000000 : Int64)) then (0 : Int32) else (1 : Int32)) → post v_11 m_far m_came) ∧ (¬ x2 = (0 : Int32) → X51 (0 : Int32) (0 : Int32) m_far m_came))) → X43 x2 m_far m_came) →
  (∀ (x2 : Int32) (x3 : Int32) (m_far : Nat → Int64) (m_came : Nat → Int32), (((m_edges ≤ x3 → X43 x2 m_far m_came) ∧ (¬ m_edges ≤ x3 → vp_in x3 1000 ∧ vp_in (m_edgeFrom x3.toNatClampNeg) 130 ∧ ∀ y_15 : Int64, y_15 = ((m_far (m_edgeFrom x3.toNatClampNeg).toNatClampNeg) + (m_price x3.toNatClampNeg)) → (((m_room x3.toNatClampNeg) ≤ (0 : Int32) → ∀ y_17 : Int32, y_17 = (x3 + (1 : Int32)) → X51 x2 y_17 m_far m_came) ∧ (¬ (m_room x3.toNatClampNeg) ≤ (0 : Int32) → (((0 : Int32) ≤ (lg_cmp (m_far (m_edgeFrom x3.toNatClampNeg).toNatClampNeg) (1000000000000000 : Int64)) → ∀ y_19 : Int32, y_19 = (x3 + (1 : Int32)) → X51 x2 y_19 m_far m_came) ∧ (¬ (0 : Int32) ≤ (lg_cmp (m_far (m_edgeFrom x3.toNatClampNeg).toNatClampNeg) (1000000000000000 : Int64)) → vp_in (m_edgeTo x3.toNatClampNeg) 130 ∧ (((0 : Int32) ≤ (lg_cmp y_15 (m_far (m_edgeTo x3.toNatClampNeg).toNatClampNeg)) → ∀ y_22 : Int32, y_22 = (x3 + (1 : Int32)) → X51 x2 y_22 m_far m_came) ∧ (¬ (0 : Int32) ≤ (lg_cmp y_15 (m_far (m_edgeTo x3.toNatClampNeg).toNatClampNeg)) → ∀ m_far_23 : Nat → Int64, m_far_23 = vp_updL m_far (m_edgeTo x3.toNatClampNeg).toNatClampNeg y_15 → ∀ m_came_24 : Nat → Int32, m_came_24 = upd m_came (m_edgeTo x3.toNatClampNeg).toNatClampNeg x3 → ∀ y_25 : Int32, y_25 = (x3 + (1 : Int32)) → X51 (1 : Int32) y_25 m_far_23 m_came_24))))))))) → X51 x2 x3 m_far m_came) →
  ∀ y_1 : Int32, y_1 = ((7 : Int32) + ((10 : Int32) * m_days)) → X13 y_1 (0 : Int32) m_far m_came
abbrev rm_X11_layFar : Room := { frames := 0, cells := 0, slots := 0, locals := 0 }
theorem iw_X11_layFar_X11 : ∀ w ∈ wsX110, w ∈ wsX11_layFar := by decide +kernel
set_option maxHeartbeats 4000000 in
set_option maxRecDepth 100000 in
theorem c_X11_layFar (l : Launch) (G : va_G) (K : ClassId × ClassId × ClassId) (tb q : Nat → Nat) (sz : Nat) (m_kinds : Int32) (m_weighings : Int32) (m_spanLow : Int32) (m_spanHigh : Int32) (m_events : Int32) (m_crew : Int32) (m_breakages : Int32) (post : Int32 → (Nat → Int64) → (Nat → Int32) → Prop) (m_days : Int32) (m_edges : Int32) (m_edgeFrom : Nat → Int32) (m_edgeTo : Nat → Int32) (m_room : Nat → Int32) (m_price : Nat → Int64) (m_far : Nat → Int64) (m_came : Nat → Int32) (hw : P_X11_layFar post m_days m_edges m_edgeFrom m_edgeTo m_room m_price m_far m_came) : Met l yX11_layFar wsX11_layFar rm_X11_layFar (va_Pc [.ref (q 0)] (hPre G K tb [oX11 q m_kinds m_weighings m_spanLow m_spanHigh m_events m_days m_edges m_crew m_breakages, aI K (q 18) 1000 m_edgeFrom, aI K (q 19) 1000 m_edgeTo, aI K (q 20) 1000 m_room, aJ K (q 21) 1000 m_price, aJ K (q 22) 130 m_far, aI K (q 23) 130 m_came] sz)) (va_Qi (fun (r : Int32) (u : (Nat → Int64) × (Nat → Int32)) => post r u.1 u.2) (fun u => hB G K (va_A [oX11 q m_kinds m_weighings m_spanLow m_spanHigh m_events m_days m_edges m_crew m_breakages, aI K (q 18) 1000 m_edgeFrom, aI K (q 19) 1000 m_edgeTo, aI K (q 20) 1000 m_room, aJ K (q 21) 1000 m_price, aJ K (q 22) 130 m_far, aI K (q 23) 130 m_came] sz) [oX11 q m_kinds m_weighings m_spanLow m_spanHigh m_events m_days m_edges m_crew m_breakages, aI K (q 18) 1000 m_edgeFrom, aI K (q 19) 1000 m_edgeTo, aI K (q 20) 1000 m_room, aJ K (q 21) 1000 m_price, aJ K (q 22) 130 u.1, aI K (q 23) 130 u.2]) (va_A [oX11 q m_kinds m_weighings m_spanLow m_spanHigh m_events m_days m_edges m_crew m_breakages, aI K (q 18) 1000 m_edgeFrom, aI K (q 19) 1000 m_edgeTo, aI K (q 20) 1000 m_room, aJ K (q 21) 1000 m_price, aJ K (q 22) 130 m_far, aI K (q 23) 130 m_came] sz)) 0 0 (va_A [oX11 q m_kinds m_weighings m_spanLow m_spanHigh m_events m_days m_edges m_crew m_breakages, aI K (q 18) 1000 m_edgeFrom, aI K (q 19) 1000 m_edgeTo, aI K (q 20) 1000 m_room, aJ K (q 21) 1000 m_price, aJ K (q 22) 130 m_far, aI K (q 23) 130 m_came] sz) := by
  refine hMet (fun A => va_Qi (fun (r : Int32) (u : (Nat → Int64) × (Nat → Int32)) => post r u.1 u.2) (fun u => hB G K A [oX11 q m_kinds m_weighings m_spanLow m_spanHigh m_events m_days m_edges m_crew m_breakages, aI K (q 18) 1000 m_edgeFrom, aI K (q 19) 1000 m_edgeTo, aI K (q 20) 1000 m_room, aJ K (q 21) 1000 m_price, aJ K (q 22) 130 u.1, aI K (q 23) 130 u.2]) A) (by decide) rfl (Nat.le_of_ble_eq_true rfl) ?_
  intro p e s m av below meth c A Q ls hx hb hr hml hts hown hlocks hnm hA hP hK hD hS hE hQ hl
  have hts : ∀ w ∈ wsX11_layFar, w.before av s = true := hts
  have hown : s.vm.findClass RX11 = some m.cls := hown
  have hl : lv_has ls 6 [(0, .ref (q 0))] := hl
  unfold P_X11_layFar at hw
  replace hw := hw (fun (x1 : Int32) (x2 : Int32) (m_far : Nat → Int64) (m_came : Nat → Int32) => ∀ (H : Heap) (locs : List Loc) (ls : Array Slot), va_P G vwCl [oX11 q m_kinds m_weighings m_spanLow m_spanHigh m_events m_days m_edges m_crew m_breakages, aI K (q 18) 1000 m_edgeFrom, aI K (q 19) 1000 m_edgeTo, aI K (q 20) 1000 m_room, aJ K (q 21) 1000 m_price, aJ K (q 22) 130 m_far, aI K (q 23) 130 m_came] H → va_D A [oX11 q m_kinds m_weighings m_spanLow m_spanHigh m_events m_days m_edges m_crew m_breakages, aI K (q 18) 1000 m_edgeFrom, aI K (q 19) 1000 m_edgeTo, aI K (q 20) 1000 m_room, aJ K (q 21) 1000 m_price, aJ K (q 22) 130 m_far, aI K (q 23) 130 m_came] → va_S A s.heap H locs → lv_has ls 6 [(0, .ref (q 0)), (1, .int x1), (2, .int x2)] → W p l e rm_X11_layFar s m av below meth c H locs 0 0 Q (F0 m 13 ls []))
  replace hw := hw (fun (x2 : Int32) (m_far : Nat → Int64) (m_came : Nat → Int32) => ∀ (H : Heap) (locs : List Loc) (ls : Array Slot), va_P G vwCl [oX11 q m_kinds m_weighings m_spanLow m_spanHigh m_events m_days m_edges m_crew m_breakages, aI K (q 18) 1000 m_edgeFrom, aI K (q 19) 1000 m_edgeTo, aI K (q 20) 1000 m_room, aJ K (q 21) 1000 m_price, aJ K (q 22) 130 m_far, aI K (q 23) 130 m_came] H → va_D A [oX11 q m_kinds m_weighings m_spanLow m_spanHigh m_events m_days m_edges m_crew m_breakages, aI K (q 18) 1000 m_edgeFrom, aI K (q 19) 1000 m_edgeTo, aI K (q 20) 1000 m_room, aJ K (q 21) 1000 m_price, aJ K (q 22) 130 m_far, aI K (q 23) 130 m_came] → va_S A s.heap H locs → lv_has ls 6 [(0, .ref (q 0)), (2, .int x2)] → W p l e rm_X11_layFar s m av below meth c H locs 0 0 Q (F0 m 43 ls []))
  replace hw := hw (fun (x2 : Int32) (x3 : Int32) (m_far : Nat → Int64) (m_came : Nat → Int32) => ∀ (H : Heap) (locs : List Loc) (ls : Array Slot), va_P G vwCl [oX11 q m_kinds m_weighings m_spanLow m_spanHigh m_events m_days m_edges m_crew m_breakages, aI K (q 18) 1000 m_edgeFrom, aI K (q 19) 1000 m_edgeTo, aI K (q 20) 1000 m_room, aJ K (q 21) 1000 m_price, aJ K (q 22) 130 m_far, aI K (q 23) 130 m_came] H → va_D A [oX11 q m_kinds m_weighings m_spanLow m_spanHigh m_events m_days m_edges m_crew m_breakages, aI K (q 18) 1000 m_edgeFrom, aI K (q 19) 1000 m_edgeTo, aI K (q 20) 1000 m_room, aJ K (q 21) 1000 m_price, aJ K (q 22) 130 m_far, aI K (q 23) 130 m_came] → va_S A s.heap H locs → lv_has ls 6 [(0, .ref (q 0)), (2, .int x2), (3, .int x3)] → W p l e rm_X11_layFar s m av below meth c H locs 0 0 Q (F0 m 51 ls []))
  replace hw := hw (by
    intro x1 x2 m_far m_came hw H locs ls hP hD hS hl
    refine lv_iload_n (pc := 13) hx hb dX11_layFar_13 rfl (lv_at hl 2 rfl) ?_
    refine lv_iload_n (pc := 14) hx hb dX11_layFar_14 rfl (lv_at hl 1 rfl) ?_
    refine lv_icmp_ge (pc := 15) (tgt := 41) hx hb dX11_layFar_15 (by decide) (fun c_2 => ?_) (fun c_2 => ?_)
    · replace hw := hw.1 c_2
      refine lv_iconst (pc := 41) (v := (1 : Int32)) hx hb dX11_layFar_41 (by decide) ?_
      refine lv_istore_n (pc := 42) (lv' := [(2, .int (1 : Int32)), (0, .ref (q 0)), (1, .int x1)]) hx hb dX11_layFar_42 rfl hl (by decide) rfl (fun ls hl => ?_)
      exact hw _ _ _ hP hD hS (lv_sub hl [1, 0] rfl)
    · replace hw := hw.2 c_2
      refine lv_aload_n (pc := 18) hx hb dX11_layFar_18 rfl (lv_at hl 0 rfl) ?_
      refine va_get (pc := 19) (D := G) (ci := 11) (v := .ref (q 22)) (C := RX11) (T := TX11) (N := 45) hx hb hts iw_X11_layFar_X11 hown hK hP 0 rfl rfl 28 (by decide) (hts _ (List.mem_of_getElem? (i := 2) rfl)) (fun _ h9 => h9) rfl dX11_layFar_19 ?_
      refine lv_iload_n (pc := 22) hx hb dX11_layFar_22 rfl (lv_at hl 2 rfl) ?_
      refine lv_iload_n (pc := 23) hx hb dX11_layFar_23 rfl (lv_at hl 2 rfl) ?_
      have K_v_4 : ∀ v_4 : Int64, v_4 = (if x2 = (0 : Int32) then (0 : Int64) else (1000000000000000 : Int64)) → W p l e rm_X11_layFar s m av below meth c H locs 0 0 Q (F0 m 34 ls [.long v_4, .int x2, .ref (q 22)]) := by
        intro v_4 ev_4
        replace hw := hw v_4 ev_4
        obtain ⟨h_5, hw⟩ := hw
        refine va_last (pc := 34) hx hb hK hP hD hS 5 1 rfl rfl h_5 dX11_layFar_34 (fun H locs hP hD hS => ?_)
        obtain ⟨m_far_6, em_far_6⟩ : ∃ z : Nat → Int64, z = vp_updL m_far x2.toNatClampNeg v_4 := ⟨_, rfl⟩
        have hP : va_P G vwCl [oX11 q m_kinds m_weighings m_spanLow m_spanHigh m_events m_days m_edges m_crew m_breakages, aI K (q 18) 1000 m_edgeFrom, aI K (q 19) 1000 m_edgeTo, aI K (q 20) 1000 m_room, aJ K (q 21) 1000 m_price, aJ K (q 22) 130 m_far_6, aI K (q 23) 130 m_came] H := by rw [em_far_6]; exact hP
        have hD : va_D A [oX11 q m_kinds m_weighings m_spanLow m_spanHigh m_events m_days m_edges m_crew m_breakages, aI K (q 18) 1000 m_edgeFrom, aI K (q 19) 1000 m_edgeTo, aI K (q 20) 1000 m_room, aJ K (q 21) 1000 m_price, aJ K (q 22) 130 m_far_6, aI K (q 23) 130 m_came] := by rw [em_far_6]; exact hD
        replace hw := hw m_far_6 em_far_6
        obtain ⟨y_7, ey_7⟩ : ∃ z : Int32, z = (x2 + (1 : Int32)) := ⟨_, rfl⟩
        replace hw := hw y_7 ey_7
        refine lv_iinc (pc := 35) (v := y_7) (lv' := [(2, .int y_7), (0, .ref (q 0)), (1, .int x1)]) hx hb dX11_layFar_35 hl (k := 2) rfl (by rw [ey_7]; rfl) (by decide) rfl (fun ls hl => ?_)
        refine lv_goto (pc := 38) (tgt := 13) hx hb dX11_layFar_38 (by decide) ?_
        exact hw _ _ _ hP hD hS (lv_sub hl [1, 2, 0] rfl)
      refine lv_if_ne (pc := 24) (tgt := 31) hx hb dX11_layFar_24 (by decide) (fun c_3 => ?_) (fun c_3 => ?_)
      · skip
        refine lv_ldc2 (pc := 31) (v := (1000000000000000 : Int64)) hx hb hown (hts _ (List.mem_of_getElem? (i := 3) rfl)) dX11_layFar_31 ?_
        exact K_v_4 _ (by rw [if_neg c_3])
      · skip
        refine lv_lconst (pc := 27) (v := (0 : Int64)) hx hb dX11_layFar_27 (by decide) ?_
        refine lv_goto (pc := 28) (tgt := 34) hx hb dX11_layFar_28 (by decide) ?_
        exact K_v_4 _ (by rw [if_pos c_3]))
  replace hw := hw (by
    intro x2 m_far m_came hw H locs ls hP hD hS hl
    refine lv_iload_n (pc := 43) hx hb dX11_layFar_43 rfl (lv_at hl 1 rfl) ?_
    refine lv_if_eq (pc := 44) (tgt := 159) hx hb dX11_layFar_44 (by decide) (fun c_8 => ?_) (fun c_8 => ?_)
    · replace hw := hw.1 c_8
      refine lv_aload_n (pc := 159) hx hb dX11_layFar_159 rfl (lv_at hl 0 rfl) ?_
      refine va_get (pc := 160) (D := G) (ci := 11) (v := .ref (q 22)) (C := RX11) (T := TX11) (N := 45) hx hb hts iw_X11_layFar_X11 hown hK hP 0 rfl rfl 28 (by decide) (hts _ (List.mem_of_getElem? (i := 2) rfl)) (fun _ h9 => h9) rfl dX11_layFar_160 ?_
      refine lv_iconst (pc := 163) (v := (1 : Int32)) hx hb dX11_layFar_163 (by decide) ?_
      obtain ⟨h_9, hw⟩ := hw
      refine va_lald (pc := 164) hx hb hK hP 5 1 rfl rfl h_9 dX11_layFar_164 ?_
      refine lv_ldc2 (pc := 165) (v := (1000000000000000 : Int64)) hx hb hown (hts _ (List.mem_of_getElem? (i := 3) rfl)) dX11_layFar_165 ?_
      refine W.lcmp (pc := 168) hx hb dX11_layFar_168 ?_
      have K_v_11 : ∀ v_11 : Int32, v_11 = (if (0 : Int32) ≤ (lg_cmp (m_far (1 : Int32).toNatClampNeg) (1000000000000000 : Int64)) then (0 : Int32) else (1 : Int32)) → W p l e rm_X11_layFar s m av below meth c H locs 0 0 Q (F0 m 177 ls [.int v_11]) := by
        intro v_11 ev_11
        replace hw := hw v_11 ev_11
        exact hRetZ (S := (Nat → Int64) × (Nat → Int32)) (m_far, m_came) hx hb hr hlocks hQ (by rw [ev_11]; (repeat' split) <;> first | exact Or.inl rfl | exact Or.inr rfl) hw hP hK hD hS dX11_layFar_177
      refine lv_if_ge (pc := 169) (tgt := 176) hx hb dX11_layFar_169 (by decide) (fun c_10 => ?_) (fun c_10 => ?_)
      · skip
        refine lv_iconst (pc := 176) (v := (0 : Int32)) hx hb dX11_layFar_176 (by decide) ?_
        exact K_v_11 _ (by rw [if_pos c_10])
      · skip
        refine lv_iconst (pc := 172) (v := (1 : Int32)) hx hb dX11_layFar_172 (by decide) ?_
        refine lv_goto (pc := 173) (tgt := 177) hx hb dX11_layFar_173 (by decide) ?_
        exact K_v_11 _ (by rw [if_neg c_10])
    · replace hw := hw.2 c_8
      refine lv_iconst (pc := 47) (v := (0 : Int32)) hx hb dX11_layFar_47 (by decide) ?_
      refine lv_istore_n (pc := 48) (lv' := [(2, .int (0 : Int32)), (0, .ref (q 0))]) hx hb dX11_layFar_48 rfl hl (by decide) rfl (fun ls hl => ?_)
      refine lv_iconst (pc := 49) (v := (0 : Int32)) hx hb dX11_layFar_49 (by decide) ?_
      refine lv_istore_n (pc := 50) (lv' := [(3, .int (0 : Int32)), (2, .int (0 : Int32)), (0, .ref (q 0))]) hx hb dX11_layFar_50 rfl hl (by decide) rfl (fun ls hl => ?_)
      exact hw _ _ _ hP hD hS (lv_sub hl [2, 1, 0] rfl))
  replace hw := hw (by
    intro x2 x3 m_far m_came hw H locs ls hP hD hS hl
    refine lv_iload_n (pc := 51) hx hb dX11_layFar_51 rfl (lv_at hl 2 rfl) ?_
    refine lv_aload_n (pc := 52) hx hb dX11_layFar_52 rfl (lv_at hl 0 rfl) ?_
    refine va_get (pc := 53) (D := G) (ci := 11) (v := .int m_edges) (C := RX11) (T := TX11) (N := 45) hx hb hts iw_X11_layFar_X11 hown hK hP 0 rfl rfl 23 (by decide) (hts _ (List.mem_of_getElem? (i := 4) rfl)) (fun _ h9 => h9) rfl dX11_layFar_53 ?_
    refine lv_icmp_ge (pc := 56) (tgt := 156) hx hb dX11_layFar_56 (by decide) (fun c_12 => ?_) (fun c_12 => ?_)
    · replace hw := hw.1 c_12
      refine lv_goto (pc := 156) (tgt := 43) hx hb dX11_layFar_156 (by decide) ?_
      exact hw _ _ _ hP hD hS (lv_sub hl [0, 1] rfl)
    · replace hw := hw.2 c_12
      refine lv_aload_n (pc := 59) hx hb dX11_layFar_59 rfl (lv_at hl 0 rfl) ?_
      refine va_get (pc := 60) (D := G) (ci := 11) (v := .ref (q 22)) (C := RX11) (T := TX11) (N := 45) hx hb hts iw_X11_layFar_X11 hown hK hP 0 rfl rfl 28 (by decide) (hts _ (List.mem_of_getElem? (i := 2) rfl)) (fun _ h9 => h9) rfl dX11_layFar_60 ?_
      refine lv_aload_n (pc := 63) hx hb dX11_layFar_63 rfl (lv_at hl 0 rfl) ?_
      refine va_get (pc := 64) (D := G) (ci := 11) (v := .ref (q 18)) (C := RX11) (T := TX11) (N := 45) hx hb hts iw_X11_layFar_X11 hown hK hP 0 rfl rfl 24 (by decide) (hts _ (List.mem_of_getElem? (i := 5) rfl)) (fun _ h9 => h9) rfl dX11_layFar_64 ?_
      refine lv_iload_n (pc := 67) hx hb dX11_layFar_67 rfl (lv_at hl 2 rfl) ?_
      obtain ⟨h_13, hw⟩ := hw
      refine va_iald (pc := 68) hx hb hK hP 1 0 rfl rfl h_13 dX11_layFar_68 ?_
      obtain ⟨h_14, hw⟩ := hw
      refine va_lald (pc := 69) hx hb hK hP 5 1 rfl rfl h_14 dX11_layFar_69 ?_
      refine lv_aload_n (pc := 70) hx hb dX11_layFar_70 rfl (lv_at hl 0 rfl) ?_
      refine va_get (pc := 71) (D := G) (ci := 11) (v := .ref (q 21)) (C := RX11) (T := TX11) (N := 45) hx hb hts iw_X11_layFar_X11 hown hK hP 0 rfl rfl 27 (by decide) (hts _ (List.mem_of_getElem? (i := 6) rfl)) (fun _ h9 => h9) rfl dX11_layFar_71 ?_
      refine lv_iload_n (pc := 74) hx hb dX11_layFar_74 rfl (lv_at hl 2 rfl) ?_
      refine va_lald (pc := 75) hx hb hK hP 4 1 rfl rfl h_13 dX11_layFar_75 ?_
      refine lv_ladd (pc := 76) hx hb dX11_layFar_76 ?_
      refine lv_topl (fun y_15 ey_15 => ?_)
      replace hw := hw y_15 ey_15
      refine lv_lstore (pc := 77) (lv' := [(4, .long y_15), (0, .ref (q 0)), (2, .int x2), (3, .int x3)]) hx hb dX11_layFar_77 hl (by decide) rfl (fun ls hl => ?_)
      refine lv_aload_n (pc := 79) hx hb dX11_layFar_79 rfl (lv_at hl 1 rfl) ?_
      refine va_get (pc := 80) (D := G) (ci := 11) (v := .ref (q 20)) (C := RX11) (T := TX11) (N := 45) hx hb hts iw_X11_layFar_X11 hown hK hP 0 rfl rfl 26 (by decide) (hts _ (List.mem_of_getElem? (i := 7) rfl)) (fun _ h9 => h9) rfl dX11_layFar_80 ?_
      refine lv_iload_n (pc := 83) hx hb dX11_layFar_83 rfl (lv_at hl 3 rfl) ?_
      refine va_iald (pc := 84) hx hb hK hP 3 0 rfl rfl h_13 dX11_layFar_84 ?_
      refine lv_if_le (pc := 85) (tgt := 150) hx hb dX11_layFar_85 (by decide) (fun c_16 => ?_) (fun c_16 => ?_)
      · replace hw := hw.1 c_16
        obtain ⟨y_17, ey_17⟩ : ∃ z : Int32, z = (x3 + (1 : Int32)) := ⟨_, rfl⟩
        replace hw := hw y_17 ey_17
        refine lv_iinc (pc := 150) (v := y_17) (lv' := [(3, .int y_17), (4, .long y_15), (0, .ref (q 0)), (2, .int x2)]) hx hb dX11_layFar_150 hl (k := 3) rfl (by rw [ey_17]; rfl) (by decide) rfl (fun ls hl => ?_)
        refine lv_goto (pc := 153) (tgt := 51) hx hb dX11_layFar_153 (by decide) ?_
        exact hw _ _ _ hP hD hS (lv_sub hl [2, 3, 0] rfl)
      · replace hw := hw.2 c_16
        refine lv_aload_n (pc := 88) hx hb dX11_layFar_88 rfl (lv_at hl 1 rfl) ?_
        refine va_get (pc := 89) (D := G) (ci := 11) (v := .ref (q 22)) (C := RX11) (T := TX11) (N := 45) hx hb hts iw_X11_layFar_X11 hown hK hP 0 rfl rfl 28 (by decide) (hts _ (List.mem_of_getElem? (i := 2) rfl)) (fun _ h9 => h9) rfl dX11_layFar_89 ?_
        refine lv_aload_n (pc := 92) hx hb dX11_layFar_92 rfl (lv_at hl 1 rfl) ?_
        refine va_get (pc := 93) (D := G) (ci := 11) (v := .ref (q 18)) (C := RX11) (T := TX11) (N := 45) hx hb hts iw_X11_layFar_X11 hown hK hP 0 rfl rfl 24 (by decide) (hts _ (List.mem_of_getElem? (i := 5) rfl)) (fun _ h9 => h9) rfl dX11_layFar_93 ?_
        refine lv_iload_n (pc := 96) hx hb dX11_layFar_96 rfl (lv_at hl 3 rfl) ?_
        refine va_iald (pc := 97) hx hb hK hP 1 0 rfl rfl h_13 dX11_layFar_97 ?_
        refine va_lald (pc := 98) hx hb hK hP 5 1 rfl rfl h_14 dX11_layFar_98 ?_
        refine lv_ldc2 (pc := 99) (v := (1000000000000000 : Int64)) hx hb hown (hts _ (List.mem_of_getElem? (i := 3) rfl)) dX11_layFar_99 ?_
        refine W.lcmp (pc := 102) hx hb dX11_layFar_102 ?_
        refine lv_if_ge (pc := 103) (tgt := 150) hx hb dX11_layFar_103 (by decide) (fun c_18 => ?_) (fun c_18 => ?_)
        · replace hw := hw.1 c_18
          obtain ⟨y_19, ey_19⟩ : ∃ z : Int32, z = (x3 + (1 : Int32)) := ⟨_, rfl⟩
          replace hw := hw y_19 ey_19
          refine lv_iinc (pc := 150) (v := y_19) (lv' := [(3, .int y_19), (4, .long y_15), (0, .ref (q 0)), (2, .int x2)]) hx hb dX11_layFar_150 hl (k := 3) rfl (by rw [ey_19]; rfl) (by decide) rfl (fun ls hl => ?_)
          refine lv_goto (pc := 153) (tgt := 51) hx hb dX11_layFar_153 (by decide) ?_
          exact hw _ _ _ hP hD hS (lv_sub hl [2, 3, 0] rfl)
        · replace hw := hw.2 c_18
          refine lv_lload (pc := 106) hx hb dX11_layFar_106 (lv_at hl 0 rfl) ?_
          refine lv_aload_n (pc := 108) hx hb dX11_layFar_108 rfl (lv_at hl 1 rfl) ?_
          refine va_get (pc := 109) (D := G) (ci := 11) (v := .ref (q 22)) (C := RX11) (T := TX11) (N := 45) hx hb hts iw_X11_layFar_X11 hown hK hP 0 rfl rfl 28 (by decide) (hts _ (List.mem_of_getElem? (i := 2) rfl)) (fun _ h9 => h9) rfl dX11_layFar_109 ?_
          refine lv_aload_n (pc := 112) hx hb dX11_layFar_112 rfl (lv_at hl 1 rfl) ?_
          refine va_get (pc := 113) (D := G) (ci := 11) (v := .ref (q 19)) (C := RX11) (T := TX11) (N := 45) hx hb hts iw_X11_layFar_X11 hown hK hP 0 rfl rfl 25 (by decide) (hts _ (List.mem_of_getElem? (i := 8) rfl)) (fun _ h9 => h9) rfl dX11_layFar_113 ?_
          refine lv_iload_n (pc := 116) hx hb dX11_layFar_116 rfl (lv_at hl 3 rfl) ?_
          refine va_iald (pc := 117) hx hb hK hP 2 0 rfl rfl h_13 dX11_layFar_117 ?_
          obtain ⟨h_20, hw⟩ := hw
          refine va_lald (pc := 118) hx hb hK hP 5 1 rfl rfl h_20 dX11_layFar_118 ?_
          refine W.lcmp (pc := 119) hx hb dX11_layFar_119 ?_
          refine lv_if_ge (pc := 120) (tgt := 150) hx hb dX11_layFar_120 (by decide) (fun c_21 => ?_) (fun c_21 => ?_)
          · replace hw := hw.1 c_21
            obtain ⟨y_22, ey_22⟩ : ∃ z : Int32, z = (x3 + (1 : Int32)) := ⟨_, rfl⟩
            replace hw := hw y_22 ey_22
            refine lv_iinc (pc := 150) (v := y_22) (lv' := [(3, .int y_22), (4, .long y_15), (0, .ref (q 0)), (2, .int x2)]) hx hb dX11_layFar_150 hl (k := 3) rfl (by rw [ey_22]; rfl) (by decide) rfl (fun ls hl => ?_)
            refine lv_goto (pc := 153) (tgt := 51) hx hb dX11_layFar_153 (by decide) ?_
            exact hw _ _ _ hP hD hS (lv_sub hl [2, 3, 0] rfl)
          · replace hw := hw.2 c_21
            refine lv_aload_n (pc := 123) hx hb dX11_layFar_123 rfl (lv_at hl 1 rfl) ?_
            refine va_get (pc := 124) (D := G) (ci := 11) (v := .ref (q 22)) (C := RX11) (T := TX11) (N := 45) hx hb hts iw_X11_layFar_X11 hown hK hP 0 rfl rfl 28 (by decide) (hts _ (List.mem_of_getElem? (i := 2) rfl)) (fun _ h9 => h9) rfl dX11_layFar_124 ?_
            refine lv_aload_n (pc := 127) hx hb dX11_layFar_127 rfl (lv_at hl 1 rfl) ?_
            refine va_get (pc := 128) (D := G) (ci := 11) (v := .ref (q 19)) (C := RX11) (T := TX11) (N := 45) hx hb hts iw_X11_layFar_X11 hown hK hP 0 rfl rfl 25 (by decide) (hts _ (List.mem_of_getElem? (i := 8) rfl)) (fun _ h9 => h9) rfl dX11_layFar_128 ?_
            refine lv_iload_n (pc := 131) hx hb dX11_layFar_131 rfl (lv_at hl 3 rfl) ?_
            refine va_iald (pc := 132) hx hb hK hP 2 0 rfl rfl h_13 dX11_layFar_132 ?_
            refine lv_lload (pc := 133) hx hb dX11_layFar_133 (lv_at hl 0 rfl) ?_
            refine va_last (pc := 135) hx hb hK hP hD hS 5 1 rfl rfl h_20 dX11_layFar_135 (fun H locs hP hD hS => ?_)
            obtain ⟨m_far_23, em_far_23⟩ : ∃ z : Nat → Int64, z = vp_updL m_far (m_edgeTo x3.toNatClampNeg).toNatClampNeg y_15 := ⟨_, rfl⟩
            have hP : va_P G vwCl [oX11 q m_kinds m_weighings m_spanLow m_spanHigh m_events m_days m_edges m_crew m_breakages, aI K (q 18) 1000 m_edgeFrom, aI K (q 19) 1000 m_edgeTo, aI K (q 20) 1000 m_room, aJ K (q 21) 1000 m_price, aJ K (q 22) 130 m_far_23, aI K (q 23) 130 m_came] H := by rw [em_far_23]; exact hP
            have hD : va_D A [oX11 q m_kinds m_weighings m_spanLow m_spanHigh m_events m_days m_edges m_crew m_breakages, aI K (q 18) 1000 m_edgeFrom, aI K (q 19) 1000 m_edgeTo, aI K (q 20) 1000 m_room, aJ K (q 21) 1000 m_price, aJ K (q 22) 130 m_far_23, aI K (q 23) 130 m_came] := by rw [em_far_23]; exact hD
            replace hw := hw m_far_23 em_far_23
            refine lv_aload_n (pc := 136) hx hb dX11_layFar_136 rfl (lv_at hl 1 rfl) ?_
            refine va_get (pc := 137) (D := G) (ci := 11) (v := .ref (q 23)) (C := RX11) (T := TX11) (N := 45) hx hb hts iw_X11_layFar_X11 hown hK hP 0 rfl rfl 29 (by decide) (hts _ (List.mem_of_getElem? (i := 9) rfl)) (fun _ h9 => h9) rfl dX11_layFar_137 ?_
            refine lv_aload_n (pc := 140) hx hb dX11_layFar_140 rfl (lv_at hl 1 rfl) ?_
            refine va_get (pc := 141) (D := G) (ci := 11) (v := .ref (q 19)) (C := RX11) (T := TX11) (N := 45) hx hb hts iw_X11_layFar_X11 hown hK hP 0 rfl rfl 25 (by decide) (hts _ (List.mem_of_getElem? (i := 8) rfl)) (fun _ h9 => h9) rfl dX11_layFar_141 ?_
            refine lv_iload_n (pc := 144) hx hb dX11_layFar_144 rfl (lv_at hl 3 rfl) ?_
            refine va_iald (pc := 145) hx hb hK hP 2 0 rfl rfl h_13 dX11_layFar_145 ?_
            refine lv_iload_n (pc := 146) hx hb dX11_layFar_146 rfl (lv_at hl 3 rfl) ?_
            refine va_iast (pc := 147) hx hb hK hP hD hS 6 0 rfl rfl h_20 dX11_layFar_147 (fun H locs hP hD hS => ?_)
            obtain ⟨m_came_24, em_came_24⟩ : ∃ z : Nat → Int32, z = upd m_came (m_edgeTo x3.toNatClampNeg).toNatClampNeg x3 := ⟨_, rfl⟩
            have hP : va_P G vwCl [oX11 q m_kinds m_weighings m_spanLow m_spanHigh m_events m_days m_edges m_crew m_breakages, aI K (q 18) 1000 m_edgeFrom, aI K (q 19) 1000 m_edgeTo, aI K (q 20) 1000 m_room, aJ K (q 21) 1000 m_price, aJ K (q 22) 130 m_far_23, aI K (q 23) 130 m_came_24] H := by rw [em_came_24]; exact hP
            have hD : va_D A [oX11 q m_kinds m_weighings m_spanLow m_spanHigh m_events m_days m_edges m_crew m_breakages, aI K (q 18) 1000 m_edgeFrom, aI K (q 19) 1000 m_edgeTo, aI K (q 20) 1000 m_room, aJ K (q 21) 1000 m_price, aJ K (q 22) 130 m_far_23, aI K (q 23) 130 m_came_24] := by rw [em_came_24]; exact hD
            replace hw := hw m_came_24 em_came_24
            refine lv_iconst (pc := 148) (v := (1 : Int32)) hx hb dX11_layFar_148 (by decide) ?_
            refine lv_istore_n (pc := 149) (lv' := [(2, .int (1 : Int32)), (4, .long y_15), (0, .ref (q 0)), (3, .int x3)]) hx hb dX11_layFar_149 rfl hl (by decide) rfl (fun ls hl => ?_)
            obtain ⟨y_25, ey_25⟩ : ∃ z : Int32, z = (x3 + (1 : Int32)) := ⟨_, rfl⟩
            replace hw := hw y_25 ey_25
            refine lv_iinc (pc := 150) (v := y_25) (lv' := [(3, .int y_25), (2, .int (1 : Int32)), (4, .long y_15), (0, .ref (q 0))]) hx hb dX11_layFar_150 hl (k := 3) rfl (by rw [ey_25]; rfl) (by decide) rfl (fun ls hl => ?_)
            refine lv_goto (pc := 153) (tgt := 51) hx hb dX11_layFar_153 (by decide) ?_
            exact hw _ _ _ hP hD hS (lv_sub hl [3, 1, 0] rfl))
  refine lv_bipush (pc := 0) (v := (7 : Int32)) hx hb dX11_layFar_0 (by decide) ?_
  refine lv_bipush (pc := 2) (v := (10 : Int32)) hx hb dX11_layFar_2 (by decide) ?_
  refine lv_aload_n (pc := 4) hx hb dX11_layFar_4 rfl (lv_at hl 0 rfl) ?_
  refine va_get (pc := 5) (D := G) (ci := 11) (v := .int m_days) (C := RX11) (T := TX11) (N := 45) hx hb hts iw_X11_layFar_X11 hown hK hP 0 rfl rfl 20 (by decide) (hts _ (List.mem_of_getElem? (i := 1) rfl)) (fun _ h9 => h9) rfl dX11_layFar_5 ?_
  refine lv_imul (pc := 8) hx hb dX11_layFar_8 ?_
  refine lv_iadd (pc := 9) hx hb dX11_layFar_9 ?_
  refine lv_topi (fun y_1 ey_1 => ?_)
  replace hw := hw y_1 ey_1
  refine lv_istore_n (pc := 10) (lv' := [(1, .int y_1), (0, .ref (q 0))]) hx hb dX11_layFar_10 rfl hl (by decide) rfl (fun ls hl => ?_)
  refine lv_iconst (pc := 11) (v := (0 : Int32)) hx hb dX11_layFar_11 (by decide) ?_
  refine lv_istore_n (pc := 12) (lv' := [(2, .int (0 : Int32)), (1, .int y_1), (0, .ref (q 0))]) hx hb dX11_layFar_12 rfl hl (by decide) rfl (fun ls hl => ?_)
  exact hw _ _ _ hP hD hS (lv_sub hl [2, 1, 0] rfl)
def P_X11_flow (post : Int64 → (Nat → Int32) → (Nat → Int64) → (Nat → Int32) → Prop) (m_days : Int32) (m_edges : Int32) (m_edgeFrom : Nat → Int32) (m_edgeTo : Nat → Int32) (m_room : Nat → Int32) (m_price : Nat → Int64) (m_far : Nat → Int64) (m_came : Nat → Int32) : Prop :=
  ∀ (X2 : Int64 → (Nat → Int32) → (Nat → Int64) → (Nat → Int32) → Prop),
  ∀ (X15 : Int64 → Int32 → Int32 → (Nat → Int32) → (Nat → Int64) → (Nat → Int32) → Prop),
  ∀ (X73 : Int64 → Int32 → Int32 → (Nat → Int32) → (Nat → Int64) → (Nat → Int32) → Prop),
  (∀ (x1 : Int64) (m_room : Nat → Int32) (m_far : Nat → Int64) (m_came : Nat → Int32), (P_X11_layFar (fun r_1 m_far_2 m_came_3 => ((r_1 = (0 : Int32) → post x1 m_room m_far_2 m_came_3) ∧ (¬ r_1 = (0 : Int32) → X15 x1 (1000000 : Int32) (1 : Int32) m_room m_far_2 m_came_3))) m_days m_edges m_edgeFrom m_edgeTo m_room m_price m_far m_came) → X2 x1 m_room m_far m_came) →
  (∀ (x1 : Int64) (x3 : Int32) (x4 : Int32) (m_room : Nat → Int32) (m_far : Nat → Int64) (m_came : Nat → Int32), (((x4 = (0 : Int32) → X73 x1 x3 (1 : Int32) m_room m_far m_came) ∧ (¬ x4 = (0 : Int32) → vp_in x4 130 ∧ vp_in (m_came x4.toNatClampNeg) 1000 ∧ ∀ v_9 : Int32, v_9 = (if x3 ≤ (m_room (m_came x4.toNatClampNeg).toNatClampNeg) then x3 else (m_room (m_came x4.toNatClampNeg).toNatClampNeg)) → ∀ y_10 : Int32, y_10 = (m_edgeFrom (m_came x4.toNatClampNeg).toNatClampNeg) → X15 x1 v_9 y_10 m_room m_far m_came))) → X15 x1 x3 x4 m_room m_far m_came) →
  (∀ (x1 : Int64) (x3 : Int32) (x4 : Int32) (m_room : Nat → Int32) (m_far : Nat → Int64) (m_came : Nat → Int32), (((x4 = (0 : Int32) → vp_in (1 : Int32) 130 ∧ ∀ y_13 : Int64, y_13 = (x1 + (x3.toInt64 * (m_far (1 : Int32).toNatClampNeg))) → X2 y_13 m_room m_far m_came) ∧ (¬ x4 = (0 : Int32) → vp_in x4 130 ∧ vp_in (m_came x4.toNatClampNeg) 1000 ∧ ∀ m_room_16 : Nat → Int32, m_room_16 = upd m_room (m_came x4.toNatClampNeg).toNatClampNeg ((m_room (m_came x4.toNatClampNeg).toNatClampNeg) - x3) → vp_in ((m_came x4.toNatClampNeg) ^^^ (1 : Int32)) 1000 ∧ ∀ m_room_18 : Nat → Int32, m_room_18 = upd m_room_16 ((m_came x4.toNatClampNeg) ^^^ (1 : Int32)).toNatClampNeg ((m_room_16 ((m_came x4.toNatClampNeg) ^^^ (1 : Int32)).toNatClampNeg) + x3) → ∀ y_19 : Int32, y_19 = (m_edgeFrom (m_came x4.toNatClampNeg).toNatClampNeg) → X73 x1 x3 y_19 m_room_18 m_far m_came))) → X73 x1 x3 x4 m_room m_far m_came) →
  X2 (0 : Int64) m_room m_far m_came
abbrev rm_X11_flow : Room := { frames := 1, cells := 0, slots := 0, locals := 25 }
theorem iw_X11_flow_X11 : ∀ w ∈ wsX110, w ∈ wsX11_flow := by decide +kernel
set_option maxHeartbeats 4000000 in
set_option maxRecDepth 100000 in
theorem c_X11_flow (l : Launch) (G : va_G) (K : ClassId × ClassId × ClassId) (tb q : Nat → Nat) (sz : Nat) (m_kinds : Int32) (m_weighings : Int32) (m_spanLow : Int32) (m_spanHigh : Int32) (m_events : Int32) (m_crew : Int32) (m_breakages : Int32) (post : Int64 → (Nat → Int32) → (Nat → Int64) → (Nat → Int32) → Prop) (m_days : Int32) (m_edges : Int32) (m_edgeFrom : Nat → Int32) (m_edgeTo : Nat → Int32) (m_room : Nat → Int32) (m_price : Nat → Int64) (m_far : Nat → Int64) (m_came : Nat → Int32) (hw : P_X11_flow post m_days m_edges m_edgeFrom m_edgeTo m_room m_price m_far m_came) : Met l yX11_flow wsX11_flow rm_X11_flow (va_Pc [.ref (q 0)] (hPre G K tb [oX11 q m_kinds m_weighings m_spanLow m_spanHigh m_events m_days m_edges m_crew m_breakages, aI K (q 18) 1000 m_edgeFrom, aI K (q 19) 1000 m_edgeTo, aI K (q 20) 1000 m_room, aJ K (q 21) 1000 m_price, aJ K (q 22) 130 m_far, aI K (q 23) 130 m_came] sz)) (va_Ql (fun (r : Int64) (u : (Nat → Int32) × (Nat → Int64) × (Nat → Int32)) => post r u.1 u.2.1 u.2.2) (fun u => hB G K (va_A [oX11 q m_kinds m_weighings m_spanLow m_spanHigh m_events m_days m_edges m_crew m_breakages, aI K (q 18) 1000 m_edgeFrom, aI K (q 19) 1000 m_edgeTo, aI K (q 20) 1000 m_room, aJ K (q 21) 1000 m_price, aJ K (q 22) 130 m_far, aI K (q 23) 130 m_came] sz) [oX11 q m_kinds m_weighings m_spanLow m_spanHigh m_events m_days m_edges m_crew m_breakages, aI K (q 18) 1000 m_edgeFrom, aI K (q 19) 1000 m_edgeTo, aI K (q 20) 1000 u.1, aJ K (q 21) 1000 m_price, aJ K (q 22) 130 u.2.1, aI K (q 23) 130 u.2.2]) (va_A [oX11 q m_kinds m_weighings m_spanLow m_spanHigh m_events m_days m_edges m_crew m_breakages, aI K (q 18) 1000 m_edgeFrom, aI K (q 19) 1000 m_edgeTo, aI K (q 20) 1000 m_room, aJ K (q 21) 1000 m_price, aJ K (q 22) 130 m_far, aI K (q 23) 130 m_came] sz)) 0 0 (va_A [oX11 q m_kinds m_weighings m_spanLow m_spanHigh m_events m_days m_edges m_crew m_breakages, aI K (q 18) 1000 m_edgeFrom, aI K (q 19) 1000 m_edgeTo, aI K (q 20) 1000 m_room, aJ K (q 21) 1000 m_price, aJ K (q 22) 130 m_far, aI K (q 23) 130 m_came] sz) := by
  refine hMet (fun A => va_Ql (fun (r : Int64) (u : (Nat → Int32) × (Nat → Int64) × (Nat → Int32)) => post r u.1 u.2.1 u.2.2) (fun u => hB G K A [oX11 q m_kinds m_weighings m_spanLow m_spanHigh m_events m_days m_edges m_crew m_breakages, aI K (q 18) 1000 m_edgeFrom, aI K (q 19) 1000 m_edgeTo, aI K (q 20) 1000 u.1, aJ K (q 21) 1000 m_price, aJ K (q 22) 130 u.2.1, aI K (q 23) 130 u.2.2]) A) (by decide) rfl (Nat.le_of_ble_eq_true rfl) ?_
  intro p e s m av below meth c A Q ls hx hb hr hml hts hown hlocks hnm hA hP hK hD hS hE hQ hl
  have hts : ∀ w ∈ wsX11_flow, w.before av s = true := hts
  have hown : s.vm.findClass RX11 = some m.cls := hown
  have hl : lv_has ls 5 [(0, .ref (q 0))] := hl
  unfold P_X11_flow at hw
  replace hw := hw (fun (x1 : Int64) (m_room : Nat → Int32) (m_far : Nat → Int64) (m_came : Nat → Int32) => ∀ (H : Heap) (locs : List Loc) (ls : Array Slot), va_P G vwCl [oX11 q m_kinds m_weighings m_spanLow m_spanHigh m_events m_days m_edges m_crew m_breakages, aI K (q 18) 1000 m_edgeFrom, aI K (q 19) 1000 m_edgeTo, aI K (q 20) 1000 m_room, aJ K (q 21) 1000 m_price, aJ K (q 22) 130 m_far, aI K (q 23) 130 m_came] H → va_D A [oX11 q m_kinds m_weighings m_spanLow m_spanHigh m_events m_days m_edges m_crew m_breakages, aI K (q 18) 1000 m_edgeFrom, aI K (q 19) 1000 m_edgeTo, aI K (q 20) 1000 m_room, aJ K (q 21) 1000 m_price, aJ K (q 22) 130 m_far, aI K (q 23) 130 m_came] → va_S A s.heap H locs → lv_has ls 5 [(0, .ref (q 0)), (1, .long x1)] → W p l e rm_X11_flow s m av below meth c H locs 0 0 Q (F0 m 2 ls []))
  replace hw := hw (fun (x1 : Int64) (x3 : Int32) (x4 : Int32) (m_room : Nat → Int32) (m_far : Nat → Int64) (m_came : Nat → Int32) => ∀ (H : Heap) (locs : List Loc) (ls : Array Slot), va_P G vwCl [oX11 q m_kinds m_weighings m_spanLow m_spanHigh m_events m_days m_edges m_crew m_breakages, aI K (q 18) 1000 m_edgeFrom, aI K (q 19) 1000 m_edgeTo, aI K (q 20) 1000 m_room, aJ K (q 21) 1000 m_price, aJ K (q 22) 130 m_far, aI K (q 23) 130 m_came] H → va_D A [oX11 q m_kinds m_weighings m_spanLow m_spanHigh m_events m_days m_edges m_crew m_breakages, aI K (q 18) 1000 m_edgeFrom, aI K (q 19) 1000 m_edgeTo, aI K (q 20) 1000 m_room, aJ K (q 21) 1000 m_price, aJ K (q 22) 130 m_far, aI K (q 23) 130 m_came] → va_S A s.heap H locs → lv_has ls 5 [(0, .ref (q 0)), (1, .long x1), (3, .int x3), (4, .int x4)] → W p l e rm_X11_flow s m av below meth c H locs 0 0 Q (F0 m 15 ls []))
  replace hw := hw (fun (x1 : Int64) (x3 : Int32) (x4 : Int32) (m_room : Nat → Int32) (m_far : Nat → Int64) (m_came : Nat → Int32) => ∀ (H : Heap) (locs : List Loc) (ls : Array Slot), va_P G vwCl [oX11 q m_kinds m_weighings m_spanLow m_spanHigh m_events m_days m_edges m_crew m_breakages, aI K (q 18) 1000 m_edgeFrom, aI K (q 19) 1000 m_edgeTo, aI K (q 20) 1000 m_room, aJ K (q 21) 1000 m_price, aJ K (q 22) 130 m_far, aI K (q 23) 130 m_came] H → va_D A [oX11 q m_kinds m_weighings m_spanLow m_spanHigh m_events m_days m_edges m_crew m_breakages, aI K (q 18) 1000 m_edgeFrom, aI K (q 19) 1000 m_edgeTo, aI K (q 20) 1000 m_room, aJ K (q 21) 1000 m_price, aJ K (q 22) 130 m_far, aI K (q 23) 130 m_came] → va_S A s.heap H locs → lv_has ls 5 [(0, .ref (q 0)), (1, .long x1), (3, .int x3), (4, .int x4)] → W p l e rm_X11_flow s m av below meth c H locs 0 0 Q (F0 m 73 ls []))
  replace hw := hw (by
    intro x1 m_room m_far m_came hw H locs ls hP hD hS hl
    refine lv_aload_n (pc := 2) hx hb dX11_flow_2 rfl (lv_at hl 0 rfl) ?_
    refine hCallI (pc := 3) (wr := []) (wsf := fun (u : (Nat → Int64) × (Nat → Int32)) => [oX11 q m_kinds m_weighings m_spanLow m_spanHigh m_events m_days m_edges m_crew m_breakages, aI K (q 18) 1000 m_edgeFrom, aI K (q 19) 1000 m_edgeTo, aI K (q 20) 1000 m_room, aJ K (q 21) 1000 m_price, aJ K (q 22) 130 u.1, aI K (q 23) 130 u.2]) [0, 1, 2, 3, 4, 5, 6] [] (va_runV (As := []) (rest := []) ⟨hx, hb, hml, hown, hts⟩ (c_X11_layFar l G K tb q H.size m_kinds m_weighings m_spanLow m_spanHigh m_events m_crew m_breakages _ m_days m_edges m_edgeFrom m_edgeTo m_room m_price m_far m_came hw) (cwV 0 hts gX11_flow_X11_layFar rfl rfl rfl (by decide +kernel) ⟨Nat.le_of_ble_eq_true rfl, Nat.le_of_ble_eq_true rfl⟩) (hPreV hE hP hK hD hS hA [0, 1, 2, 3, 4, 5, 6] (by decide) rfl rfl rfl rfl (q0 := 0) (ci := 11) rfl) rfl rfl hl.1 rfl (lv_room (Nat.le_of_ble_eq_true rfl)) dX11_flow_3 ⟨Nat.zero_le _, Nat.zero_le _⟩) hP hD hS hA rfl rfl (by decide) (by decide) (fun r_1 u H locs hw hP hD hS => ?_)
    obtain ⟨m_far_2, m_came_3⟩ := u
    have hP : va_P G vwCl [oX11 q m_kinds m_weighings m_spanLow m_spanHigh m_events m_days m_edges m_crew m_breakages, aI K (q 18) 1000 m_edgeFrom, aI K (q 19) 1000 m_edgeTo, aI K (q 20) 1000 m_room, aJ K (q 21) 1000 m_price, aJ K (q 22) 130 m_far_2, aI K (q 23) 130 m_came_3] H := hP.sub [0, 1, 2, 3, 4, 5, 6] rfl
    have hD : va_D A [oX11 q m_kinds m_weighings m_spanLow m_spanHigh m_events m_days m_edges m_crew m_breakages, aI K (q 18) 1000 m_edgeFrom, aI K (q 19) 1000 m_edgeTo, aI K (q 20) 1000 m_room, aJ K (q 21) 1000 m_price, aJ K (q 22) 130 m_far_2, aI K (q 23) 130 m_came_3] := hD.sub [0, 1, 2, 3, 4, 5, 6] (by decide) rfl
    refine lv_if_eq (pc := 6) (tgt := 144) hx hb dX11_flow_6 (by decide) (fun c_4 => ?_) (fun c_4 => ?_)
    · replace hw := hw.1 c_4
      refine lv_lload_n (pc := 144) hx hb dX11_flow_144 rfl (lv_at hl 1 rfl) ?_
      exact hRetL (S := (Nat → Int32) × (Nat → Int64) × (Nat → Int32)) (m_room, m_far_2, m_came_3) hx hb hr hlocks hQ hw hP hK hD hS dX11_flow_145
    · replace hw := hw.2 c_4
      refine lv_ldc (pc := 9) (v := (1000000 : Int32)) hx hb hown (hts _ (List.mem_of_getElem? (i := 1) rfl)) dX11_flow_9 ?_
      refine lv_istore_n (pc := 11) (lv' := [(3, .int (1000000 : Int32)), (0, .ref (q 0)), (1, .long x1)]) hx hb dX11_flow_11 rfl hl (by decide) rfl (fun ls hl => ?_)
      refine lv_iconst (pc := 12) (v := (1 : Int32)) hx hb dX11_flow_12 (by decide) ?_
      refine lv_istore (pc := 13) (lv' := [(4, .int (1 : Int32)), (3, .int (1000000 : Int32)), (0, .ref (q 0)), (1, .long x1)]) hx hb dX11_flow_13 hl (by decide) rfl (fun ls hl => ?_)
      exact hw _ _ _ hP hD hS (lv_sub hl [2, 3, 1, 0] rfl))
  replace hw := hw (by
    intro x1 x3 x4 m_room m_far m_came hw H locs ls hP hD hS hl
    refine lv_iload (pc := 15) hx hb dX11_flow_15 (lv_at hl 3 rfl) ?_
    refine lv_if_eq (pc := 17) (tgt := 70) hx hb dX11_flow_17 (by decide) (fun c_5 => ?_) (fun c_5 => ?_)
    · replace hw := hw.1 c_5
      refine lv_iconst (pc := 70) (v := (1 : Int32)) hx hb dX11_flow_70 (by decide) ?_
      refine lv_istore (pc := 71) (lv' := [(4, .int (1 : Int32)), (0, .ref (q 0)), (1, .long x1), (3, .int x3)]) hx hb dX11_flow_71 hl (by decide) rfl (fun ls hl => ?_)
      exact hw _ _ _ hP hD hS (lv_sub hl [1, 2, 3, 0] rfl)
    · replace hw := hw.2 c_5
      refine lv_aload_n (pc := 20) hx hb dX11_flow_20 rfl (lv_at hl 0 rfl) ?_
      refine va_get (pc := 21) (D := G) (ci := 11) (v := .ref (q 20)) (C := RX11) (T := TX11) (N := 45) hx hb hts iw_X11_flow_X11 hown hK hP 0 rfl rfl 26 (by decide) (hts _ (List.mem_of_getElem? (i := 2) rfl)) (fun _ h9 => h9) rfl dX11_flow_21 ?_
      refine lv_aload_n (pc := 24) hx hb dX11_flow_24 rfl (lv_at hl 0 rfl) ?_
      refine va_get (pc := 25) (D := G) (ci := 11) (v := .ref (q 23)) (C := RX11) (T := TX11) (N := 45) hx hb hts iw_X11_flow_X11 hown hK hP 0 rfl rfl 29 (by decide) (hts _ (List.mem_of_getElem? (i := 3) rfl)) (fun _ h9 => h9) rfl dX11_flow_25 ?_
      refine lv_iload (pc := 28) hx hb dX11_flow_28 (lv_at hl 3 rfl) ?_
      obtain ⟨h_6, hw⟩ := hw
      refine va_iald (pc := 30) hx hb hK hP 6 0 rfl rfl h_6 dX11_flow_30 ?_
      obtain ⟨h_7, hw⟩ := hw
      refine va_iald (pc := 31) hx hb hK hP 3 0 rfl rfl h_7 dX11_flow_31 ?_
      refine lv_iload_n (pc := 32) hx hb dX11_flow_32 rfl (lv_at hl 2 rfl) ?_
      have K_v_9 : ∀ v_9 : Int32, v_9 = (if x3 ≤ (m_room (m_came x4.toNatClampNeg).toNatClampNeg) then x3 else (m_room (m_came x4.toNatClampNeg).toNatClampNeg)) → W p l e rm_X11_flow s m av below meth c H locs 0 0 Q (F0 m 52 ls [.int v_9]) := by
        intro v_9 ev_9
        replace hw := hw v_9 ev_9
        refine lv_istore_n (pc := 52) (lv' := [(3, .int v_9), (0, .ref (q 0)), (1, .long x1), (4, .int x4)]) hx hb dX11_flow_52 rfl hl (by decide) rfl (fun ls hl => ?_)
        refine lv_aload_n (pc := 53) hx hb dX11_flow_53 rfl (lv_at hl 1 rfl) ?_
        refine va_get (pc := 54) (D := G) (ci := 11) (v := .ref (q 18)) (C := RX11) (T := TX11) (N := 45) hx hb hts iw_X11_flow_X11 hown hK hP 0 rfl rfl 24 (by decide) (hts _ (List.mem_of_getElem? (i := 4) rfl)) (fun _ h9 => h9) rfl dX11_flow_54 ?_
        refine lv_aload_n (pc := 57) hx hb dX11_flow_57 rfl (lv_at hl 1 rfl) ?_
        refine va_get (pc := 58) (D := G) (ci := 11) (v := .ref (q 23)) (C := RX11) (T := TX11) (N := 45) hx hb hts iw_X11_flow_X11 hown hK hP 0 rfl rfl 29 (by decide) (hts _ (List.mem_of_getElem? (i := 3) rfl)) (fun _ h9 => h9) rfl dX11_flow_58 ?_
        refine lv_iload (pc := 61) hx hb dX11_flow_61 (lv_at hl 3 rfl) ?_
        refine va_iald (pc := 63) hx hb hK hP 6 0 rfl rfl h_6 dX11_flow_63 ?_
        refine va_iald (pc := 64) hx hb hK hP 1 0 rfl rfl h_7 dX11_flow_64 ?_
        refine lv_topi (fun y_10 ey_10 => ?_)
        replace hw := hw y_10 ey_10
        refine lv_istore (pc := 65) (lv' := [(4, .int y_10), (3, .int v_9), (0, .ref (q 0)), (1, .long x1)]) hx hb dX11_flow_65 hl (by decide) rfl (fun ls hl => ?_)
        refine lv_goto (pc := 67) (tgt := 15) hx hb dX11_flow_67 (by decide) ?_
        exact hw _ _ _ hP hD hS (lv_sub hl [2, 3, 1, 0] rfl)
      refine lv_icmp_ge (pc := 33) (tgt := 51) hx hb dX11_flow_33 (by decide) (fun c_8 => ?_) (fun c_8 => ?_)
      · skip
        refine lv_iload_n (pc := 51) hx hb dX11_flow_51 rfl (lv_at hl 2 rfl) ?_
        exact K_v_9 _ (by rw [if_pos c_8])
      · skip
        refine lv_aload_n (pc := 36) hx hb dX11_flow_36 rfl (lv_at hl 0 rfl) ?_
        refine va_get (pc := 37) (D := G) (ci := 11) (v := .ref (q 20)) (C := RX11) (T := TX11) (N := 45) hx hb hts iw_X11_flow_X11 hown hK hP 0 rfl rfl 26 (by decide) (hts _ (List.mem_of_getElem? (i := 2) rfl)) (fun _ h9 => h9) rfl dX11_flow_37 ?_
        refine lv_aload_n (pc := 40) hx hb dX11_flow_40 rfl (lv_at hl 0 rfl) ?_
        refine va_get (pc := 41) (D := G) (ci := 11) (v := .ref (q 23)) (C := RX11) (T := TX11) (N := 45) hx hb hts iw_X11_flow_X11 hown hK hP 0 rfl rfl 29 (by decide) (hts _ (List.mem_of_getElem? (i := 3) rfl)) (fun _ h9 => h9) rfl dX11_flow_41 ?_
        refine lv_iload (pc := 44) hx hb dX11_flow_44 (lv_at hl 3 rfl) ?_
        refine va_iald (pc := 46) hx hb hK hP 6 0 rfl rfl h_6 dX11_flow_46 ?_
        refine va_iald (pc := 47) hx hb hK hP 3 0 rfl rfl h_7 dX11_flow_47 ?_
        refine lv_goto (pc := 48) (tgt := 52) hx hb dX11_flow_48 (by decide) ?_
        exact K_v_9 _ (by rw [if_neg c_8]))
  replace hw := hw (by
    intro x1 x3 x4 m_room m_far m_came hw H locs ls hP hD hS hl
    refine lv_iload (pc := 73) hx hb dX11_flow_73 (lv_at hl 3 rfl) ?_
    refine lv_if_eq (pc := 75) (tgt := 129) hx hb dX11_flow_75 (by decide) (fun c_11 => ?_) (fun c_11 => ?_)
    · replace hw := hw.1 c_11
      refine lv_lload_n (pc := 129) hx hb dX11_flow_129 rfl (lv_at hl 1 rfl) ?_
      refine lv_iload_n (pc := 130) hx hb dX11_flow_130 rfl (lv_at hl 2 rfl) ?_
      refine lv_i2l (pc := 131) hx hb dX11_flow_131 rfl ?_
      refine lv_aload_n (pc := 132) hx hb dX11_flow_132 rfl (lv_at hl 0 rfl) ?_
      refine va_get (pc := 133) (D := G) (ci := 11) (v := .ref (q 22)) (C := RX11) (T := TX11) (N := 45) hx hb hts iw_X11_flow_X11 hown hK hP 0 rfl rfl 28 (by decide) (hts _ (List.mem_of_getElem? (i := 5) rfl)) (fun _ h9 => h9) rfl dX11_flow_133 ?_
      refine lv_iconst (pc := 136) (v := (1 : Int32)) hx hb dX11_flow_136 (by decide) ?_
      obtain ⟨h_12, hw⟩ := hw
      refine va_lald (pc := 137) hx hb hK hP 5 1 rfl rfl h_12 dX11_flow_137 ?_
      refine lv_lmul (pc := 138) hx hb dX11_flow_138 ?_
      refine lv_ladd (pc := 139) hx hb dX11_flow_139 ?_
      refine lv_topl (fun y_13 ey_13 => ?_)
      replace hw := hw y_13 ey_13
      refine lv_lstore_n (pc := 140) (lv' := [(1, .long y_13), (0, .ref (q 0)), (3, .int x3), (4, .int x4)]) hx hb dX11_flow_140 rfl hl (by decide) rfl (fun ls hl => ?_)
      refine lv_goto (pc := 141) (tgt := 2) hx hb dX11_flow_141 (by decide) ?_
      exact hw _ _ _ hP hD hS (lv_sub hl [1, 0] rfl)
    · replace hw := hw.2 c_11
      refine lv_aload_n (pc := 78) hx hb dX11_flow_78 rfl (lv_at hl 0 rfl) ?_
      refine va_get (pc := 79) (D := G) (ci := 11) (v := .ref (q 20)) (C := RX11) (T := TX11) (N := 45) hx hb hts iw_X11_flow_X11 hown hK hP 0 rfl rfl 26 (by decide) (hts _ (List.mem_of_getElem? (i := 2) rfl)) (fun _ h9 => h9) rfl dX11_flow_79 ?_
      refine lv_aload_n (pc := 82) hx hb dX11_flow_82 rfl (lv_at hl 0 rfl) ?_
      refine va_get (pc := 83) (D := G) (ci := 11) (v := .ref (q 23)) (C := RX11) (T := TX11) (N := 45) hx hb hts iw_X11_flow_X11 hown hK hP 0 rfl rfl 29 (by decide) (hts _ (List.mem_of_getElem? (i := 3) rfl)) (fun _ h9 => h9) rfl dX11_flow_83 ?_
      refine lv_iload (pc := 86) hx hb dX11_flow_86 (lv_at hl 3 rfl) ?_
      obtain ⟨h_14, hw⟩ := hw
      refine va_iald (pc := 88) hx hb hK hP 6 0 rfl rfl h_14 dX11_flow_88 ?_
      refine lv_dup2_11 (pc := 89) hx hb dX11_flow_89 rfl rfl ?_
      obtain ⟨h_15, hw⟩ := hw
      refine va_iald (pc := 90) hx hb hK hP 3 0 rfl rfl h_15 dX11_flow_90 ?_
      refine lv_iload_n (pc := 91) hx hb dX11_flow_91 rfl (lv_at hl 2 rfl) ?_
      refine lv_isub (pc := 92) hx hb dX11_flow_92 ?_
      refine va_iast (pc := 93) hx hb hK hP hD hS 3 0 rfl rfl h_15 dX11_flow_93 (fun H locs hP hD hS => ?_)
      obtain ⟨m_room_16, em_room_16⟩ : ∃ z : Nat → Int32, z = upd m_room (m_came x4.toNatClampNeg).toNatClampNeg ((m_room (m_came x4.toNatClampNeg).toNatClampNeg) - x3) := ⟨_, rfl⟩
      have hP : va_P G vwCl [oX11 q m_kinds m_weighings m_spanLow m_spanHigh m_events m_days m_edges m_crew m_breakages, aI K (q 18) 1000 m_edgeFrom, aI K (q 19) 1000 m_edgeTo, aI K (q 20) 1000 m_room_16, aJ K (q 21) 1000 m_price, aJ K (q 22) 130 m_far, aI K (q 23) 130 m_came] H := by rw [em_room_16]; exact hP
      have hD : va_D A [oX11 q m_kinds m_weighings m_spanLow m_spanHigh m_events m_days m_edges m_crew m_breakages, aI K (q 18) 1000 m_edgeFrom, aI K (q 19) 1000 m_edgeTo, aI K (q 20) 1000 m_room_16, aJ K (q 21) 1000 m_price, aJ K (q 22) 130 m_far, aI K (q 23) 130 m_came] := by rw [em_room_16]; exact hD
      replace hw := hw m_room_16 em_room_16
      refine lv_aload_n (pc := 94) hx hb dX11_flow_94 rfl (lv_at hl 0 rfl) ?_
      refine va_get (pc := 95) (D := G) (ci := 11) (v := .ref (q 20)) (C := RX11) (T := TX11) (N := 45) hx hb hts iw_X11_flow_X11 hown hK hP 0 rfl rfl 26 (by decide) (hts _ (List.mem_of_getElem? (i := 2) rfl)) (fun _ h9 => h9) rfl dX11_flow_95 ?_
      refine lv_aload_n (pc := 98) hx hb dX11_flow_98 rfl (lv_at hl 0 rfl) ?_
      refine va_get (pc := 99) (D := G) (ci := 11) (v := .ref (q 23)) (C := RX11) (T := TX11) (N := 45) hx hb hts iw_X11_flow_X11 hown hK hP 0 rfl rfl 29 (by decide) (hts _ (List.mem_of_getElem? (i := 3) rfl)) (fun _ h9 => h9) rfl dX11_flow_99 ?_
      refine lv_iload (pc := 102) hx hb dX11_flow_102 (lv_at hl 3 rfl) ?_
      refine va_iald (pc := 104) hx hb hK hP 6 0 rfl rfl h_14 dX11_flow_104 ?_
      refine lv_iconst (pc := 105) (v := (1 : Int32)) hx hb dX11_flow_105 (by decide) ?_
      refine lv_ixor (pc := 106) hx hb dX11_flow_106 ?_
      refine lv_dup2_11 (pc := 107) hx hb dX11_flow_107 rfl rfl ?_
      obtain ⟨h_17, hw⟩ := hw
      refine va_iald (pc := 108) hx hb hK hP 3 0 rfl rfl h_17 dX11_flow_108 ?_
      refine lv_iload_n (pc := 109) hx hb dX11_flow_109 rfl (lv_at hl 2 rfl) ?_
      refine lv_iadd (pc := 110) hx hb dX11_flow_110 ?_
      refine va_iast (pc := 111) hx hb hK hP hD hS 3 0 rfl rfl h_17 dX11_flow_111 (fun H locs hP hD hS => ?_)
      obtain ⟨m_room_18, em_room_18⟩ : ∃ z : Nat → Int32, z = upd m_room_16 ((m_came x4.toNatClampNeg) ^^^ (1 : Int32)).toNatClampNeg ((m_room_16 ((m_came x4.toNatClampNeg) ^^^ (1 : Int32)).toNatClampNeg) + x3) := ⟨_, rfl⟩
      have hP : va_P G vwCl [oX11 q m_kinds m_weighings m_spanLow m_spanHigh m_events m_days m_edges m_crew m_breakages, aI K (q 18) 1000 m_edgeFrom, aI K (q 19) 1000 m_edgeTo, aI K (q 20) 1000 m_room_18, aJ K (q 21) 1000 m_price, aJ K (q 22) 130 m_far, aI K (q 23) 130 m_came] H := by rw [em_room_18]; exact hP
      have hD : va_D A [oX11 q m_kinds m_weighings m_spanLow m_spanHigh m_events m_days m_edges m_crew m_breakages, aI K (q 18) 1000 m_edgeFrom, aI K (q 19) 1000 m_edgeTo, aI K (q 20) 1000 m_room_18, aJ K (q 21) 1000 m_price, aJ K (q 22) 130 m_far, aI K (q 23) 130 m_came] := by rw [em_room_18]; exact hD
      replace hw := hw m_room_18 em_room_18
      refine lv_aload_n (pc := 112) hx hb dX11_flow_112 rfl (lv_at hl 0 rfl) ?_
      refine va_get (pc := 113) (D := G) (ci := 11) (v := .ref (q 18)) (C := RX11) (T := TX11) (N := 45) hx hb hts iw_X11_flow_X11 hown hK hP 0 rfl rfl 24 (by decide) (hts _ (List.mem_of_getElem? (i := 4) rfl)) (fun _ h9 => h9) rfl dX11_flow_113 ?_
      refine lv_aload_n (pc := 116) hx hb dX11_flow_116 rfl (lv_at hl 0 rfl) ?_
      refine va_get (pc := 117) (D := G) (ci := 11) (v := .ref (q 23)) (C := RX11) (T := TX11) (N := 45) hx hb hts iw_X11_flow_X11 hown hK hP 0 rfl rfl 29 (by decide) (hts _ (List.mem_of_getElem? (i := 3) rfl)) (fun _ h9 => h9) rfl dX11_flow_117 ?_
      refine lv_iload (pc := 120) hx hb dX11_flow_120 (lv_at hl 3 rfl) ?_
      refine va_iald (pc := 122) hx hb hK hP 6 0 rfl rfl h_14 dX11_flow_122 ?_
      refine va_iald (pc := 123) hx hb hK hP 1 0 rfl rfl h_15 dX11_flow_123 ?_
      refine lv_topi (fun y_19 ey_19 => ?_)
      replace hw := hw y_19 ey_19
      refine lv_istore (pc := 124) (lv' := [(4, .int y_19), (0, .ref (q 0)), (1, .long x1), (3, .int x3)]) hx hb dX11_flow_124 hl (by decide) rfl (fun ls hl => ?_)
      refine lv_goto (pc := 126) (tgt := 73) hx hb dX11_flow_126 (by decide) ?_
      exact hw _ _ _ hP hD hS (lv_sub hl [1, 2, 3, 0] rfl))
  refine lv_lconst (pc := 0) (v := (0 : Int64)) hx hb dX11_flow_0 (by decide) ?_
  refine lv_lstore_n (pc := 1) (lv' := [(1, .long (0 : Int64)), (0, .ref (q 0))]) hx hb dX11_flow_1 rfl hl (by decide) rfl (fun ls hl => ?_)
  exact hw _ _ _ hP hD hS (lv_sub hl [1, 0] rfl)
def P_X11_carriedOf (post : Int32 → Int32 → (Nat → Int32) → (Nat → Int32) → Int32 → (Nat → Int32) → (Nat → Int32) → (Nat → Int32) → (Nat → Int64) → (Nat → Int64) → (Nat → Int32) → Prop) (p1 : Int32) (p2 : Int32) (m_book : Nat → Int32) (m_farness : Nat → Int32) (m_events : Int32) (m_eventDay : Nat → Int32) (m_eventHouse : Nat → Int32) (m_eventKind : Nat → Int32) (m_eventNeed : Nat → Int32) (m_isOff : Nat → Int32) (m_days : Int32) (m_day : Nat → Int32) (m_need : Nat → Int32) (m_edges : Int32) (m_edgeFrom : Nat → Int32) (m_edgeTo : Nat → Int32) (m_room : Nat → Int32) (m_price : Nat → Int64) (m_far : Nat → Int64) (m_came : Nat → Int32) : Prop :=
  ∀ (X16 : Int64 → Int32 → Int32 → (Nat → Int32) → (Nat → Int32) → Int32 → (Nat → Int32) → (Nat → Int32) → (Nat → Int32) → (Nat → Int64) → (Nat → Int64) → (Nat → Int32) → Prop),
  (∀ (x3 : Int64) (x5 : Int32) (m_days : Int32) (m_day : Nat → Int32) (m_need : Nat → Int32) (m_edges : Int32) (m_edgeFrom : Nat → Int32) (m_edgeTo : Nat → Int32) (m_room : Nat → Int32) (m_price : Nat → Int64) (m_far : Nat → Int64) (m_came : Nat → Int32), ((((60 : Int32) ≤ x5 → P_X11_flow (fun r_10 m_room_11 m_far_12 m_came_13 => ∀ y_14 : Int64, y_14 = (r_10 + ((10000000 : Int64) * x3)) → ∀ v_16 : Int32, v_16 = (if (lg_cmp y_14 (10000000 : Int64)) < (0 : Int32) then y_14.toInt32 else (-9 : Int32)) → post v_16 m_days m_day m_need m_edges m_edgeFrom m_edgeTo m_room_11 m_price m_far_12 m_came_13) m_days m_edges m_edgeFrom m_edgeTo m_room m_price m_far m_came) ∧ (¬ (60 : Int32) ≤ x5 → vp_in x5 60 ∧ ∀ y_18 : Int64, y_18 = (x3 + (m_need x5.toNatClampNeg).toInt64) → ∀ y_19 : Int32, y_19 = (x5 + (1 : Int32)) → X16 y_18 y_19 m_days m_day m_need m_edges m_edgeFrom m_edgeTo m_room m_price m_far m_came))) → X16 x3 x5 m_days m_day m_need m_edges m_edgeFrom m_edgeTo m_room m_price m_far m_came) →
  P_X11_layDays (fun m_days_1 m_day_2 m_need_3 => P_X11_layNet (fun m_edges_4 m_edgeFrom_5 m_edgeTo_6 m_room_7 m_price_8 => X16 (0 : Int64) (0 : Int32) m_days_1 m_day_2 m_need_3 m_edges_4 m_edgeFrom_5 m_edgeTo_6 m_room_7 m_price_8 m_far m_came) p1 m_book m_farness m_days_1 m_need_3 m_edges m_edgeFrom m_edgeTo m_room m_price) p1 p2 m_events m_eventDay m_eventHouse m_eventKind m_eventNeed m_isOff m_days m_day m_need
abbrev rm_X11_carriedOf : Room := { frames := 2, cells := 0, slots := 0, locals := 50 }
theorem iw_X11_carriedOf_X11 : ∀ w ∈ wsX110, w ∈ wsX11_carriedOf := by decide +kernel
set_option maxHeartbeats 4000000 in
set_option maxRecDepth 100000 in
theorem c_X11_carriedOf (l : Launch) (G : va_G) (K : ClassId × ClassId × ClassId) (tb q : Nat → Nat) (sz : Nat) (m_kinds : Int32) (m_weighings : Int32) (m_spanLow : Int32) (m_spanHigh : Int32) (m_crew : Int32) (m_breakages : Int32) (post : Int32 → Int32 → (Nat → Int32) → (Nat → Int32) → Int32 → (Nat → Int32) → (Nat → Int32) → (Nat → Int32) → (Nat → Int64) → (Nat → Int64) → (Nat → Int32) → Prop) (p1 : Int32) (p2 : Int32) (m_book : Nat → Int32) (m_farness : Nat → Int32) (m_events : Int32) (m_eventDay : Nat → Int32) (m_eventHouse : Nat → Int32) (m_eventKind : Nat → Int32) (m_eventNeed : Nat → Int32) (m_isOff : Nat → Int32) (m_days : Int32) (m_day : Nat → Int32) (m_need : Nat → Int32) (m_edges : Int32) (m_edgeFrom : Nat → Int32) (m_edgeTo : Nat → Int32) (m_room : Nat → Int32) (m_price : Nat → Int64) (m_far : Nat → Int64) (m_came : Nat → Int32) (hw : P_X11_carriedOf post p1 p2 m_book m_farness m_events m_eventDay m_eventHouse m_eventKind m_eventNeed m_isOff m_days m_day m_need m_edges m_edgeFrom m_edgeTo m_room m_price m_far m_came) : Met l yX11_carriedOf wsX11_carriedOf rm_X11_carriedOf (va_Pc [.ref (q 0), .int p1, .int p2] (hPre G K tb [oX11 q m_kinds m_weighings m_spanLow m_spanHigh m_events m_days m_edges m_crew m_breakages, aI K (q 3) 30 m_book, aI K (q 10) 25 m_farness, aI K (q 11) 12 m_eventDay, aI K (q 12) 12 m_eventHouse, aI K (q 13) 12 m_eventKind, aI K (q 14) 12 m_eventNeed, aZ K (q 15) 12 m_isOff, aI K (q 16) 12 m_day, aI K (q 17) 60 m_need, aI K (q 18) 1000 m_edgeFrom, aI K (q 19) 1000 m_edgeTo, aI K (q 20) 1000 m_room, aJ K (q 21) 1000 m_price, aJ K (q 22) 130 m_far, aI K (q 23) 130 m_came] sz)) (va_Qi (fun (r : Int32) (u : Int32 × (Nat → Int32) × (Nat → Int32) × Int32 × (Nat → Int32) × (Nat → Int32) × (Nat → Int32) × (Nat → Int64) × (Nat → Int64) × (Nat → Int32)) => post r u.1 u.2.1 u.2.2.1 u.2.2.2.1 u.2.2.2.2.1 u.2.2.2.2.2.1 u.2.2.2.2.2.2.1 u.2.2.2.2.2.2.2.1 u.2.2.2.2.2.2.2.2.1 u.2.2.2.2.2.2.2.2.2) (fun u => hB G K (va_A [oX11 q m_kinds m_weighings m_spanLow m_spanHigh m_events m_days m_edges m_crew m_breakages, aI K (q 3) 30 m_book, aI K (q 10) 25 m_farness, aI K (q 11) 12 m_eventDay, aI K (q 12) 12 m_eventHouse, aI K (q 13) 12 m_eventKind, aI K (q 14) 12 m_eventNeed, aZ K (q 15) 12 m_isOff, aI K (q 16) 12 m_day, aI K (q 17) 60 m_need, aI K (q 18) 1000 m_edgeFrom, aI K (q 19) 1000 m_edgeTo, aI K (q 20) 1000 m_room, aJ K (q 21) 1000 m_price, aJ K (q 22) 130 m_far, aI K (q 23) 130 m_came] sz) [oX11 q m_kinds m_weighings m_spanLow m_spanHigh m_events u.1 u.2.2.2.1 m_crew m_breakages, aI K (q 3) 30 m_book, aI K (q 10) 25 m_farness, aI K (q 11) 12 m_eventDay, aI K (q 12) 12 m_eventHouse, aI K (q 13) 12 m_eventKind, aI K (q 14) 12 m_eventNeed, aZ K (q 15) 12 m_isOff, aI K (q 16) 12 u.2.1, aI K (q 17) 60 u.2.2.1, aI K (q 18) 1000 u.2.2.2.2.1, aI K (q 19) 1000 u.2.2.2.2.2.1, aI K (q 20) 1000 u.2.2.2.2.2.2.1, aJ K (q 21) 1000 u.2.2.2.2.2.2.2.1, aJ K (q 22) 130 u.2.2.2.2.2.2.2.2.1, aI K (q 23) 130 u.2.2.2.2.2.2.2.2.2]) (va_A [oX11 q m_kinds m_weighings m_spanLow m_spanHigh m_events m_days m_edges m_crew m_breakages, aI K (q 3) 30 m_book, aI K (q 10) 25 m_farness, aI K (q 11) 12 m_eventDay, aI K (q 12) 12 m_eventHouse, aI K (q 13) 12 m_eventKind, aI K (q 14) 12 m_eventNeed, aZ K (q 15) 12 m_isOff, aI K (q 16) 12 m_day, aI K (q 17) 60 m_need, aI K (q 18) 1000 m_edgeFrom, aI K (q 19) 1000 m_edgeTo, aI K (q 20) 1000 m_room, aJ K (q 21) 1000 m_price, aJ K (q 22) 130 m_far, aI K (q 23) 130 m_came] sz)) 0 0 (va_A [oX11 q m_kinds m_weighings m_spanLow m_spanHigh m_events m_days m_edges m_crew m_breakages, aI K (q 3) 30 m_book, aI K (q 10) 25 m_farness, aI K (q 11) 12 m_eventDay, aI K (q 12) 12 m_eventHouse, aI K (q 13) 12 m_eventKind, aI K (q 14) 12 m_eventNeed, aZ K (q 15) 12 m_isOff, aI K (q 16) 12 m_day, aI K (q 17) 60 m_need, aI K (q 18) 1000 m_edgeFrom, aI K (q 19) 1000 m_edgeTo, aI K (q 20) 1000 m_room, aJ K (q 21) 1000 m_price, aJ K (q 22) 130 m_far, aI K (q 23) 130 m_came] sz) := by
  refine hMet (fun A => va_Qi (fun (r : Int32) (u : Int32 × (Nat → Int32) × (Nat → Int32) × Int32 × (Nat → Int32) × (Nat → Int32) × (Nat → Int32) × (Nat → Int64) × (Nat → Int64) × (Nat → Int32)) => post r u.1 u.2.1 u.2.2.1 u.2.2.2.1 u.2.2.2.2.1 u.2.2.2.2.2.1 u.2.2.2.2.2.2.1 u.2.2.2.2.2.2.2.1 u.2.2.2.2.2.2.2.2.1 u.2.2.2.2.2.2.2.2.2) (fun u => hB G K A [oX11 q m_kinds m_weighings m_spanLow m_spanHigh m_events u.1 u.2.2.2.1 m_crew m_breakages, aI K (q 3) 30 m_book, aI K (q 10) 25 m_farness, aI K (q 11) 12 m_eventDay, aI K (q 12) 12 m_eventHouse, aI K (q 13) 12 m_eventKind, aI K (q 14) 12 m_eventNeed, aZ K (q 15) 12 m_isOff, aI K (q 16) 12 u.2.1, aI K (q 17) 60 u.2.2.1, aI K (q 18) 1000 u.2.2.2.2.1, aI K (q 19) 1000 u.2.2.2.2.2.1, aI K (q 20) 1000 u.2.2.2.2.2.2.1, aJ K (q 21) 1000 u.2.2.2.2.2.2.2.1, aJ K (q 22) 130 u.2.2.2.2.2.2.2.2.1, aI K (q 23) 130 u.2.2.2.2.2.2.2.2.2]) A) (by decide) rfl (Nat.le_of_ble_eq_true rfl) ?_
  intro p e s m av below meth c A Q ls hx hb hr hml hts hown hlocks hnm hA hP hK hD hS hE hQ hl
  have hts : ∀ w ∈ wsX11_carriedOf, w.before av s = true := hts
  have hown : s.vm.findClass RX11 = some m.cls := hown
  have hl : lv_has ls 7 [(0, .ref (q 0)), (1, .int p1), (2, .int p2)] := hl
  unfold P_X11_carriedOf at hw
  replace hw := hw (fun (x3 : Int64) (x5 : Int32) (m_days : Int32) (m_day : Nat → Int32) (m_need : Nat → Int32) (m_edges : Int32) (m_edgeFrom : Nat → Int32) (m_edgeTo : Nat → Int32) (m_room : Nat → Int32) (m_price : Nat → Int64) (m_far : Nat → Int64) (m_came : Nat → Int32) => ∀ (H : Heap) (locs : List Loc) (ls : Array Slot), va_P G vwCl [oX11 q m_kinds m_weighings m_spanLow m_spanHigh m_events m_days m_edges m_crew m_breakages, aI K (q 3) 30 m_book, aI K (q 10) 25 m_farness, aI K (q 11) 12 m_eventDay, aI K (q 12) 12 m_eventHouse, aI K (q 13) 12 m_eventKind, aI K (q 14) 12 m_eventNeed, aZ K (q 15) 12 m_isOff, aI K (q 16) 12 m_day, aI K (q 17) 60 m_need, aI K (q 18) 1000 m_edgeFrom, aI K (q 19) 1000 m_edgeTo, aI K (q 20) 1000 m_room, aJ K (q 21) 1000 m_price, aJ K (q 22) 130 m_far, aI K (q 23) 130 m_came] H → va_D A [oX11 q m_kinds m_weighings m_spanLow m_spanHigh m_events m_days m_edges m_crew m_breakages, aI K (q 3) 30 m_book, aI K (q 10) 25 m_farness, aI K (q 11) 12 m_eventDay, aI K (q 12) 12 m_eventHouse, aI K (q 13) 12 m_eventKind, aI K (q 14) 12 m_eventNeed, aZ K (q 15) 12 m_isOff, aI K (q 16) 12 m_day, aI K (q 17) 60 m_need, aI K (q 18) 1000 m_edgeFrom, aI K (q 19) 1000 m_edgeTo, aI K (q 20) 1000 m_room, aJ K (q 21) 1000 m_price, aJ K (q 22) 130 m_far, aI K (q 23) 130 m_came] → va_S A s.heap H locs → lv_has ls 7 [(0, .ref (q 0)), (3, .long x3), (5, .int x5)] → W p l e rm_X11_carriedOf s m av below meth c H locs 0 0 Q (F0 m 16 ls []))
  replace hw := hw (by
    intro x3 x5 m_days m_day m_need m_edges m_edgeFrom m_edgeTo m_room m_price m_far m_came hw H locs ls hP hD hS hl
    refine lv_iload (pc := 16) hx hb dX11_carriedOf_16 (lv_at hl 2 rfl) ?_
    refine lv_bipush (pc := 18) (v := (60 : Int32)) hx hb dX11_carriedOf_18 (by decide) ?_
    refine lv_icmp_ge (pc := 20) (tgt := 40) hx hb dX11_carriedOf_20 (by decide) (fun c_9 => ?_) (fun c_9 => ?_)
    · replace hw := hw.1 c_9
      refine lv_aload_n (pc := 40) hx hb dX11_carriedOf_40 rfl (lv_at hl 0 rfl) ?_
      refine hCallL (pc := 41) (wr := [aI K (q 3) 30 m_book, aI K (q 10) 25 m_farness, aI K (q 11) 12 m_eventDay, aI K (q 12) 12 m_eventHouse, aI K (q 13) 12 m_eventKind, aI K (q 14) 12 m_eventNeed, aZ K (q 15) 12 m_isOff, aI K (q 16) 12 m_day, aI K (q 17) 60 m_need]) (wsf := fun (u : (Nat → Int32) × (Nat → Int64) × (Nat → Int32)) => [oX11 q m_kinds m_weighings m_spanLow m_spanHigh m_events m_days m_edges m_crew m_breakages, aI K (q 18) 1000 m_edgeFrom, aI K (q 19) 1000 m_edgeTo, aI K (q 20) 1000 u.1, aJ K (q 21) 1000 m_price, aJ K (q 22) 130 u.2.1, aI K (q 23) 130 u.2.2]) [0, 10, 11, 12, 13, 14, 15] [1, 2, 3, 4, 5, 6, 7, 8, 9] (va_runV (As := []) (rest := []) ⟨hx, hb, hml, hown, hts⟩ (c_X11_flow l G K tb q H.size m_kinds m_weighings m_spanLow m_spanHigh m_events m_crew m_breakages _ m_days m_edges m_edgeFrom m_edgeTo m_room m_price m_far m_came hw) (cwV 0 hts gX11_carriedOf_X11_flow rfl rfl rfl (by decide +kernel) ⟨Nat.le_of_ble_eq_true rfl, Nat.le_of_ble_eq_true rfl⟩) (hPreV hE hP hK hD hS hA [0, 10, 11, 12, 13, 14, 15] (by decide) rfl rfl rfl rfl (q0 := 0) (ci := 11) rfl) rfl rfl hl.1 rfl (lv_room (Nat.le_of_ble_eq_true rfl)) dX11_carriedOf_41 ⟨Nat.zero_le _, Nat.zero_le _⟩) hP hD hS hA rfl rfl (by decide) (by decide) (fun r_10 u H locs hw hP hD hS => ?_)
      obtain ⟨m_room_11, m_far_12, m_came_13⟩ := u
      have hP : va_P G vwCl [oX11 q m_kinds m_weighings m_spanLow m_spanHigh m_events m_days m_edges m_crew m_breakages, aI K (q 3) 30 m_book, aI K (q 10) 25 m_farness, aI K (q 11) 12 m_eventDay, aI K (q 12) 12 m_eventHouse, aI K (q 13) 12 m_eventKind, aI K (q 14) 12 m_eventNeed, aZ K (q 15) 12 m_isOff, aI K (q 16) 12 m_day, aI K (q 17) 60 m_need, aI K (q 18) 1000 m_edgeFrom, aI K (q 19) 1000 m_edgeTo, aI K (q 20) 1000 m_room_11, aJ K (q 21) 1000 m_price, aJ K (q 22) 130 m_far_12, aI K (q 23) 130 m_came_13] H := hP.sub [9, 0, 1, 2, 3, 4, 5, 6, 7, 8, 10, 11, 12, 13, 14, 15] rfl
      have hD : va_D A [oX11 q m_kinds m_weighings m_spanLow m_spanHigh m_events m_days m_edges m_crew m_breakages, aI K (q 3) 30 m_book, aI K (q 10) 25 m_farness, aI K (q 11) 12 m_eventDay, aI K (q 12) 12 m_eventHouse, aI K (q 13) 12 m_eventKind, aI K (q 14) 12 m_eventNeed, aZ K (q 15) 12 m_isOff, aI K (q 16) 12 m_day, aI K (q 17) 60 m_need, aI K (q 18) 1000 m_edgeFrom, aI K (q 19) 1000 m_edgeTo, aI K (q 20) 1000 m_room_11, aJ K (q 21) 1000 m_price, aJ K (q 22) 130 m_far_12, aI K (q 23) 130 m_came_13] := hD.sub [9, 0, 1, 2, 3, 4, 5, 6, 7, 8, 10, 11, 12, 13, 14, 15] (by decide) rfl
      refine lv_ldc2 (pc := 44) (v := (10000000 : Int64)) hx hb hown (hts _ (List.mem_of_getElem? (i := 2) rfl)) dX11_carriedOf_44 ?_
      refine lv_lload_n (pc := 47) hx hb dX11_carriedOf_47 rfl (lv_at hl 1 rfl) ?_
      refine lv_lmul (pc := 48) hx hb dX11_carriedOf_48 ?_
      refine lv_ladd (pc := 49) hx hb dX11_carriedOf_49 ?_
      refine lv_topl (fun y_14 ey_14 => ?_)
      replace hw := hw y_14 ey_14
      refine lv_lstore (pc := 50) (lv' := [(5, .long y_14), (0, .ref (q 0)), (3, .long x3)]) hx hb dX11_carriedOf_50 hl (by decide) rfl (fun ls hl => ?_)
      refine lv_lload (pc := 52) hx hb dX11_carriedOf_52 (lv_at hl 0 rfl) ?_
      refine lv_ldc2 (pc := 54) (v := (10000000 : Int64)) hx hb hown (hts _ (List.mem_of_getElem? (i := 2) rfl)) dX11_carriedOf_54 ?_
      refine W.lcmp (pc := 57) hx hb dX11_carriedOf_57 ?_
      have K_v_16 : ∀ v_16 : Int32, v_16 = (if (lg_cmp y_14 (10000000 : Int64)) < (0 : Int32) then y_14.toInt32 else (-9 : Int32)) → W p l e rm_X11_carriedOf s m av below meth c H locs 0 0 Q (F0 m 69 ls [.int v_16]) := by
        intro v_16 ev_16
        replace hw := hw v_16 ev_16
        exact hRetI (S := Int32 × (Nat → Int32) × (Nat → Int32) × Int32 × (Nat → Int32) × (Nat → Int32) × (Nat → Int32) × (Nat → Int64) × (Nat → Int64) × (Nat → Int32)) (m_days, m_day, m_need, m_edges, m_edgeFrom, m_edgeTo, m_room_11, m_price, m_far_12, m_came_13) hx hb hr hlocks hQ hw hP hK hD hS dX11_carriedOf_69
      refine lv_if_lt (pc := 58) (tgt := 66) hx hb dX11_carriedOf_58 (by decide) (fun c_15 => ?_) (fun c_15 => ?_)
      · skip
        refine lv_lload (pc := 66) hx hb dX11_carriedOf_66 (lv_at hl 0 rfl) ?_
        refine lv_l2i (pc := 68) hx hb dX11_carriedOf_68 rfl ?_
        exact K_v_16 _ (by rw [if_pos c_15])
      · skip
        refine lv_bipush (pc := 61) (v := (-9 : Int32)) hx hb dX11_carriedOf_61 (by decide) ?_
        refine lv_goto (pc := 63) (tgt := 69) hx hb dX11_carriedOf_63 (by decide) ?_
        exact K_v_16 _ (by rw [if_neg c_15])
    · replace hw := hw.2 c_9
      refine lv_lload_n (pc := 23) hx hb dX11_carriedOf_23 rfl (lv_at hl 1 rfl) ?_
      refine lv_aload_n (pc := 24) hx hb dX11_carriedOf_24 rfl (lv_at hl 0 rfl) ?_
      refine va_get (pc := 25) (D := G) (ci := 11) (v := .ref (q 17)) (C := RX11) (T := TX11) (N := 45) hx hb hts iw_X11_carriedOf_X11 hown hK hP 0 rfl rfl 22 (by decide) (hts _ (List.mem_of_getElem? (i := 1) rfl)) (fun _ h9 => h9) rfl dX11_carriedOf_25 ?_
      refine lv_iload (pc := 28) hx hb dX11_carriedOf_28 (lv_at hl 2 rfl) ?_
      obtain ⟨h_17, hw⟩ := hw
      refine va_iald (pc := 30) hx hb hK hP 9 0 rfl rfl h_17 dX11_carriedOf_30 ?_
      refine lv_i2l (pc := 31) hx hb dX11_carriedOf_31 rfl ?_
      refine lv_ladd (pc := 32) hx hb dX11_carriedOf_32 ?_
      refine lv_topl (fun y_18 ey_18 => ?_)
      replace hw := hw y_18 ey_18
      refine lv_lstore_n (pc := 33) (lv' := [(3, .long y_18), (0, .ref (q 0)), (5, .int x5)]) hx hb dX11_carriedOf_33 rfl hl (by decide) rfl (fun ls hl => ?_)
      obtain ⟨y_19, ey_19⟩ : ∃ z : Int32, z = (x5 + (1 : Int32)) := ⟨_, rfl⟩
      replace hw := hw y_19 ey_19
      refine lv_iinc (pc := 34) (v := y_19) (lv' := [(5, .int y_19), (3, .long y_18), (0, .ref (q 0))]) hx hb dX11_carriedOf_34 hl (k := 2) rfl (by rw [ey_19]; rfl) (by decide) rfl (fun ls hl => ?_)
      refine lv_goto (pc := 37) (tgt := 16) hx hb dX11_carriedOf_37 (by decide) ?_
      exact hw _ _ _ hP hD hS (lv_sub hl [2, 1, 0] rfl))
  refine lv_aload_n (pc := 0) hx hb dX11_carriedOf_0 rfl (lv_at hl 0 rfl) ?_
  refine lv_iload_n (pc := 1) hx hb dX11_carriedOf_1 rfl (lv_at hl 1 rfl) ?_
  refine lv_iload_n (pc := 2) hx hb dX11_carriedOf_2 rfl (lv_at hl 2 rfl) ?_
  refine hCallV (pc := 3) (wr := [aI K (q 3) 30 m_book, aI K (q 10) 25 m_farness, aI K (q 18) 1000 m_edgeFrom, aI K (q 19) 1000 m_edgeTo, aI K (q 20) 1000 m_room, aJ K (q 21) 1000 m_price, aJ K (q 22) 130 m_far, aI K (q 23) 130 m_came]) (wsf := fun (u : Int32 × (Nat → Int32) × (Nat → Int32)) => [oX11 q m_kinds m_weighings m_spanLow m_spanHigh m_events u.1 m_edges m_crew m_breakages, aI K (q 11) 12 m_eventDay, aI K (q 12) 12 m_eventHouse, aI K (q 13) 12 m_eventKind, aI K (q 14) 12 m_eventNeed, aZ K (q 15) 12 m_isOff, aI K (q 16) 12 u.2.1, aI K (q 17) 60 u.2.2]) [0, 3, 4, 5, 6, 7, 8, 9] [1, 2, 10, 11, 12, 13, 14, 15] (va_runV (As := [.int p1, .int p2]) (rest := []) ⟨hx, hb, hml, hown, hts⟩ (c_X11_layDays l G K tb q s.heap.size m_kinds m_weighings m_spanLow m_spanHigh m_edges m_crew m_breakages _ p1 p2 m_events m_eventDay m_eventHouse m_eventKind m_eventNeed m_isOff m_days m_day m_need hw) (cwV 2 hts gX11_carriedOf_X11_layDays rfl rfl rfl (by decide +kernel) ⟨Nat.le_of_ble_eq_true rfl, Nat.le_of_ble_eq_true rfl⟩) (hPreV hE hP hK hD hS hA [0, 3, 4, 5, 6, 7, 8, 9] (by decide) rfl rfl rfl rfl (q0 := 0) (ci := 11) rfl) rfl rfl hl.1 rfl (lv_room (Nat.le_of_ble_eq_true rfl)) dX11_carriedOf_3 ⟨Nat.zero_le _, Nat.zero_le _⟩) hP hD hS hA rfl rfl (by decide) (by decide) (fun u H locs hw hP hD hS => ?_)
  obtain ⟨m_days_1, m_day_2, m_need_3⟩ := u
  have hP : va_P G vwCl [oX11 q m_kinds m_weighings m_spanLow m_spanHigh m_events m_days_1 m_edges m_crew m_breakages, aI K (q 3) 30 m_book, aI K (q 10) 25 m_farness, aI K (q 11) 12 m_eventDay, aI K (q 12) 12 m_eventHouse, aI K (q 13) 12 m_eventKind, aI K (q 14) 12 m_eventNeed, aZ K (q 15) 12 m_isOff, aI K (q 16) 12 m_day_2, aI K (q 17) 60 m_need_3, aI K (q 18) 1000 m_edgeFrom, aI K (q 19) 1000 m_edgeTo, aI K (q 20) 1000 m_room, aJ K (q 21) 1000 m_price, aJ K (q 22) 130 m_far, aI K (q 23) 130 m_came] H := hP.sub [8, 0, 1, 9, 10, 11, 12, 13, 14, 15, 2, 3, 4, 5, 6, 7] rfl
  have hD : va_D A [oX11 q m_kinds m_weighings m_spanLow m_spanHigh m_events m_days_1 m_edges m_crew m_breakages, aI K (q 3) 30 m_book, aI K (q 10) 25 m_farness, aI K (q 11) 12 m_eventDay, aI K (q 12) 12 m_eventHouse, aI K (q 13) 12 m_eventKind, aI K (q 14) 12 m_eventNeed, aZ K (q 15) 12 m_isOff, aI K (q 16) 12 m_day_2, aI K (q 17) 60 m_need_3, aI K (q 18) 1000 m_edgeFrom, aI K (q 19) 1000 m_edgeTo, aI K (q 20) 1000 m_room, aJ K (q 21) 1000 m_price, aJ K (q 22) 130 m_far, aI K (q 23) 130 m_came] := hD.sub [8, 0, 1, 9, 10, 11, 12, 13, 14, 15, 2, 3, 4, 5, 6, 7] (by decide) rfl
  refine lv_aload_n (pc := 6) hx hb dX11_carriedOf_6 rfl (lv_at hl 0 rfl) ?_
  refine lv_iload_n (pc := 7) hx hb dX11_carriedOf_7 rfl (lv_at hl 1 rfl) ?_
  refine hCallV (pc := 8) (wr := [aI K (q 11) 12 m_eventDay, aI K (q 12) 12 m_eventHouse, aI K (q 13) 12 m_eventKind, aI K (q 14) 12 m_eventNeed, aZ K (q 15) 12 m_isOff, aI K (q 16) 12 m_day_2, aJ K (q 22) 130 m_far, aI K (q 23) 130 m_came]) (wsf := fun (u : Int32 × (Nat → Int32) × (Nat → Int32) × (Nat → Int32) × (Nat → Int64)) => [oX11 q m_kinds m_weighings m_spanLow m_spanHigh m_events m_days_1 u.1 m_crew m_breakages, aI K (q 3) 30 m_book, aI K (q 10) 25 m_farness, aI K (q 17) 60 m_need_3, aI K (q 18) 1000 u.2.1, aI K (q 19) 1000 u.2.2.1, aI K (q 20) 1000 u.2.2.2.1, aJ K (q 21) 1000 u.2.2.2.2]) [0, 1, 2, 9, 10, 11, 12, 13] [3, 4, 5, 6, 7, 8, 14, 15] (va_runV (As := [.int p1]) (rest := []) ⟨hx, hb, hml, hown, hts⟩ (c_X11_layNet l G K tb q H.size m_kinds m_weighings m_spanLow m_spanHigh m_events m_crew m_breakages _ p1 m_book m_farness m_days_1 m_need_3 m_edges m_edgeFrom m_edgeTo m_room m_price hw) (cwV 1 hts gX11_carriedOf_X11_layNet rfl rfl rfl (by decide +kernel) ⟨Nat.le_of_ble_eq_true rfl, Nat.le_of_ble_eq_true rfl⟩) (hPreV hE hP hK hD hS hA [0, 1, 2, 9, 10, 11, 12, 13] (by decide) rfl rfl rfl rfl (q0 := 0) (ci := 11) rfl) rfl rfl hl.1 rfl (lv_room (Nat.le_of_ble_eq_true rfl)) dX11_carriedOf_8 ⟨Nat.zero_le _, Nat.zero_le _⟩) hP hD hS hA rfl rfl (by decide) (by decide) (fun u H locs hw hP hD hS => ?_)
  obtain ⟨m_edges_4, m_edgeFrom_5, m_edgeTo_6, m_room_7, m_price_8⟩ := u
  have hP : va_P G vwCl [oX11 q m_kinds m_weighings m_spanLow m_spanHigh m_events m_days_1 m_edges_4 m_crew m_breakages, aI K (q 3) 30 m_book, aI K (q 10) 25 m_farness, aI K (q 11) 12 m_eventDay, aI K (q 12) 12 m_eventHouse, aI K (q 13) 12 m_eventKind, aI K (q 14) 12 m_eventNeed, aZ K (q 15) 12 m_isOff, aI K (q 16) 12 m_day_2, aI K (q 17) 60 m_need_3, aI K (q 18) 1000 m_edgeFrom_5, aI K (q 19) 1000 m_edgeTo_6, aI K (q 20) 1000 m_room_7, aJ K (q 21) 1000 m_price_8, aJ K (q 22) 130 m_far, aI K (q 23) 130 m_came] H := hP.sub [8, 9, 10, 0, 1, 2, 3, 4, 5, 11, 12, 13, 14, 15, 6, 7] rfl
  have hD : va_D A [oX11 q m_kinds m_weighings m_spanLow m_spanHigh m_events m_days_1 m_edges_4 m_crew m_breakages, aI K (q 3) 30 m_book, aI K (q 10) 25 m_farness, aI K (q 11) 12 m_eventDay, aI K (q 12) 12 m_eventHouse, aI K (q 13) 12 m_eventKind, aI K (q 14) 12 m_eventNeed, aZ K (q 15) 12 m_isOff, aI K (q 16) 12 m_day_2, aI K (q 17) 60 m_need_3, aI K (q 18) 1000 m_edgeFrom_5, aI K (q 19) 1000 m_edgeTo_6, aI K (q 20) 1000 m_room_7, aJ K (q 21) 1000 m_price_8, aJ K (q 22) 130 m_far, aI K (q 23) 130 m_came] := hD.sub [8, 9, 10, 0, 1, 2, 3, 4, 5, 11, 12, 13, 14, 15, 6, 7] (by decide) rfl
  refine lv_lconst (pc := 11) (v := (0 : Int64)) hx hb dX11_carriedOf_11 (by decide) ?_
  refine lv_lstore_n (pc := 12) (lv' := [(3, .long (0 : Int64)), (0, .ref (q 0)), (1, .int p1), (2, .int p2)]) hx hb dX11_carriedOf_12 rfl hl (by decide) rfl (fun ls hl => ?_)
  refine lv_iconst (pc := 13) (v := (0 : Int32)) hx hb dX11_carriedOf_13 (by decide) ?_
  refine lv_istore (pc := 14) (lv' := [(5, .int (0 : Int32)), (3, .long (0 : Int64)), (0, .ref (q 0)), (1, .int p1), (2, .int p2)]) hx hb dX11_carriedOf_14 hl (by decide) rfl (fun ls hl => ?_)
  exact hw _ _ _ hP hD hS (lv_sub hl [2, 1, 0] rfl)
def P_X11_carried (post : Int32 → Int32 → (Nat → Int32) → (Nat → Int32) → Int32 → (Nat → Int32) → (Nat → Int32) → (Nat → Int32) → (Nat → Int64) → (Nat → Int64) → (Nat → Int32) → Prop) (p1 : Int32) (m_kinds : Int32) (m_book : Nat → Int32) (m_farness : Nat → Int32) (m_events : Int32) (m_eventDay : Nat → Int32) (m_eventHouse : Nat → Int32) (m_eventKind : Nat → Int32) (m_eventNeed : Nat → Int32) (m_isOff : Nat → Int32) (m_days : Int32) (m_day : Nat → Int32) (m_need : Nat → Int32) (m_edges : Int32) (m_edgeFrom : Nat → Int32) (m_edgeTo : Nat → Int32) (m_room : Nat → Int32) (m_price : Nat → Int64) (m_far : Nat → Int64) (m_came : Nat → Int32) : Prop :=
  P_X11_isKind (fun r_1 => ((r_1 = (0 : Int32) → post (-1 : Int32) m_days m_day m_need m_edges m_edgeFrom m_edgeTo m_room m_price m_far m_came) ∧ (¬ r_1 = (0 : Int32) → P_X11_carriedOf (fun r_3 m_days_4 m_day_5 m_need_6 m_edges_7 m_edgeFrom_8 m_edgeTo_9 m_room_10 m_price_11 m_far_12 m_came_13 => post r_3 m_days_4 m_day_5 m_need_6 m_edges_7 m_edgeFrom_8 m_edgeTo_9 m_room_10 m_price_11 m_far_12 m_came_13) p1 (-9 : Int32) m_book m_farness m_events m_eventDay m_eventHouse m_eventKind m_eventNeed m_isOff m_days m_day m_need m_edges m_edgeFrom m_edgeTo m_room m_price m_far m_came))) p1 m_kinds
abbrev rm_X11_carried : Room := { frames := 3, cells := 0, slots := 0, locals := 76 }
set_option maxHeartbeats 4000000 in
set_option maxRecDepth 100000 in
theorem c_X11_carried (l : Launch) (G : va_G) (K : ClassId × ClassId × ClassId) (tb q : Nat → Nat) (sz : Nat) (m_weighings : Int32) (m_spanLow : Int32) (m_spanHigh : Int32) (m_crew : Int32) (m_breakages : Int32) (post : Int32 → Int32 → (Nat → Int32) → (Nat → Int32) → Int32 → (Nat → Int32) → (Nat → Int32) → (Nat → Int32) → (Nat → Int64) → (Nat → Int64) → (Nat → Int32) → Prop) (p1 : Int32) (m_kinds : Int32) (m_book : Nat → Int32) (m_farness : Nat → Int32) (m_events : Int32) (m_eventDay : Nat → Int32) (m_eventHouse : Nat → Int32) (m_eventKind : Nat → Int32) (m_eventNeed : Nat → Int32) (m_isOff : Nat → Int32) (m_days : Int32) (m_day : Nat → Int32) (m_need : Nat → Int32) (m_edges : Int32) (m_edgeFrom : Nat → Int32) (m_edgeTo : Nat → Int32) (m_room : Nat → Int32) (m_price : Nat → Int64) (m_far : Nat → Int64) (m_came : Nat → Int32) (hw : P_X11_carried post p1 m_kinds m_book m_farness m_events m_eventDay m_eventHouse m_eventKind m_eventNeed m_isOff m_days m_day m_need m_edges m_edgeFrom m_edgeTo m_room m_price m_far m_came) : Met l yX11_carried wsX11_carried rm_X11_carried (va_Pc [.ref (q 0), .int p1] (hPre G K tb [oX11 q m_kinds m_weighings m_spanLow m_spanHigh m_events m_days m_edges m_crew m_breakages, aI K (q 3) 30 m_book, aI K (q 10) 25 m_farness, aI K (q 11) 12 m_eventDay, aI K (q 12) 12 m_eventHouse, aI K (q 13) 12 m_eventKind, aI K (q 14) 12 m_eventNeed, aZ K (q 15) 12 m_isOff, aI K (q 16) 12 m_day, aI K (q 17) 60 m_need, aI K (q 18) 1000 m_edgeFrom, aI K (q 19) 1000 m_edgeTo, aI K (q 20) 1000 m_room, aJ K (q 21) 1000 m_price, aJ K (q 22) 130 m_far, aI K (q 23) 130 m_came] sz)) (va_Qi (fun (r : Int32) (u : Int32 × (Nat → Int32) × (Nat → Int32) × Int32 × (Nat → Int32) × (Nat → Int32) × (Nat → Int32) × (Nat → Int64) × (Nat → Int64) × (Nat → Int32)) => post r u.1 u.2.1 u.2.2.1 u.2.2.2.1 u.2.2.2.2.1 u.2.2.2.2.2.1 u.2.2.2.2.2.2.1 u.2.2.2.2.2.2.2.1 u.2.2.2.2.2.2.2.2.1 u.2.2.2.2.2.2.2.2.2) (fun u => hB G K (va_A [oX11 q m_kinds m_weighings m_spanLow m_spanHigh m_events m_days m_edges m_crew m_breakages, aI K (q 3) 30 m_book, aI K (q 10) 25 m_farness, aI K (q 11) 12 m_eventDay, aI K (q 12) 12 m_eventHouse, aI K (q 13) 12 m_eventKind, aI K (q 14) 12 m_eventNeed, aZ K (q 15) 12 m_isOff, aI K (q 16) 12 m_day, aI K (q 17) 60 m_need, aI K (q 18) 1000 m_edgeFrom, aI K (q 19) 1000 m_edgeTo, aI K (q 20) 1000 m_room, aJ K (q 21) 1000 m_price, aJ K (q 22) 130 m_far, aI K (q 23) 130 m_came] sz) [oX11 q m_kinds m_weighings m_spanLow m_spanHigh m_events u.1 u.2.2.2.1 m_crew m_breakages, aI K (q 3) 30 m_book, aI K (q 10) 25 m_farness, aI K (q 11) 12 m_eventDay, aI K (q 12) 12 m_eventHouse, aI K (q 13) 12 m_eventKind, aI K (q 14) 12 m_eventNeed, aZ K (q 15) 12 m_isOff, aI K (q 16) 12 u.2.1, aI K (q 17) 60 u.2.2.1, aI K (q 18) 1000 u.2.2.2.2.1, aI K (q 19) 1000 u.2.2.2.2.2.1, aI K (q 20) 1000 u.2.2.2.2.2.2.1, aJ K (q 21) 1000 u.2.2.2.2.2.2.2.1, aJ K (q 22) 130 u.2.2.2.2.2.2.2.2.1, aI K (q 23) 130 u.2.2.2.2.2.2.2.2.2]) (va_A [oX11 q m_kinds m_weighings m_spanLow m_spanHigh m_events m_days m_edges m_crew m_breakages, aI K (q 3) 30 m_book, aI K (q 10) 25 m_farness, aI K (q 11) 12 m_eventDay, aI K (q 12) 12 m_eventHouse, aI K (q 13) 12 m_eventKind, aI K (q 14) 12 m_eventNeed, aZ K (q 15) 12 m_isOff, aI K (q 16) 12 m_day, aI K (q 17) 60 m_need, aI K (q 18) 1000 m_edgeFrom, aI K (q 19) 1000 m_edgeTo, aI K (q 20) 1000 m_room, aJ K (q 21) 1000 m_price, aJ K (q 22) 130 m_far, aI K (q 23) 130 m_came] sz)) 0 0 (va_A [oX11 q m_kinds m_weighings m_spanLow m_spanHigh m_events m_days m_edges m_crew m_breakages, aI K (q 3) 30 m_book, aI K (q 10) 25 m_farness, aI K (q 11) 12 m_eventDay, aI K (q 12) 12 m_eventHouse, aI K (q 13) 12 m_eventKind, aI K (q 14) 12 m_eventNeed, aZ K (q 15) 12 m_isOff, aI K (q 16) 12 m_day, aI K (q 17) 60 m_need, aI K (q 18) 1000 m_edgeFrom, aI K (q 19) 1000 m_edgeTo, aI K (q 20) 1000 m_room, aJ K (q 21) 1000 m_price, aJ K (q 22) 130 m_far, aI K (q 23) 130 m_came] sz) := by
  refine hMet (fun A => va_Qi (fun (r : Int32) (u : Int32 × (Nat → Int32) × (Nat → Int32) × Int32 × (Nat → Int32) × (Nat → Int32) × (Nat → Int32) × (Nat → Int64) × (Nat → Int64) × (Nat → Int32)) => post r u.1 u.2.1 u.2.2.1 u.2.2.2.1 u.2.2.2.2.1 u.2.2.2.2.2.1 u.2.2.2.2.2.2.1 u.2.2.2.2.2.2.2.1 u.2.2.2.2.2.2.2.2.1 u.2.2.2.2.2.2.2.2.2) (fun u => hB G K A [oX11 q m_kinds m_weighings m_spanLow m_spanHigh m_events u.1 u.2.2.2.1 m_crew m_breakages, aI K (q 3) 30 m_book, aI K (q 10) 25 m_farness, aI K (q 11) 12 m_eventDay, aI K (q 12) 12 m_eventHouse, aI K (q 13) 12 m_eventKind, aI K (q 14) 12 m_eventNeed, aZ K (q 15) 12 m_isOff, aI K (q 16) 12 u.2.1, aI K (q 17) 60 u.2.2.1, aI K (q 18) 1000 u.2.2.2.2.1, aI K (q 19) 1000 u.2.2.2.2.2.1, aI K (q 20) 1000 u.2.2.2.2.2.2.1, aJ K (q 21) 1000 u.2.2.2.2.2.2.2.1, aJ K (q 22) 130 u.2.2.2.2.2.2.2.2.1, aI K (q 23) 130 u.2.2.2.2.2.2.2.2.2]) A) (by decide) rfl (Nat.le_of_ble_eq_true rfl) ?_
  intro p e s m av below meth c A Q ls hx hb hr hml hts hown hlocks hnm hA hP hK hD hS hE hQ hl
  have hts : ∀ w ∈ wsX11_carried, w.before av s = true := hts
  have hown : s.vm.findClass RX11 = some m.cls := hown
  have hl : lv_has ls 2 [(0, .ref (q 0)), (1, .int p1)] := hl
  unfold P_X11_carried at hw
  refine lv_aload_n (pc := 0) hx hb dX11_carried_0 rfl (lv_at hl 0 rfl) ?_
  refine lv_iload_n (pc := 1) hx hb dX11_carried_1 rfl (lv_at hl 1 rfl) ?_
  refine hCallI (pc := 2) (wr := [aI K (q 3) 30 m_book, aI K (q 10) 25 m_farness, aI K (q 11) 12 m_eventDay, aI K (q 12) 12 m_eventHouse, aI K (q 13) 12 m_eventKind, aI K (q 14) 12 m_eventNeed, aZ K (q 15) 12 m_isOff, aI K (q 16) 12 m_day, aI K (q 17) 60 m_need, aI K (q 18) 1000 m_edgeFrom, aI K (q 19) 1000 m_edgeTo, aI K (q 20) 1000 m_room, aJ K (q 21) 1000 m_price, aJ K (q 22) 130 m_far, aI K (q 23) 130 m_came]) (wsf := fun (u : Unit) => [oX11 q m_kinds m_weighings m_spanLow m_spanHigh m_events m_days m_edges m_crew m_breakages]) [0] [1, 2, 3, 4, 5, 6, 7, 8, 9, 10, 11, 12, 13, 14, 15] (va_runV (As := [.int p1]) (rest := []) ⟨hx, hb, hml, hown, hts⟩ (c_X11_isKind l G K tb q s.heap.size m_weighings m_spanLow m_spanHigh m_events m_days m_edges m_crew m_breakages _ p1 m_kinds hw) (cwV 1 hts gX11_carried_X11_isKind rfl rfl rfl (by decide +kernel) ⟨Nat.le_of_ble_eq_true rfl, Nat.le_of_ble_eq_true rfl⟩) (hPreV hE hP hK hD hS hA [0] (by decide) rfl rfl rfl rfl (q0 := 0) (ci := 11) rfl) rfl rfl hl.1 rfl (lv_room (Nat.le_of_ble_eq_true rfl)) dX11_carried_2 ⟨Nat.zero_le _, Nat.zero_le _⟩) hP hD hS hA rfl rfl (by decide) (by decide) (fun r_1 u H locs hw hP hD hS => ?_)
  have hP : va_P G vwCl [oX11 q m_kinds m_weighings m_spanLow m_spanHigh m_events m_days m_edges m_crew m_breakages, aI K (q 3) 30 m_book, aI K (q 10) 25 m_farness, aI K (q 11) 12 m_eventDay, aI K (q 12) 12 m_eventHouse, aI K (q 13) 12 m_eventKind, aI K (q 14) 12 m_eventNeed, aZ K (q 15) 12 m_isOff, aI K (q 16) 12 m_day, aI K (q 17) 60 m_need, aI K (q 18) 1000 m_edgeFrom, aI K (q 19) 1000 m_edgeTo, aI K (q 20) 1000 m_room, aJ K (q 21) 1000 m_price, aJ K (q 22) 130 m_far, aI K (q 23) 130 m_came] H := hP.sub [15, 0, 1, 2, 3, 4, 5, 6, 7, 8, 9, 10, 11, 12, 13, 14] rfl
  have hD : va_D A [oX11 q m_kinds m_weighings m_spanLow m_spanHigh m_events m_days m_edges m_crew m_breakages, aI K (q 3) 30 m_book, aI K (q 10) 25 m_farness, aI K (q 11) 12 m_eventDay, aI K (q 12) 12 m_eventHouse, aI K (q 13) 12 m_eventKind, aI K (q 14) 12 m_eventNeed, aZ K (q 15) 12 m_isOff, aI K (q 16) 12 m_day, aI K (q 17) 60 m_need, aI K (q 18) 1000 m_edgeFrom, aI K (q 19) 1000 m_edgeTo, aI K (q 20) 1000 m_room, aJ K (q 21) 1000 m_price, aJ K (q 22) 130 m_far, aI K (q 23) 130 m_came] := hD.sub [15, 0, 1, 2, 3, 4, 5, 6, 7, 8, 9, 10, 11, 12, 13, 14] (by decide) rfl
  refine lv_if_eq (pc := 5) (tgt := 18) hx hb dX11_carried_5 (by decide) (fun c_2 => ?_) (fun c_2 => ?_)
  · replace hw := hw.1 c_2
    refine lv_iconst (pc := 18) (v := (-1 : Int32)) hx hb dX11_carried_18 (by decide) ?_
    exact hRetI (S := Int32 × (Nat → Int32) × (Nat → Int32) × Int32 × (Nat → Int32) × (Nat → Int32) × (Nat → Int32) × (Nat → Int64) × (Nat → Int64) × (Nat → Int32)) (m_days, m_day, m_need, m_edges, m_edgeFrom, m_edgeTo, m_room, m_price, m_far, m_came) hx hb hr hlocks hQ hw hP hK hD hS dX11_carried_19
  · replace hw := hw.2 c_2
    refine lv_aload_n (pc := 8) hx hb dX11_carried_8 rfl (lv_at hl 0 rfl) ?_
    refine lv_iload_n (pc := 9) hx hb dX11_carried_9 rfl (lv_at hl 1 rfl) ?_
    refine lv_bipush (pc := 10) (v := (-9 : Int32)) hx hb dX11_carried_10 (by decide) ?_
    refine hCallI (pc := 12) (wr := []) (wsf := fun (u : Int32 × (Nat → Int32) × (Nat → Int32) × Int32 × (Nat → Int32) × (Nat → Int32) × (Nat → Int32) × (Nat → Int64) × (Nat → Int64) × (Nat → Int32)) => [oX11 q m_kinds m_weighings m_spanLow m_spanHigh m_events u.1 u.2.2.2.1 m_crew m_breakages, aI K (q 3) 30 m_book, aI K (q 10) 25 m_farness, aI K (q 11) 12 m_eventDay, aI K (q 12) 12 m_eventHouse, aI K (q 13) 12 m_eventKind, aI K (q 14) 12 m_eventNeed, aZ K (q 15) 12 m_isOff, aI K (q 16) 12 u.2.1, aI K (q 17) 60 u.2.2.1, aI K (q 18) 1000 u.2.2.2.2.1, aI K (q 19) 1000 u.2.2.2.2.2.1, aI K (q 20) 1000 u.2.2.2.2.2.2.1, aJ K (q 21) 1000 u.2.2.2.2.2.2.2.1, aJ K (q 22) 130 u.2.2.2.2.2.2.2.2.1, aI K (q 23) 130 u.2.2.2.2.2.2.2.2.2]) [0, 1, 2, 3, 4, 5, 6, 7, 8, 9, 10, 11, 12, 13, 14, 15] [] (va_runV (As := [.int p1, .int (-9 : Int32)]) (rest := []) ⟨hx, hb, hml, hown, hts⟩ (c_X11_carriedOf l G K tb q H.size m_kinds m_weighings m_spanLow m_spanHigh m_crew m_breakages _ p1 (-9 : Int32) m_book m_farness m_events m_eventDay m_eventHouse m_eventKind m_eventNeed m_isOff m_days m_day m_need m_edges m_edgeFrom m_edgeTo m_room m_price m_far m_came hw) (cwV 2 hts gX11_carried_X11_carriedOf rfl rfl rfl (by decide +kernel) ⟨Nat.le_of_ble_eq_true rfl, Nat.le_of_ble_eq_true rfl⟩) (hPreV hE hP hK hD hS hA [0, 1, 2, 3, 4, 5, 6, 7, 8, 9, 10, 11, 12, 13, 14, 15] (by decide) rfl rfl rfl rfl (q0 := 0) (ci := 11) rfl) rfl rfl hl.1 rfl (lv_room (Nat.le_of_ble_eq_true rfl)) dX11_carried_12 ⟨Nat.zero_le _, Nat.zero_le _⟩) hP hD hS hA rfl rfl (by decide) (by decide) (fun r_3 u H locs hw hP hD hS => ?_)
    obtain ⟨m_days_4, m_day_5, m_need_6, m_edges_7, m_edgeFrom_8, m_edgeTo_9, m_room_10, m_price_11, m_far_12, m_came_13⟩ := u
    have hP : va_P G vwCl [oX11 q m_kinds m_weighings m_spanLow m_spanHigh m_events m_days_4 m_edges_7 m_crew m_breakages, aI K (q 3) 30 m_book, aI K (q 10) 25 m_farness, aI K (q 11) 12 m_eventDay, aI K (q 12) 12 m_eventHouse, aI K (q 13) 12 m_eventKind, aI K (q 14) 12 m_eventNeed, aZ K (q 15) 12 m_isOff, aI K (q 16) 12 m_day_5, aI K (q 17) 60 m_need_6, aI K (q 18) 1000 m_edgeFrom_8, aI K (q 19) 1000 m_edgeTo_9, aI K (q 20) 1000 m_room_10, aJ K (q 21) 1000 m_price_11, aJ K (q 22) 130 m_far_12, aI K (q 23) 130 m_came_13] H := hP.sub [0, 1, 2, 3, 4, 5, 6, 7, 8, 9, 10, 11, 12, 13, 14, 15] rfl
    have hD : va_D A [oX11 q m_kinds m_weighings m_spanLow m_spanHigh m_events m_days_4 m_edges_7 m_crew m_breakages, aI K (q 3) 30 m_book, aI K (q 10) 25 m_farness, aI K (q 11) 12 m_eventDay, aI K (q 12) 12 m_eventHouse, aI K (q 13) 12 m_eventKind, aI K (q 14) 12 m_eventNeed, aZ K (q 15) 12 m_isOff, aI K (q 16) 12 m_day_5, aI K (q 17) 60 m_need_6, aI K (q 18) 1000 m_edgeFrom_8, aI K (q 19) 1000 m_edgeTo_9, aI K (q 20) 1000 m_room_10, aJ K (q 21) 1000 m_price_11, aJ K (q 22) 130 m_far_12, aI K (q 23) 130 m_came_13] := hD.sub [0, 1, 2, 3, 4, 5, 6, 7, 8, 9, 10, 11, 12, 13, 14, 15] (by decide) rfl
    refine lv_goto (pc := 15) (tgt := 19) hx hb dX11_carried_15 (by decide) ?_
    exact hRetI (S := Int32 × (Nat → Int32) × (Nat → Int32) × Int32 × (Nat → Int32) × (Nat → Int32) × (Nat → Int32) × (Nat → Int64) × (Nat → Int64) × (Nat → Int32)) (m_days_4, m_day_5, m_need_6, m_edges_7, m_edgeFrom_8, m_edgeTo_9, m_room_10, m_price_11, m_far_12, m_came_13) hx hb hr hlocks hQ hw hP hK hD hS dX11_carried_19
def P_X11_inNeed (post : Int32 → Int32 → (Nat → Int32) → (Nat → Int32) → Prop) (p1 : Int32) (m_kinds : Int32) (m_book : Nat → Int32) (m_events : Int32) (m_eventDay : Nat → Int32) (m_eventHouse : Nat → Int32) (m_eventKind : Nat → Int32) (m_eventNeed : Nat → Int32) (m_isOff : Nat → Int32) (m_days : Int32) (m_day : Nat → Int32) (m_need : Nat → Int32) : Prop :=
  ∀ (X21 : Int32 → Int32 → Int32 → (Nat → Int32) → (Nat → Int32) → Prop),
  ∀ (X48 : Int32 → Int32 → Int32 → (Nat → Int32) → (Nat → Int32) → Prop),
  ∀ (X62 : Int32 → Int32 → Int32 → Int32 → Int32 → (Nat → Int32) → (Nat → Int32) → Prop),
  (∀ (x2 : Int32) (x3 : Int32) (m_days : Int32) (m_day : Nat → Int32) (m_need : Nat → Int32), ((((5 : Int32) ≤ x3 → X48 x2 (0 : Int32) m_days m_day m_need) ∧ (¬ (5 : Int32) ≤ x3 → vp_in (((6 : Int32) * x3) + p1) 30 ∧ ∀ y_8 : Int32, y_8 = (x2 + (m_book (((6 : Int32) * x3) + p1).toNatClampNeg)) → ∀ y_9 : Int32, y_9 = (x3 + (1 : Int32)) → X21 y_8 y_9 m_days m_day m_need))) → X21 x2 x3 m_days m_day m_need) →
  (∀ (x2 : Int32) (x3 : Int32) (m_days : Int32) (m_day : Nat → Int32) (m_need : Nat → Int32), (((m_days ≤ x3 → post (-9 : Int32) m_days m_day m_need) ∧ (¬ m_days ≤ x3 → X62 x2 x3 (0 : Int32) (0 : Int32) m_days m_day m_need))) → X48 x2 x3 m_days m_day m_need) →
  (∀ (x2 : Int32) (x3 : Int32) (x4 : Int32) (x5 : Int32) (m_days : Int32) (m_day : Nat → Int32) (m_need : Nat → Int32), ((((5 : Int32) ≤ x5 → ((x4 ≤ x2 → ∀ y_13 : Int32, y_13 = (x3 + (1 : Int32)) → X48 x2 y_13 m_days m_day m_need) ∧ (¬ x4 ≤ x2 → vp_in x3 12 ∧ post (m_day x3.toNatClampNeg) m_days m_day m_need))) ∧ (¬ (5 : Int32) ≤ x5 → vp_in (((5 : Int32) * x3) + x5) 60 ∧ ∀ y_16 : Int32, y_16 = (x4 + (m_need (((5 : Int32) * x3) + x5).toNatClampNeg)) → ∀ y_17 : Int32, y_17 = (x5 + (1 : Int32)) → X62 x2 x3 y_16 y_17 m_days m_day m_need))) → X62 x2 x3 x4 x5 m_days m_day m_need) →
  P_X11_isKind (fun r_1 => ((r_1 = (0 : Int32) → post (-1 : Int32) m_days m_day m_need) ∧ (¬ r_1 = (0 : Int32) → P_X11_layDays (fun m_days_3 m_day_4 m_need_5 => X21 (0 : Int32) (0 : Int32) m_days_3 m_day_4 m_need_5) p1 (-9 : Int32) m_events m_eventDay m_eventHouse m_eventKind m_eventNeed m_isOff m_days m_day m_need))) p1 m_kinds
abbrev rm_X11_inNeed : Room := { frames := 2, cells := 0, slots := 0, locals := 46 }
theorem iw_X11_inNeed_X11 : ∀ w ∈ wsX110, w ∈ wsX11_inNeed := by decide +kernel
set_option maxHeartbeats 4000000 in
set_option maxRecDepth 100000 in
theorem c_X11_inNeed (l : Launch) (G : va_G) (K : ClassId × ClassId × ClassId) (tb q : Nat → Nat) (sz : Nat) (m_weighings : Int32) (m_spanLow : Int32) (m_spanHigh : Int32) (m_edges : Int32) (m_crew : Int32) (m_breakages : Int32) (post : Int32 → Int32 → (Nat → Int32) → (Nat → Int32) → Prop) (p1 : Int32) (m_kinds : Int32) (m_book : Nat → Int32) (m_events : Int32) (m_eventDay : Nat → Int32) (m_eventHouse : Nat → Int32) (m_eventKind : Nat → Int32) (m_eventNeed : Nat → Int32) (m_isOff : Nat → Int32) (m_days : Int32) (m_day : Nat → Int32) (m_need : Nat → Int32) (hw : P_X11_inNeed post p1 m_kinds m_book m_events m_eventDay m_eventHouse m_eventKind m_eventNeed m_isOff m_days m_day m_need) : Met l yX11_inNeed wsX11_inNeed rm_X11_inNeed (va_Pc [.ref (q 0), .int p1] (hPre G K tb [oX11 q m_kinds m_weighings m_spanLow m_spanHigh m_events m_days m_edges m_crew m_breakages, aI K (q 3) 30 m_book, aI K (q 11) 12 m_eventDay, aI K (q 12) 12 m_eventHouse, aI K (q 13) 12 m_eventKind, aI K (q 14) 12 m_eventNeed, aZ K (q 15) 12 m_isOff, aI K (q 16) 12 m_day, aI K (q 17) 60 m_need] sz)) (va_Qi (fun (r : Int32) (u : Int32 × (Nat → Int32) × (Nat → Int32)) => post r u.1 u.2.1 u.2.2) (fun u => hB G K (va_A [oX11 q m_kinds m_weighings m_spanLow m_spanHigh m_events m_days m_edges m_crew m_breakages, aI K (q 3) 30 m_book, aI K (q 11) 12 m_eventDay, aI K (q 12) 12 m_eventHouse, aI K (q 13) 12 m_eventKind, aI K (q 14) 12 m_eventNeed, aZ K (q 15) 12 m_isOff, aI K (q 16) 12 m_day, aI K (q 17) 60 m_need] sz) [oX11 q m_kinds m_weighings m_spanLow m_spanHigh m_events u.1 m_edges m_crew m_breakages, aI K (q 3) 30 m_book, aI K (q 11) 12 m_eventDay, aI K (q 12) 12 m_eventHouse, aI K (q 13) 12 m_eventKind, aI K (q 14) 12 m_eventNeed, aZ K (q 15) 12 m_isOff, aI K (q 16) 12 u.2.1, aI K (q 17) 60 u.2.2]) (va_A [oX11 q m_kinds m_weighings m_spanLow m_spanHigh m_events m_days m_edges m_crew m_breakages, aI K (q 3) 30 m_book, aI K (q 11) 12 m_eventDay, aI K (q 12) 12 m_eventHouse, aI K (q 13) 12 m_eventKind, aI K (q 14) 12 m_eventNeed, aZ K (q 15) 12 m_isOff, aI K (q 16) 12 m_day, aI K (q 17) 60 m_need] sz)) 0 0 (va_A [oX11 q m_kinds m_weighings m_spanLow m_spanHigh m_events m_days m_edges m_crew m_breakages, aI K (q 3) 30 m_book, aI K (q 11) 12 m_eventDay, aI K (q 12) 12 m_eventHouse, aI K (q 13) 12 m_eventKind, aI K (q 14) 12 m_eventNeed, aZ K (q 15) 12 m_isOff, aI K (q 16) 12 m_day, aI K (q 17) 60 m_need] sz) := by
  refine hMet (fun A => va_Qi (fun (r : Int32) (u : Int32 × (Nat → Int32) × (Nat → Int32)) => post r u.1 u.2.1 u.2.2) (fun u => hB G K A [oX11 q m_kinds m_weighings m_spanLow m_spanHigh m_events u.1 m_edges m_crew m_breakages, aI K (q 3) 30 m_book, aI K (q 11) 12 m_eventDay, aI K (q 12) 12 m_eventHouse, aI K (q 13) 12 m_eventKind, aI K (q 14) 12 m_eventNeed, aZ K (q 15) 12 m_isOff, aI K (q 16) 12 u.2.1, aI K (q 17) 60 u.2.2]) A) (by decide) rfl (Nat.le_of_ble_eq_true rfl) ?_
  intro p e s m av below meth c A Q ls hx hb hr hml hts hown hlocks hnm hA hP hK hD hS hE hQ hl
  have hts : ∀ w ∈ wsX11_inNeed, w.before av s = true := hts
  have hown : s.vm.findClass RX11 = some m.cls := hown
  have hl : lv_has ls 6 [(0, .ref (q 0)), (1, .int p1)] := hl
  unfold P_X11_inNeed at hw
  replace hw := hw (fun (x2 : Int32) (x3 : Int32) (m_days : Int32) (m_day : Nat → Int32) (m_need : Nat → Int32) => ∀ (H : Heap) (locs : List Loc) (ls : Array Slot), va_P G vwCl [oX11 q m_kinds m_weighings m_spanLow m_spanHigh m_events m_days m_edges m_crew m_breakages, aI K (q 3) 30 m_book, aI K (q 11) 12 m_eventDay, aI K (q 12) 12 m_eventHouse, aI K (q 13) 12 m_eventKind, aI K (q 14) 12 m_eventNeed, aZ K (q 15) 12 m_isOff, aI K (q 16) 12 m_day, aI K (q 17) 60 m_need] H → va_D A [oX11 q m_kinds m_weighings m_spanLow m_spanHigh m_events m_days m_edges m_crew m_breakages, aI K (q 3) 30 m_book, aI K (q 11) 12 m_eventDay, aI K (q 12) 12 m_eventHouse, aI K (q 13) 12 m_eventKind, aI K (q 14) 12 m_eventNeed, aZ K (q 15) 12 m_isOff, aI K (q 16) 12 m_day, aI K (q 17) 60 m_need] → va_S A s.heap H locs → lv_has ls 6 [(0, .ref (q 0)), (1, .int p1), (2, .int x2), (3, .int x3)] → W p l e rm_X11_inNeed s m av below meth c H locs 0 0 Q (F0 m 21 ls []))
  replace hw := hw (fun (x2 : Int32) (x3 : Int32) (m_days : Int32) (m_day : Nat → Int32) (m_need : Nat → Int32) => ∀ (H : Heap) (locs : List Loc) (ls : Array Slot), va_P G vwCl [oX11 q m_kinds m_weighings m_spanLow m_spanHigh m_events m_days m_edges m_crew m_breakages, aI K (q 3) 30 m_book, aI K (q 11) 12 m_eventDay, aI K (q 12) 12 m_eventHouse, aI K (q 13) 12 m_eventKind, aI K (q 14) 12 m_eventNeed, aZ K (q 15) 12 m_isOff, aI K (q 16) 12 m_day, aI K (q 17) 60 m_need] H → va_D A [oX11 q m_kinds m_weighings m_spanLow m_spanHigh m_events m_days m_edges m_crew m_breakages, aI K (q 3) 30 m_book, aI K (q 11) 12 m_eventDay, aI K (q 12) 12 m_eventHouse, aI K (q 13) 12 m_eventKind, aI K (q 14) 12 m_eventNeed, aZ K (q 15) 12 m_isOff, aI K (q 16) 12 m_day, aI K (q 17) 60 m_need] → va_S A s.heap H locs → lv_has ls 6 [(0, .ref (q 0)), (2, .int x2), (3, .int x3)] → W p l e rm_X11_inNeed s m av below meth c H locs 0 0 Q (F0 m 48 ls []))
  replace hw := hw (fun (x2 : Int32) (x3 : Int32) (x4 : Int32) (x5 : Int32) (m_days : Int32) (m_day : Nat → Int32) (m_need : Nat → Int32) => ∀ (H : Heap) (locs : List Loc) (ls : Array Slot), va_P G vwCl [oX11 q m_kinds m_weighings m_spanLow m_spanHigh m_events m_days m_edges m_crew m_breakages, aI K (q 3) 30 m_book, aI K (q 11) 12 m_eventDay, aI K (q 12) 12 m_eventHouse, aI K (q 13) 12 m_eventKind, aI K (q 14) 12 m_eventNeed, aZ K (q 15) 12 m_isOff, aI K (q 16) 12 m_day, aI K (q 17) 60 m_need] H → va_D A [oX11 q m_kinds m_weighings m_spanLow m_spanHigh m_events m_days m_edges m_crew m_breakages, aI K (q 3) 30 m_book, aI K (q 11) 12 m_eventDay, aI K (q 12) 12 m_eventHouse, aI K (q 13) 12 m_eventKind, aI K (q 14) 12 m_eventNeed, aZ K (q 15) 12 m_isOff, aI K (q 16) 12 m_day, aI K (q 17) 60 m_need] → va_S A s.heap H locs → lv_has ls 6 [(0, .ref (q 0)), (2, .int x2), (3, .int x3), (4, .int x4), (5, .int x5)] → W p l e rm_X11_inNeed s m av below meth c H locs 0 0 Q (F0 m 62 ls []))
  replace hw := hw (by
    intro x2 x3 m_days m_day m_need hw H locs ls hP hD hS hl
    refine lv_iload_n (pc := 21) hx hb dX11_inNeed_21 rfl (lv_at hl 3 rfl) ?_
    refine lv_iconst (pc := 22) (v := (5 : Int32)) hx hb dX11_inNeed_22 (by decide) ?_
    refine lv_icmp_ge (pc := 23) (tgt := 46) hx hb dX11_inNeed_23 (by decide) (fun c_6 => ?_) (fun c_6 => ?_)
    · replace hw := hw.1 c_6
      refine lv_iconst (pc := 46) (v := (0 : Int32)) hx hb dX11_inNeed_46 (by decide) ?_
      refine lv_istore_n (pc := 47) (lv' := [(3, .int (0 : Int32)), (0, .ref (q 0)), (1, .int p1), (2, .int x2)]) hx hb dX11_inNeed_47 rfl hl (by decide) rfl (fun ls hl => ?_)
      exact hw _ _ _ hP hD hS (lv_sub hl [1, 3, 0] rfl)
    · replace hw := hw.2 c_6
      refine lv_iload_n (pc := 26) hx hb dX11_inNeed_26 rfl (lv_at hl 2 rfl) ?_
      refine lv_aload_n (pc := 27) hx hb dX11_inNeed_27 rfl (lv_at hl 0 rfl) ?_
      refine va_get (pc := 28) (D := G) (ci := 11) (v := .ref (q 3)) (C := RX11) (T := TX11) (N := 45) hx hb hts iw_X11_inNeed_X11 hown hK hP 0 rfl rfl 3 (by decide) (hts _ (List.mem_of_getElem? (i := 1) rfl)) (fun _ h9 => h9) rfl dX11_inNeed_28 ?_
      refine lv_bipush (pc := 31) (v := (6 : Int32)) hx hb dX11_inNeed_31 (by decide) ?_
      refine lv_iload_n (pc := 33) hx hb dX11_inNeed_33 rfl (lv_at hl 3 rfl) ?_
      refine lv_imul (pc := 34) hx hb dX11_inNeed_34 ?_
      refine lv_iload_n (pc := 35) hx hb dX11_inNeed_35 rfl (lv_at hl 1 rfl) ?_
      refine lv_iadd (pc := 36) hx hb dX11_inNeed_36 ?_
      obtain ⟨h_7, hw⟩ := hw
      refine va_iald (pc := 37) hx hb hK hP 1 0 rfl rfl h_7 dX11_inNeed_37 ?_
      refine lv_iadd (pc := 38) hx hb dX11_inNeed_38 ?_
      refine lv_topi (fun y_8 ey_8 => ?_)
      replace hw := hw y_8 ey_8
      refine lv_istore_n (pc := 39) (lv' := [(2, .int y_8), (0, .ref (q 0)), (1, .int p1), (3, .int x3)]) hx hb dX11_inNeed_39 rfl hl (by decide) rfl (fun ls hl => ?_)
      obtain ⟨y_9, ey_9⟩ : ∃ z : Int32, z = (x3 + (1 : Int32)) := ⟨_, rfl⟩
      replace hw := hw y_9 ey_9
      refine lv_iinc (pc := 40) (v := y_9) (lv' := [(3, .int y_9), (2, .int y_8), (0, .ref (q 0)), (1, .int p1)]) hx hb dX11_inNeed_40 hl (k := 3) rfl (by rw [ey_9]; rfl) (by decide) rfl (fun ls hl => ?_)
      refine lv_goto (pc := 43) (tgt := 21) hx hb dX11_inNeed_43 (by decide) ?_
      exact hw _ _ _ hP hD hS (lv_sub hl [2, 3, 1, 0] rfl))
  replace hw := hw (by
    intro x2 x3 m_days m_day m_need hw H locs ls hP hD hS hl
    refine lv_iload_n (pc := 48) hx hb dX11_inNeed_48 rfl (lv_at hl 2 rfl) ?_
    refine lv_aload_n (pc := 49) hx hb dX11_inNeed_49 rfl (lv_at hl 0 rfl) ?_
    refine va_get (pc := 50) (D := G) (ci := 11) (v := .int m_days) (C := RX11) (T := TX11) (N := 45) hx hb hts iw_X11_inNeed_X11 hown hK hP 0 rfl rfl 20 (by decide) (hts _ (List.mem_of_getElem? (i := 2) rfl)) (fun _ h9 => h9) rfl dX11_inNeed_50 ?_
    refine lv_icmp_ge (pc := 53) (tgt := 109) hx hb dX11_inNeed_53 (by decide) (fun c_10 => ?_) (fun c_10 => ?_)
    · replace hw := hw.1 c_10
      refine lv_bipush (pc := 109) (v := (-9 : Int32)) hx hb dX11_inNeed_109 (by decide) ?_
      exact hRetI (S := Int32 × (Nat → Int32) × (Nat → Int32)) (m_days, m_day, m_need) hx hb hr hlocks hQ hw hP hK hD hS dX11_inNeed_111
    · replace hw := hw.2 c_10
      refine lv_iconst (pc := 56) (v := (0 : Int32)) hx hb dX11_inNeed_56 (by decide) ?_
      refine lv_istore (pc := 57) (lv' := [(4, .int (0 : Int32)), (0, .ref (q 0)), (2, .int x2), (3, .int x3)]) hx hb dX11_inNeed_57 hl (by decide) rfl (fun ls hl => ?_)
      refine lv_iconst (pc := 59) (v := (0 : Int32)) hx hb dX11_inNeed_59 (by decide) ?_
      refine lv_istore (pc := 60) (lv' := [(5, .int (0 : Int32)), (4, .int (0 : Int32)), (0, .ref (q 0)), (2, .int x2), (3, .int x3)]) hx hb dX11_inNeed_60 hl (by decide) rfl (fun ls hl => ?_)
      exact hw _ _ _ hP hD hS (lv_sub hl [2, 3, 4, 1, 0] rfl))
  replace hw := hw (by
    intro x2 x3 x4 x5 m_days m_day m_need hw H locs ls hP hD hS hl
    refine lv_iload (pc := 62) hx hb dX11_inNeed_62 (lv_at hl 4 rfl) ?_
    refine lv_iconst (pc := 64) (v := (5 : Int32)) hx hb dX11_inNeed_64 (by decide) ?_
    refine lv_icmp_ge (pc := 65) (tgt := 90) hx hb dX11_inNeed_65 (by decide) (fun c_11 => ?_) (fun c_11 => ?_)
    · replace hw := hw.1 c_11
      refine lv_iload (pc := 90) hx hb dX11_inNeed_90 (lv_at hl 3 rfl) ?_
      refine lv_iload_n (pc := 92) hx hb dX11_inNeed_92 rfl (lv_at hl 1 rfl) ?_
      refine lv_icmp_le (pc := 93) (tgt := 103) hx hb dX11_inNeed_93 (by decide) (fun c_12 => ?_) (fun c_12 => ?_)
      · replace hw := hw.1 c_12
        obtain ⟨y_13, ey_13⟩ : ∃ z : Int32, z = (x3 + (1 : Int32)) := ⟨_, rfl⟩
        replace hw := hw y_13 ey_13
        refine lv_iinc (pc := 103) (v := y_13) (lv' := [(3, .int y_13), (0, .ref (q 0)), (2, .int x2), (4, .int x4), (5, .int x5)]) hx hb dX11_inNeed_103 hl (k := 2) rfl (by rw [ey_13]; rfl) (by decide) rfl (fun ls hl => ?_)
        refine lv_goto (pc := 106) (tgt := 48) hx hb dX11_inNeed_106 (by decide) ?_
        exact hw _ _ _ hP hD hS (lv_sub hl [1, 2, 0] rfl)
      · replace hw := hw.2 c_12
        refine lv_aload_n (pc := 96) hx hb dX11_inNeed_96 rfl (lv_at hl 0 rfl) ?_
        refine va_get (pc := 97) (D := G) (ci := 11) (v := .ref (q 16)) (C := RX11) (T := TX11) (N := 45) hx hb hts iw_X11_inNeed_X11 hown hK hP 0 rfl rfl 21 (by decide) (hts _ (List.mem_of_getElem? (i := 4) rfl)) (fun _ h9 => h9) rfl dX11_inNeed_97 ?_
        refine lv_iload_n (pc := 100) hx hb dX11_inNeed_100 rfl (lv_at hl 2 rfl) ?_
        obtain ⟨h_14, hw⟩ := hw
        refine va_iald (pc := 101) hx hb hK hP 7 0 rfl rfl h_14 dX11_inNeed_101 ?_
        exact hRetI (S := Int32 × (Nat → Int32) × (Nat → Int32)) (m_days, m_day, m_need) hx hb hr hlocks hQ hw hP hK hD hS dX11_inNeed_102
    · replace hw := hw.2 c_11
      refine lv_iload (pc := 68) hx hb dX11_inNeed_68 (lv_at hl 3 rfl) ?_
      refine lv_aload_n (pc := 70) hx hb dX11_inNeed_70 rfl (lv_at hl 0 rfl) ?_
      refine va_get (pc := 71) (D := G) (ci := 11) (v := .ref (q 17)) (C := RX11) (T := TX11) (N := 45) hx hb hts iw_X11_inNeed_X11 hown hK hP 0 rfl rfl 22 (by decide) (hts _ (List.mem_of_getElem? (i := 3) rfl)) (fun _ h9 => h9) rfl dX11_inNeed_71 ?_
      refine lv_iconst (pc := 74) (v := (5 : Int32)) hx hb dX11_inNeed_74 (by decide) ?_
      refine lv_iload_n (pc := 75) hx hb dX11_inNeed_75 rfl (lv_at hl 2 rfl) ?_
      refine lv_imul (pc := 76) hx hb dX11_inNeed_76 ?_
      refine lv_iload (pc := 77) hx hb dX11_inNeed_77 (lv_at hl 4 rfl) ?_
      refine lv_iadd (pc := 79) hx hb dX11_inNeed_79 ?_
      obtain ⟨h_15, hw⟩ := hw
      refine va_iald (pc := 80) hx hb hK hP 8 0 rfl rfl h_15 dX11_inNeed_80 ?_
      refine lv_iadd (pc := 81) hx hb dX11_inNeed_81 ?_
      refine lv_topi (fun y_16 ey_16 => ?_)
      replace hw := hw y_16 ey_16
      refine lv_istore (pc := 82) (lv' := [(4, .int y_16), (0, .ref (q 0)), (2, .int x2), (3, .int x3), (5, .int x5)]) hx hb dX11_inNeed_82 hl (by decide) rfl (fun ls hl => ?_)
      obtain ⟨y_17, ey_17⟩ : ∃ z : Int32, z = (x5 + (1 : Int32)) := ⟨_, rfl⟩
      replace hw := hw y_17 ey_17
      refine lv_iinc (pc := 84) (v := y_17) (lv' := [(5, .int y_17), (4, .int y_16), (0, .ref (q 0)), (2, .int x2), (3, .int x3)]) hx hb dX11_inNeed_84 hl (k := 4) rfl (by rw [ey_17]; rfl) (by decide) rfl (fun ls hl => ?_)
      refine lv_goto (pc := 87) (tgt := 62) hx hb dX11_inNeed_87 (by decide) ?_
      exact hw _ _ _ hP hD hS (lv_sub hl [2, 3, 4, 1, 0] rfl))
  refine lv_aload_n (pc := 0) hx hb dX11_inNeed_0 rfl (lv_at hl 0 rfl) ?_
  refine lv_iload_n (pc := 1) hx hb dX11_inNeed_1 rfl (lv_at hl 1 rfl) ?_
  refine hCallI (pc := 2) (wr := [aI K (q 3) 30 m_book, aI K (q 11) 12 m_eventDay, aI K (q 12) 12 m_eventHouse, aI K (q 13) 12 m_eventKind, aI K (q 14) 12 m_eventNeed, aZ K (q 15) 12 m_isOff, aI K (q 16) 12 m_day, aI K (q 17) 60 m_need]) (wsf := fun (u : Unit) => [oX11 q m_kinds m_weighings m_spanLow m_spanHigh m_events m_days m_edges m_crew m_breakages]) [0] [1, 2, 3, 4, 5, 6, 7, 8] (va_runV (As := [.int p1]) (rest := []) ⟨hx, hb, hml, hown, hts⟩ (c_X11_isKind l G K tb q s.heap.size m_weighings m_spanLow m_spanHigh m_events m_days m_edges m_crew m_breakages _ p1 m_kinds hw) (cwV 1 hts gX11_inNeed_X11_isKind rfl rfl rfl (by decide +kernel) ⟨Nat.le_of_ble_eq_true rfl, Nat.le_of_ble_eq_true rfl⟩) (hPreV hE hP hK hD hS hA [0] (by decide) rfl rfl rfl rfl (q0 := 0) (ci := 11) rfl) rfl rfl hl.1 rfl (lv_room (Nat.le_of_ble_eq_true rfl)) dX11_inNeed_2 ⟨Nat.zero_le _, Nat.zero_le _⟩) hP hD hS hA rfl rfl (by decide) (by decide) (fun r_1 u H locs hw hP hD hS => ?_)
  have hP : va_P G vwCl [oX11 q m_kinds m_weighings m_spanLow m_spanHigh m_events m_days m_edges m_crew m_breakages, aI K (q 3) 30 m_book, aI K (q 11) 12 m_eventDay, aI K (q 12) 12 m_eventHouse, aI K (q 13) 12 m_eventKind, aI K (q 14) 12 m_eventNeed, aZ K (q 15) 12 m_isOff, aI K (q 16) 12 m_day, aI K (q 17) 60 m_need] H := hP.sub [8, 0, 1, 2, 3, 4, 5, 6, 7] rfl
  have hD : va_D A [oX11 q m_kinds m_weighings m_spanLow m_spanHigh m_events m_days m_edges m_crew m_breakages, aI K (q 3) 30 m_book, aI K (q 11) 12 m_eventDay, aI K (q 12) 12 m_eventHouse, aI K (q 13) 12 m_eventKind, aI K (q 14) 12 m_eventNeed, aZ K (q 15) 12 m_isOff, aI K (q 16) 12 m_day, aI K (q 17) 60 m_need] := hD.sub [8, 0, 1, 2, 3, 4, 5, 6, 7] (by decide) rfl
  refine lv_if_ne (pc := 5) (tgt := 10) hx hb dX11_inNeed_5 (by decide) (fun c_2 => ?_) (fun c_2 => ?_)
  · replace hw := hw.2 c_2
    refine lv_aload_n (pc := 10) hx hb dX11_inNeed_10 rfl (lv_at hl 0 rfl) ?_
    refine lv_iload_n (pc := 11) hx hb dX11_inNeed_11 rfl (lv_at hl 1 rfl) ?_
    refine lv_bipush (pc := 12) (v := (-9 : Int32)) hx hb dX11_inNeed_12 (by decide) ?_
    refine hCallV (pc := 14) (wr := [aI K (q 3) 30 m_book]) (wsf := fun (u : Int32 × (Nat → Int32) × (Nat → Int32)) => [oX11 q m_kinds m_weighings m_spanLow m_spanHigh m_events u.1 m_edges m_crew m_breakages, aI K (q 11) 12 m_eventDay, aI K (q 12) 12 m_eventHouse, aI K (q 13) 12 m_eventKind, aI K (q 14) 12 m_eventNeed, aZ K (q 15) 12 m_isOff, aI K (q 16) 12 u.2.1, aI K (q 17) 60 u.2.2]) [0, 2, 3, 4, 5, 6, 7, 8] [1] (va_runV (As := [.int p1, .int (-9 : Int32)]) (rest := []) ⟨hx, hb, hml, hown, hts⟩ (c_X11_layDays l G K tb q H.size m_kinds m_weighings m_spanLow m_spanHigh m_edges m_crew m_breakages _ p1 (-9 : Int32) m_events m_eventDay m_eventHouse m_eventKind m_eventNeed m_isOff m_days m_day m_need hw) (cwV 2 hts gX11_inNeed_X11_layDays rfl rfl rfl (by decide +kernel) ⟨Nat.le_of_ble_eq_true rfl, Nat.le_of_ble_eq_true rfl⟩) (hPreV hE hP hK hD hS hA [0, 2, 3, 4, 5, 6, 7, 8] (by decide) rfl rfl rfl rfl (q0 := 0) (ci := 11) rfl) rfl rfl hl.1 rfl (lv_room (Nat.le_of_ble_eq_true rfl)) dX11_inNeed_14 ⟨Nat.zero_le _, Nat.zero_le _⟩) hP hD hS hA rfl rfl (by decide) (by decide) (fun u H locs hw hP hD hS => ?_)
    obtain ⟨m_days_3, m_day_4, m_need_5⟩ := u
    have hP : va_P G vwCl [oX11 q m_kinds m_weighings m_spanLow m_spanHigh m_events m_days_3 m_edges m_crew m_breakages, aI K (q 3) 30 m_book, aI K (q 11) 12 m_eventDay, aI K (q 12) 12 m_eventHouse, aI K (q 13) 12 m_eventKind, aI K (q 14) 12 m_eventNeed, aZ K (q 15) 12 m_isOff, aI K (q 16) 12 m_day_4, aI K (q 17) 60 m_need_5] H := hP.sub [1, 0, 2, 3, 4, 5, 6, 7, 8] rfl
    have hD : va_D A [oX11 q m_kinds m_weighings m_spanLow m_spanHigh m_events m_days_3 m_edges m_crew m_breakages, aI K (q 3) 30 m_book, aI K (q 11) 12 m_eventDay, aI K (q 12) 12 m_eventHouse, aI K (q 13) 12 m_eventKind, aI K (q 14) 12 m_eventNeed, aZ K (q 15) 12 m_isOff, aI K (q 16) 12 m_day_4, aI K (q 17) 60 m_need_5] := hD.sub [1, 0, 2, 3, 4, 5, 6, 7, 8] (by decide) rfl
    refine lv_iconst (pc := 17) (v := (0 : Int32)) hx hb dX11_inNeed_17 (by decide) ?_
    refine lv_istore_n (pc := 18) (lv' := [(2, .int (0 : Int32)), (0, .ref (q 0)), (1, .int p1)]) hx hb dX11_inNeed_18 rfl hl (by decide) rfl (fun ls hl => ?_)
    refine lv_iconst (pc := 19) (v := (0 : Int32)) hx hb dX11_inNeed_19 (by decide) ?_
    refine lv_istore_n (pc := 20) (lv' := [(3, .int (0 : Int32)), (2, .int (0 : Int32)), (0, .ref (q 0)), (1, .int p1)]) hx hb dX11_inNeed_20 rfl hl (by decide) rfl (fun ls hl => ?_)
    exact hw _ _ _ hP hD hS (lv_sub hl [2, 3, 1, 0] rfl)
  · replace hw := hw.1 c_2
    refine lv_iconst (pc := 8) (v := (-1 : Int32)) hx hb dX11_inNeed_8 (by decide) ?_
    exact hRetI (S := Int32 × (Nat → Int32) × (Nat → Int32)) (m_days, m_day, m_need) hx hb hr hlocks hQ hw hP hK hD hS dX11_inNeed_9
def P_X11_costs (post : Int32 → Int32 → (Nat → Int32) → (Nat → Int32) → Int32 → (Nat → Int32) → (Nat → Int32) → (Nat → Int32) → (Nat → Int64) → (Nat → Int64) → (Nat → Int32) → Prop) (p1 : Int32) (m_book : Nat → Int32) (m_farness : Nat → Int32) (m_events : Int32) (m_eventDay : Nat → Int32) (m_eventHouse : Nat → Int32) (m_eventKind : Nat → Int32) (m_eventNeed : Nat → Int32) (m_isOff : Nat → Int32) (m_days : Int32) (m_day : Nat → Int32) (m_need : Nat → Int32) (m_edges : Int32) (m_edgeFrom : Nat → Int32) (m_edgeTo : Nat → Int32) (m_room : Nat → Int32) (m_price : Nat → Int64) (m_far : Nat → Int64) (m_came : Nat → Int32) : Prop :=
  P_X11_in (fun r_1 => ((r_1 = (0 : Int32) → post (-1 : Int32) m_days m_day m_need m_edges m_edgeFrom m_edgeTo m_room m_price m_far m_came) ∧ (¬ r_1 = (0 : Int32) → vp_in p1 12 ∧ (((m_isOff p1.toNatClampNeg) = (0 : Int32) → P_X11_carriedOf (fun r_5 m_days_6 m_day_7 m_need_8 m_edges_9 m_edgeFrom_10 m_edgeTo_11 m_room_12 m_price_13 m_far_14 m_came_15 => ((r_5 = (-9 : Int32) → post (-9 : Int32) m_days_6 m_day_7 m_need_8 m_edges_9 m_edgeFrom_10 m_edgeTo_11 m_room_12 m_price_13 m_far_14 m_came_15) ∧ (¬ r_5 = (-9 : Int32) → P_X11_carriedOf (fun r_17 m_days_18 m_day_19 m_need_20 m_edges_21 m_edgeFrom_22 m_edgeTo_23 m_room_24 m_price_25 m_far_26 m_came_27 => post (r_5 - r_17) m_days_18 m_day_19 m_need_20 m_edges_21 m_edgeFrom_22 m_edgeTo_23 m_room_24 m_price_25 m_far_26 m_came_27) (m_eventKind p1.toNatClampNeg) p1 m_book m_farness m_events m_eventDay m_eventHouse m_eventKind m_eventNeed m_isOff m_days_6 m_day_7 m_need_8 m_edges_9 m_edgeFrom_10 m_edgeTo_11 m_room_12 m_price_13 m_far_14 m_came_15))) (m_eventKind p1.toNatClampNeg) (-9 : Int32) m_book m_farness m_events m_eventDay m_eventHouse m_eventKind m_eventNeed m_isOff m_days m_day m_need m_edges m_edgeFrom m_edgeTo m_room m_price m_far m_came) ∧ (¬ (m_isOff p1.toNatClampNeg) = (0 : Int32) → post (-3 : Int32) m_days m_day m_need m_edges m_edgeFrom m_edgeTo m_room m_price m_far m_came))))) p1.toInt64 (0 : Int64) (m_events - (1 : Int32)).toInt64
abbrev rm_X11_costs : Room := { frames := 3, cells := 0, slots := 0, locals := 76 }
theorem iw_X11_costs_X11 : ∀ w ∈ wsX110, w ∈ wsX11_costs := by decide +kernel
set_option maxHeartbeats 4000000 in
set_option maxRecDepth 100000 in
theorem c_X11_costs (l : Launch) (G : va_G) (K : ClassId × ClassId × ClassId) (tb q : Nat → Nat) (sz : Nat) (m_kinds : Int32) (m_weighings : Int32) (m_spanLow : Int32) (m_spanHigh : Int32) (m_crew : Int32) (m_breakages : Int32) (post : Int32 → Int32 → (Nat → Int32) → (Nat → Int32) → Int32 → (Nat → Int32) → (Nat → Int32) → (Nat → Int32) → (Nat → Int64) → (Nat → Int64) → (Nat → Int32) → Prop) (p1 : Int32) (m_book : Nat → Int32) (m_farness : Nat → Int32) (m_events : Int32) (m_eventDay : Nat → Int32) (m_eventHouse : Nat → Int32) (m_eventKind : Nat → Int32) (m_eventNeed : Nat → Int32) (m_isOff : Nat → Int32) (m_days : Int32) (m_day : Nat → Int32) (m_need : Nat → Int32) (m_edges : Int32) (m_edgeFrom : Nat → Int32) (m_edgeTo : Nat → Int32) (m_room : Nat → Int32) (m_price : Nat → Int64) (m_far : Nat → Int64) (m_came : Nat → Int32) (hw : P_X11_costs post p1 m_book m_farness m_events m_eventDay m_eventHouse m_eventKind m_eventNeed m_isOff m_days m_day m_need m_edges m_edgeFrom m_edgeTo m_room m_price m_far m_came) : Met l yX11_costs wsX11_costs rm_X11_costs (va_Pc [.ref (q 0), .int p1] (hPre G K tb [oX11 q m_kinds m_weighings m_spanLow m_spanHigh m_events m_days m_edges m_crew m_breakages, aI K (q 3) 30 m_book, aI K (q 10) 25 m_farness, aI K (q 11) 12 m_eventDay, aI K (q 12) 12 m_eventHouse, aI K (q 13) 12 m_eventKind, aI K (q 14) 12 m_eventNeed, aZ K (q 15) 12 m_isOff, aI K (q 16) 12 m_day, aI K (q 17) 60 m_need, aI K (q 18) 1000 m_edgeFrom, aI K (q 19) 1000 m_edgeTo, aI K (q 20) 1000 m_room, aJ K (q 21) 1000 m_price, aJ K (q 22) 130 m_far, aI K (q 23) 130 m_came] sz)) (va_Qi (fun (r : Int32) (u : Int32 × (Nat → Int32) × (Nat → Int32) × Int32 × (Nat → Int32) × (Nat → Int32) × (Nat → Int32) × (Nat → Int64) × (Nat → Int64) × (Nat → Int32)) => post r u.1 u.2.1 u.2.2.1 u.2.2.2.1 u.2.2.2.2.1 u.2.2.2.2.2.1 u.2.2.2.2.2.2.1 u.2.2.2.2.2.2.2.1 u.2.2.2.2.2.2.2.2.1 u.2.2.2.2.2.2.2.2.2) (fun u => hB G K (va_A [oX11 q m_kinds m_weighings m_spanLow m_spanHigh m_events m_days m_edges m_crew m_breakages, aI K (q 3) 30 m_book, aI K (q 10) 25 m_farness, aI K (q 11) 12 m_eventDay, aI K (q 12) 12 m_eventHouse, aI K (q 13) 12 m_eventKind, aI K (q 14) 12 m_eventNeed, aZ K (q 15) 12 m_isOff, aI K (q 16) 12 m_day, aI K (q 17) 60 m_need, aI K (q 18) 1000 m_edgeFrom, aI K (q 19) 1000 m_edgeTo, aI K (q 20) 1000 m_room, aJ K (q 21) 1000 m_price, aJ K (q 22) 130 m_far, aI K (q 23) 130 m_came] sz) [oX11 q m_kinds m_weighings m_spanLow m_spanHigh m_events u.1 u.2.2.2.1 m_crew m_breakages, aI K (q 3) 30 m_book, aI K (q 10) 25 m_farness, aI K (q 11) 12 m_eventDay, aI K (q 12) 12 m_eventHouse, aI K (q 13) 12 m_eventKind, aI K (q 14) 12 m_eventNeed, aZ K (q 15) 12 m_isOff, aI K (q 16) 12 u.2.1, aI K (q 17) 60 u.2.2.1, aI K (q 18) 1000 u.2.2.2.2.1, aI K (q 19) 1000 u.2.2.2.2.2.1, aI K (q 20) 1000 u.2.2.2.2.2.2.1, aJ K (q 21) 1000 u.2.2.2.2.2.2.2.1, aJ K (q 22) 130 u.2.2.2.2.2.2.2.2.1, aI K (q 23) 130 u.2.2.2.2.2.2.2.2.2]) (va_A [oX11 q m_kinds m_weighings m_spanLow m_spanHigh m_events m_days m_edges m_crew m_breakages, aI K (q 3) 30 m_book, aI K (q 10) 25 m_farness, aI K (q 11) 12 m_eventDay, aI K (q 12) 12 m_eventHouse, aI K (q 13) 12 m_eventKind, aI K (q 14) 12 m_eventNeed, aZ K (q 15) 12 m_isOff, aI K (q 16) 12 m_day, aI K (q 17) 60 m_need, aI K (q 18) 1000 m_edgeFrom, aI K (q 19) 1000 m_edgeTo, aI K (q 20) 1000 m_room, aJ K (q 21) 1000 m_price, aJ K (q 22) 130 m_far, aI K (q 23) 130 m_came] sz)) 0 0 (va_A [oX11 q m_kinds m_weighings m_spanLow m_spanHigh m_events m_days m_edges m_crew m_breakages, aI K (q 3) 30 m_book, aI K (q 10) 25 m_farness, aI K (q 11) 12 m_eventDay, aI K (q 12) 12 m_eventHouse, aI K (q 13) 12 m_eventKind, aI K (q 14) 12 m_eventNeed, aZ K (q 15) 12 m_isOff, aI K (q 16) 12 m_day, aI K (q 17) 60 m_need, aI K (q 18) 1000 m_edgeFrom, aI K (q 19) 1000 m_edgeTo, aI K (q 20) 1000 m_room, aJ K (q 21) 1000 m_price, aJ K (q 22) 130 m_far, aI K (q 23) 130 m_came] sz) := by
  refine hMet (fun A => va_Qi (fun (r : Int32) (u : Int32 × (Nat → Int32) × (Nat → Int32) × Int32 × (Nat → Int32) × (Nat → Int32) × (Nat → Int32) × (Nat → Int64) × (Nat → Int64) × (Nat → Int32)) => post r u.1 u.2.1 u.2.2.1 u.2.2.2.1 u.2.2.2.2.1 u.2.2.2.2.2.1 u.2.2.2.2.2.2.1 u.2.2.2.2.2.2.2.1 u.2.2.2.2.2.2.2.2.1 u.2.2.2.2.2.2.2.2.2) (fun u => hB G K A [oX11 q m_kinds m_weighings m_spanLow m_spanHigh m_events u.1 u.2.2.2.1 m_crew m_breakages, aI K (q 3) 30 m_book, aI K (q 10) 25 m_farness, aI K (q 11) 12 m_eventDay, aI K (q 12) 12 m_eventHouse, aI K (q 13) 12 m_eventKind, aI K (q 14) 12 m_eventNeed, aZ K (q 15) 12 m_isOff, aI K (q 16) 12 u.2.1, aI K (q 17) 60 u.2.2.1, aI K (q 18) 1000 u.2.2.2.2.1, aI K (q 19) 1000 u.2.2.2.2.2.1, aI K (q 20) 1000 u.2.2.2.2.2.2.1, aJ K (q 21) 1000 u.2.2.2.2.2.2.2.1, aJ K (q 22) 130 u.2.2.2.2.2.2.2.2.1, aI K (q 23) 130 u.2.2.2.2.2.2.2.2.2]) A) (by decide) rfl (Nat.le_of_ble_eq_true rfl) ?_
  intro p e s m av below meth c A Q ls hx hb hr hml hts hown hlocks hnm hA hP hK hD hS hE hQ hl
  have hts : ∀ w ∈ wsX11_costs, w.before av s = true := hts
  have hown : s.vm.findClass RX11 = some m.cls := hown
  have hl : lv_has ls 3 [(0, .ref (q 0)), (1, .int p1)] := hl
  unfold P_X11_costs at hw
  refine lv_iload_n (pc := 0) hx hb dX11_costs_0 rfl (lv_at hl 1 rfl) ?_
  refine lv_i2l (pc := 1) hx hb dX11_costs_1 rfl ?_
  refine lv_lconst (pc := 2) (v := (0 : Int64)) hx hb dX11_costs_2 (by decide) ?_
  refine lv_aload_n (pc := 3) hx hb dX11_costs_3 rfl (lv_at hl 0 rfl) ?_
  refine va_get (pc := 4) (D := G) (ci := 11) (v := .int m_events) (C := RX11) (T := TX11) (N := 45) hx hb hts iw_X11_costs_X11 hown hK hP 0 rfl rfl 14 (by decide) (hts _ (List.mem_of_getElem? (i := 1) rfl)) (fun _ h9 => h9) rfl dX11_costs_4 ?_
  refine lv_iconst (pc := 7) (v := (1 : Int32)) hx hb dX11_costs_7 (by decide) ?_
  refine lv_isub (pc := 8) hx hb dX11_costs_8 ?_
  refine lv_i2l (pc := 9) hx hb dX11_costs_9 rfl ?_
  refine hCallI (pc := 10) (wr := [oX11 q m_kinds m_weighings m_spanLow m_spanHigh m_events m_days m_edges m_crew m_breakages, aI K (q 3) 30 m_book, aI K (q 10) 25 m_farness, aI K (q 11) 12 m_eventDay, aI K (q 12) 12 m_eventHouse, aI K (q 13) 12 m_eventKind, aI K (q 14) 12 m_eventNeed, aZ K (q 15) 12 m_isOff, aI K (q 16) 12 m_day, aI K (q 17) 60 m_need, aI K (q 18) 1000 m_edgeFrom, aI K (q 19) 1000 m_edgeTo, aI K (q 20) 1000 m_room, aJ K (q 21) 1000 m_price, aJ K (q 22) 130 m_far, aI K (q 23) 130 m_came]) (wsf := fun (u : Unit) => []) [] [0, 1, 2, 3, 4, 5, 6, 7, 8, 9, 10, 11, 12, 13, 14, 15] (va_runS (As := [.long p1.toInt64, .long (0 : Int64), .long (m_events - (1 : Int32)).toInt64]) (rest := []) ⟨hx, hb, hml, hown, hts⟩ (c_X11_in l G K tb q s.heap.size _ p1.toInt64 (0 : Int64) (m_events - (1 : Int32)).toInt64 hw) (va_cwS 3 hts gX11_costs_X11_in rfl rfl rfl (by decide +kernel) ⟨Nat.le_of_ble_eq_true rfl, Nat.le_of_ble_eq_true rfl⟩) (hPreS hE hP hK hD hS hA [] (by decide) rfl rfl) rfl rfl hl.1 rfl (lv_room (Nat.le_of_ble_eq_true rfl)) dX11_costs_10 ⟨Nat.zero_le _, Nat.zero_le _⟩) hP hD hS hA rfl rfl (by decide) (by decide) (fun r_1 u H locs hw hP hD hS => ?_)
  have hP : va_P G vwCl [oX11 q m_kinds m_weighings m_spanLow m_spanHigh m_events m_days m_edges m_crew m_breakages, aI K (q 3) 30 m_book, aI K (q 10) 25 m_farness, aI K (q 11) 12 m_eventDay, aI K (q 12) 12 m_eventHouse, aI K (q 13) 12 m_eventKind, aI K (q 14) 12 m_eventNeed, aZ K (q 15) 12 m_isOff, aI K (q 16) 12 m_day, aI K (q 17) 60 m_need, aI K (q 18) 1000 m_edgeFrom, aI K (q 19) 1000 m_edgeTo, aI K (q 20) 1000 m_room, aJ K (q 21) 1000 m_price, aJ K (q 22) 130 m_far, aI K (q 23) 130 m_came] H := hP.sub [0, 1, 2, 3, 4, 5, 6, 7, 8, 9, 10, 11, 12, 13, 14, 15] rfl
  have hD : va_D A [oX11 q m_kinds m_weighings m_spanLow m_spanHigh m_events m_days m_edges m_crew m_breakages, aI K (q 3) 30 m_book, aI K (q 10) 25 m_farness, aI K (q 11) 12 m_eventDay, aI K (q 12) 12 m_eventHouse, aI K (q 13) 12 m_eventKind, aI K (q 14) 12 m_eventNeed, aZ K (q 15) 12 m_isOff, aI K (q 16) 12 m_day, aI K (q 17) 60 m_need, aI K (q 18) 1000 m_edgeFrom, aI K (q 19) 1000 m_edgeTo, aI K (q 20) 1000 m_room, aJ K (q 21) 1000 m_price, aJ K (q 22) 130 m_far, aI K (q 23) 130 m_came] := hD.sub [0, 1, 2, 3, 4, 5, 6, 7, 8, 9, 10, 11, 12, 13, 14, 15] (by decide) rfl
  refine lv_if_ne (pc := 13) (tgt := 18) hx hb dX11_costs_13 (by decide) (fun c_2 => ?_) (fun c_2 => ?_)
  · replace hw := hw.2 c_2
    refine lv_aload_n (pc := 18) hx hb dX11_costs_18 rfl (lv_at hl 0 rfl) ?_
    refine va_get (pc := 19) (D := G) (ci := 11) (v := .ref (q 15)) (C := RX11) (T := TX11) (N := 45) hx hb hts iw_X11_costs_X11 hown hK hP 0 rfl rfl 19 (by decide) (hts _ (List.mem_of_getElem? (i := 2) rfl)) (fun _ h9 => h9) rfl dX11_costs_19 ?_
    refine lv_iload_n (pc := 22) hx hb dX11_costs_22 rfl (lv_at hl 1 rfl) ?_
    obtain ⟨h_3, hw⟩ := hw
    refine va_zald (pc := 23) hx hb hK hP 7 2 rfl rfl h_3 dX11_costs_23 ?_
    refine lv_if_eq (pc := 24) (tgt := 30) hx hb dX11_costs_24 (by decide) (fun c_4 => ?_) (fun c_4 => ?_)
    · replace hw := hw.1 c_4
      refine lv_aload_n (pc := 30) hx hb dX11_costs_30 rfl (lv_at hl 0 rfl) ?_
      refine lv_aload_n (pc := 31) hx hb dX11_costs_31 rfl (lv_at hl 0 rfl) ?_
      refine va_get (pc := 32) (D := G) (ci := 11) (v := .ref (q 13)) (C := RX11) (T := TX11) (N := 45) hx hb hts iw_X11_costs_X11 hown hK hP 0 rfl rfl 17 (by decide) (hts _ (List.mem_of_getElem? (i := 3) rfl)) (fun _ h9 => h9) rfl dX11_costs_32 ?_
      refine lv_iload_n (pc := 35) hx hb dX11_costs_35 rfl (lv_at hl 1 rfl) ?_
      refine va_iald (pc := 36) hx hb hK hP 5 0 rfl rfl h_3 dX11_costs_36 ?_
      refine lv_bipush (pc := 37) (v := (-9 : Int32)) hx hb dX11_costs_37 (by decide) ?_
      refine hCallI (pc := 39) (wr := []) (wsf := fun (u : Int32 × (Nat → Int32) × (Nat → Int32) × Int32 × (Nat → Int32) × (Nat → Int32) × (Nat → Int32) × (Nat → Int64) × (Nat → Int64) × (Nat → Int32)) => [oX11 q m_kinds m_weighings m_spanLow m_spanHigh m_events u.1 u.2.2.2.1 m_crew m_breakages, aI K (q 3) 30 m_book, aI K (q 10) 25 m_farness, aI K (q 11) 12 m_eventDay, aI K (q 12) 12 m_eventHouse, aI K (q 13) 12 m_eventKind, aI K (q 14) 12 m_eventNeed, aZ K (q 15) 12 m_isOff, aI K (q 16) 12 u.2.1, aI K (q 17) 60 u.2.2.1, aI K (q 18) 1000 u.2.2.2.2.1, aI K (q 19) 1000 u.2.2.2.2.2.1, aI K (q 20) 1000 u.2.2.2.2.2.2.1, aJ K (q 21) 1000 u.2.2.2.2.2.2.2.1, aJ K (q 22) 130 u.2.2.2.2.2.2.2.2.1, aI K (q 23) 130 u.2.2.2.2.2.2.2.2.2]) [0, 1, 2, 3, 4, 5, 6, 7, 8, 9, 10, 11, 12, 13, 14, 15] [] (va_runV (As := [.int (m_eventKind p1.toNatClampNeg), .int (-9 : Int32)]) (rest := []) ⟨hx, hb, hml, hown, hts⟩ (c_X11_carriedOf l G K tb q H.size m_kinds m_weighings m_spanLow m_spanHigh m_crew m_breakages _ (m_eventKind p1.toNatClampNeg) (-9 : Int32) m_book m_farness m_events m_eventDay m_eventHouse m_eventKind m_eventNeed m_isOff m_days m_day m_need m_edges m_edgeFrom m_edgeTo m_room m_price m_far m_came hw) (cwV 2 hts gX11_costs_X11_carriedOf rfl rfl rfl (by decide +kernel) ⟨Nat.le_of_ble_eq_true rfl, Nat.le_of_ble_eq_true rfl⟩) (hPreV hE hP hK hD hS hA [0, 1, 2, 3, 4, 5, 6, 7, 8, 9, 10, 11, 12, 13, 14, 15] (by decide) rfl rfl rfl rfl (q0 := 0) (ci := 11) rfl) rfl rfl hl.1 rfl (lv_room (Nat.le_of_ble_eq_true rfl)) dX11_costs_39 ⟨Nat.zero_le _, Nat.zero_le _⟩) hP hD hS hA rfl rfl (by decide) (by decide) (fun r_5 u H locs hw hP hD hS => ?_)
      obtain ⟨m_days_6, m_day_7, m_need_8, m_edges_9, m_edgeFrom_10, m_edgeTo_11, m_room_12, m_price_13, m_far_14, m_came_15⟩ := u
      have hP : va_P G vwCl [oX11 q m_kinds m_weighings m_spanLow m_spanHigh m_events m_days_6 m_edges_9 m_crew m_breakages, aI K (q 3) 30 m_book, aI K (q 10) 25 m_farness, aI K (q 11) 12 m_eventDay, aI K (q 12) 12 m_eventHouse, aI K (q 13) 12 m_eventKind, aI K (q 14) 12 m_eventNeed, aZ K (q 15) 12 m_isOff, aI K (q 16) 12 m_day_7, aI K (q 17) 60 m_need_8, aI K (q 18) 1000 m_edgeFrom_10, aI K (q 19) 1000 m_edgeTo_11, aI K (q 20) 1000 m_room_12, aJ K (q 21) 1000 m_price_13, aJ K (q 22) 130 m_far_14, aI K (q 23) 130 m_came_15] H := hP.sub [0, 1, 2, 3, 4, 5, 6, 7, 8, 9, 10, 11, 12, 13, 14, 15] rfl
      have hD : va_D A [oX11 q m_kinds m_weighings m_spanLow m_spanHigh m_events m_days_6 m_edges_9 m_crew m_breakages, aI K (q 3) 30 m_book, aI K (q 10) 25 m_farness, aI K (q 11) 12 m_eventDay, aI K (q 12) 12 m_eventHouse, aI K (q 13) 12 m_eventKind, aI K (q 14) 12 m_eventNeed, aZ K (q 15) 12 m_isOff, aI K (q 16) 12 m_day_7, aI K (q 17) 60 m_need_8, aI K (q 18) 1000 m_edgeFrom_10, aI K (q 19) 1000 m_edgeTo_11, aI K (q 20) 1000 m_room_12, aJ K (q 21) 1000 m_price_13, aJ K (q 22) 130 m_far_14, aI K (q 23) 130 m_came_15] := hD.sub [0, 1, 2, 3, 4, 5, 6, 7, 8, 9, 10, 11, 12, 13, 14, 15] (by decide) rfl
      refine lv_istore_n (pc := 42) (lv' := [(2, .int r_5), (0, .ref (q 0)), (1, .int p1)]) hx hb dX11_costs_42 rfl hl (by decide) rfl (fun ls hl => ?_)
      refine lv_iload_n (pc := 43) hx hb dX11_costs_43 rfl (lv_at hl 0 rfl) ?_
      refine lv_bipush (pc := 44) (v := (-9 : Int32)) hx hb dX11_costs_44 (by decide) ?_
      refine lv_icmp_ne (pc := 46) (tgt := 54) hx hb dX11_costs_46 (by decide) (fun c_16 => ?_) (fun c_16 => ?_)
      · replace hw := hw.2 c_16
        refine lv_iload_n (pc := 54) hx hb dX11_costs_54 rfl (lv_at hl 0 rfl) ?_
        refine lv_aload_n (pc := 55) hx hb dX11_costs_55 rfl (lv_at hl 1 rfl) ?_
        refine lv_aload_n (pc := 56) hx hb dX11_costs_56 rfl (lv_at hl 1 rfl) ?_
        refine va_get (pc := 57) (D := G) (ci := 11) (v := .ref (q 13)) (C := RX11) (T := TX11) (N := 45) hx hb hts iw_X11_costs_X11 hown hK hP 0 rfl rfl 17 (by decide) (hts _ (List.mem_of_getElem? (i := 3) rfl)) (fun _ h9 => h9) rfl dX11_costs_57 ?_
        refine lv_iload_n (pc := 60) hx hb dX11_costs_60 rfl (lv_at hl 2 rfl) ?_
        refine va_iald (pc := 61) hx hb hK hP 5 0 rfl rfl h_3 dX11_costs_61 ?_
        refine lv_iload_n (pc := 62) hx hb dX11_costs_62 rfl (lv_at hl 2 rfl) ?_
        refine hCallI (pc := 63) (wr := []) (wsf := fun (u : Int32 × (Nat → Int32) × (Nat → Int32) × Int32 × (Nat → Int32) × (Nat → Int32) × (Nat → Int32) × (Nat → Int64) × (Nat → Int64) × (Nat → Int32)) => [oX11 q m_kinds m_weighings m_spanLow m_spanHigh m_events u.1 u.2.2.2.1 m_crew m_breakages, aI K (q 3) 30 m_book, aI K (q 10) 25 m_farness, aI K (q 11) 12 m_eventDay, aI K (q 12) 12 m_eventHouse, aI K (q 13) 12 m_eventKind, aI K (q 14) 12 m_eventNeed, aZ K (q 15) 12 m_isOff, aI K (q 16) 12 u.2.1, aI K (q 17) 60 u.2.2.1, aI K (q 18) 1000 u.2.2.2.2.1, aI K (q 19) 1000 u.2.2.2.2.2.1, aI K (q 20) 1000 u.2.2.2.2.2.2.1, aJ K (q 21) 1000 u.2.2.2.2.2.2.2.1, aJ K (q 22) 130 u.2.2.2.2.2.2.2.2.1, aI K (q 23) 130 u.2.2.2.2.2.2.2.2.2]) [0, 1, 2, 3, 4, 5, 6, 7, 8, 9, 10, 11, 12, 13, 14, 15] [] (va_runV (As := [.int (m_eventKind p1.toNatClampNeg), .int p1]) (rest := [.int r_5]) ⟨hx, hb, hml, hown, hts⟩ (c_X11_carriedOf l G K tb q H.size m_kinds m_weighings m_spanLow m_spanHigh m_crew m_breakages _ (m_eventKind p1.toNatClampNeg) p1 m_book m_farness m_events m_eventDay m_eventHouse m_eventKind m_eventNeed m_isOff m_days_6 m_day_7 m_need_8 m_edges_9 m_edgeFrom_10 m_edgeTo_11 m_room_12 m_price_13 m_far_14 m_came_15 hw) (cwV 2 hts gX11_costs_X11_carriedOf rfl rfl rfl (by decide +kernel) ⟨Nat.le_of_ble_eq_true rfl, Nat.le_of_ble_eq_true rfl⟩) (hPreV hE hP hK hD hS hA [0, 1, 2, 3, 4, 5, 6, 7, 8, 9, 10, 11, 12, 13, 14, 15] (by decide) rfl rfl rfl rfl (q0 := 0) (ci := 11) rfl) rfl rfl hl.1 rfl (lv_room (Nat.le_of_ble_eq_true rfl)) dX11_costs_63 ⟨Nat.zero_le _, Nat.zero_le _⟩) hP hD hS hA rfl rfl (by decide) (by decide) (fun r_17 u H locs hw hP hD hS => ?_)
        obtain ⟨m_days_18, m_day_19, m_need_20, m_edges_21, m_edgeFrom_22, m_edgeTo_23, m_room_24, m_price_25, m_far_26, m_came_27⟩ := u
        have hP : va_P G vwCl [oX11 q m_kinds m_weighings m_spanLow m_spanHigh m_events m_days_18 m_edges_21 m_crew m_breakages, aI K (q 3) 30 m_book, aI K (q 10) 25 m_farness, aI K (q 11) 12 m_eventDay, aI K (q 12) 12 m_eventHouse, aI K (q 13) 12 m_eventKind, aI K (q 14) 12 m_eventNeed, aZ K (q 15) 12 m_isOff, aI K (q 16) 12 m_day_19, aI K (q 17) 60 m_need_20, aI K (q 18) 1000 m_edgeFrom_22, aI K (q 19) 1000 m_edgeTo_23, aI K (q 20) 1000 m_room_24, aJ K (q 21) 1000 m_price_25, aJ K (q 22) 130 m_far_26, aI K (q 23) 130 m_came_27] H := hP.sub [0, 1, 2, 3, 4, 5, 6, 7, 8, 9, 10, 11, 12, 13, 14, 15] rfl
        have hD : va_D A [oX11 q m_kinds m_weighings m_spanLow m_spanHigh m_events m_days_18 m_edges_21 m_crew m_breakages, aI K (q 3) 30 m_book, aI K (q 10) 25 m_farness, aI K (q 11) 12 m_eventDay, aI K (q 12) 12 m_eventHouse, aI K (q 13) 12 m_eventKind, aI K (q 14) 12 m_eventNeed, aZ K (q 15) 12 m_isOff, aI K (q 16) 12 m_day_19, aI K (q 17) 60 m_need_20, aI K (q 18) 1000 m_edgeFrom_22, aI K (q 19) 1000 m_edgeTo_23, aI K (q 20) 1000 m_room_24, aJ K (q 21) 1000 m_price_25, aJ K (q 22) 130 m_far_26, aI K (q 23) 130 m_came_27] := hD.sub [0, 1, 2, 3, 4, 5, 6, 7, 8, 9, 10, 11, 12, 13, 14, 15] (by decide) rfl
        refine lv_isub (pc := 66) hx hb dX11_costs_66 ?_
        exact hRetI (S := Int32 × (Nat → Int32) × (Nat → Int32) × Int32 × (Nat → Int32) × (Nat → Int32) × (Nat → Int32) × (Nat → Int64) × (Nat → Int64) × (Nat → Int32)) (m_days_18, m_day_19, m_need_20, m_edges_21, m_edgeFrom_22, m_edgeTo_23, m_room_24, m_price_25, m_far_26, m_came_27) hx hb hr hlocks hQ hw hP hK hD hS dX11_costs_67
      · replace hw := hw.1 c_16
        refine lv_bipush (pc := 49) (v := (-9 : Int32)) hx hb dX11_costs_49 (by decide) ?_
        refine lv_goto (pc := 51) (tgt := 67) hx hb dX11_costs_51 (by decide) ?_
        exact hRetI (S := Int32 × (Nat → Int32) × (Nat → Int32) × Int32 × (Nat → Int32) × (Nat → Int32) × (Nat → Int32) × (Nat → Int64) × (Nat → Int64) × (Nat → Int32)) (m_days_6, m_day_7, m_need_8, m_edges_9, m_edgeFrom_10, m_edgeTo_11, m_room_12, m_price_13, m_far_14, m_came_15) hx hb hr hlocks hQ hw hP hK hD hS dX11_costs_67
    · replace hw := hw.2 c_4
      refine lv_bipush (pc := 27) (v := (-3 : Int32)) hx hb dX11_costs_27 (by decide) ?_
      exact hRetI (S := Int32 × (Nat → Int32) × (Nat → Int32) × Int32 × (Nat → Int32) × (Nat → Int32) × (Nat → Int32) × (Nat → Int64) × (Nat → Int64) × (Nat → Int32)) (m_days, m_day, m_need, m_edges, m_edgeFrom, m_edgeTo, m_room, m_price, m_far, m_came) hx hb hr hlocks hQ hw hP hK hD hS dX11_costs_29
  · replace hw := hw.1 c_2
    refine lv_iconst (pc := 16) (v := (-1 : Int32)) hx hb dX11_costs_16 (by decide) ?_
    exact hRetI (S := Int32 × (Nat → Int32) × (Nat → Int32) × Int32 × (Nat → Int32) × (Nat → Int32) × (Nat → Int32) × (Nat → Int64) × (Nat → Int64) × (Nat → Int32)) (m_days, m_day, m_need, m_edges, m_edgeFrom, m_edgeTo, m_room, m_price, m_far, m_came) hx hb hr hlocks hQ hw hP hK hD hS dX11_costs_17
