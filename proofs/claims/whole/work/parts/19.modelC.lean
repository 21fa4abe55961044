def P_X11_isLot (post : Int32 → Prop) (p0 : Int32) : Prop :=
  P_X11_in (fun r_1 => (r_1 = 0 ∨ r_1 = 1) ∧ post r_1) p0.toInt64 (0 : Int64) (3 : Int64)
abbrev rm_X11_isLot : Room := { frames := 1, cells := 0, slots := 0, locals := 25 }
set_option maxHeartbeats 4000000 in
set_option maxRecDepth 100000 in
theorem c_X11_isLot (l : Launch) (G : va_G) (K : ClassId × ClassId × ClassId) (tb q : Nat → Nat) (sz : Nat) (post : Int32 → Prop) (p0 : Int32) (hw : P_X11_isLot post p0) : Met l yX11_isLot wsX11_isLot rm_X11_isLot (va_Pc [.int p0] (hPre G K tb [] sz)) (va_Qi (fun (r : Int32) (u : Unit) => post r) (fun u => hB G K (va_A [] sz) []) (va_A [] sz)) 0 0 (va_A [] sz) := by
  refine hMet (fun A => va_Qi (fun (r : Int32) (u : Unit) => post r) (fun u => hB G K A []) A) (by decide) rfl (Nat.le_of_ble_eq_true rfl) ?_
  intro p e s m av below meth c A Q ls hx hb hr hml hts hown hlocks hnm hA hP hK hD hS hE hQ hl
  have hts : ∀ w ∈ wsX11_isLot, w.before av s = true := hts
  have hown : s.vm.findClass RX11 = some m.cls := hown
  have hl : lv_has ls 1 [(0, .int p0)] := hl
  unfold P_X11_isLot at hw
  refine lv_iload_n (pc := 0) hx hb dX11_isLot_0 rfl (lv_at hl 0 rfl) ?_
  refine lv_i2l (pc := 1) hx hb dX11_isLot_1 rfl ?_
  refine lv_lconst (pc := 2) (v := (0 : Int64)) hx hb dX11_isLot_2 (by decide) ?_
  refine lv_ldc2 (pc := 3) (v := (3 : Int64)) hx hb hown (hts _ (List.mem_of_getElem? (i := 1) rfl)) dX11_isLot_3 ?_
  refine hCallI (pc := 6) (wr := []) (wsf := fun (u : Unit) => []) [] [] (va_runS (As := [.long p0.toInt64, .long (0 : Int64), .long (3 : Int64)]) (rest := []) ⟨hx, hb, hml, hown, hts⟩ (c_X11_in l G K tb q s.heap.size _ p0.toInt64 (0 : Int64) (3 : Int64) hw) (va_cwS 3 hts gX11_isLot_X11_in rfl rfl rfl (by decide +kernel) ⟨Nat.le_of_ble_eq_true rfl, Nat.le_of_ble_eq_true rfl⟩) (hPreS hE hP hK hD hS hA [] (by decide) rfl rfl) rfl rfl hl.1 rfl (lv_room (Nat.le_of_ble_eq_true rfl)) dX11_isLot_6 ⟨Nat.zero_le _, Nat.zero_le _⟩) hP hD hS hA rfl rfl (by decide) (by decide) (fun r_1 u H locs hw hP hD hS => ?_)
  have hP : va_P G vwCl [] H := hP.sub [] rfl
  have hD : va_D A [] := hD.sub [] (by decide) rfl
  obtain ⟨h_2, hw⟩ := hw
  exact hRetZ (S := Unit) () hx hb hr hlocks hQ h_2 hw hP hK hD hS dX11_isLot_9
def P_X11_lot (post : Int32 → (Nat → Int32) → (Nat → Int32) → (Nat → Int32) → (Nat → Int32) → Prop) (p1 : Int32) (p2 : Int32) (p3 : Int32) (m_plate : Nat → Int32) (m_plateFull : Nat → Int32) (m_wear : Nat → Int32) (m_least : Nat → Int32) : Prop :=
  ∀ (X25 : (Nat → Int32) → (Nat → Int32) → (Nat → Int32) → (Nat → Int32) → Prop),
  ∀ (X42 : (Nat → Int32) → (Nat → Int32) → (Nat → Int32) → (Nat → Int32) → Prop),
  ∀ (X59 : (Nat → Int32) → (Nat → Int32) → (Nat → Int32) → (Nat → Int32) → Prop),
  ∀ (X79 : (Nat → Int32) → (Nat → Int32) → (Nat → Int32) → (Nat → Int32) → Prop),
  (∀ (m_plate : Nat → Int32) (m_plateFull : Nat → Int32) (m_wear : Nat → Int32) (m_least : Nat → Int32), (((p2 = (1 : Int32) → P_X11_in (fun r_7 => ((r_7 = (0 : Int32) → X42 m_plate m_plateFull m_wear m_least) ∧ (¬ r_7 = (0 : Int32) → X79 m_plate m_plateFull m_wear m_least))) p3.toInt64 (1 : Int64) (200 : Int64)) ∧ (¬ p2 = (1 : Int32) → X42 m_plate m_plateFull m_wear m_least))) → X25 m_plate m_plateFull m_wear m_least) →
  (∀ (m_plate : Nat → Int32) (m_plateFull : Nat → Int32) (m_wear : Nat → Int32) (m_least : Nat → Int32), (((p2 = (2 : Int32) → P_X11_in (fun r_32 => ((r_32 = (0 : Int32) → X59 m_plate m_plateFull m_wear m_least) ∧ (¬ r_32 = (0 : Int32) → X79 m_plate m_plateFull m_wear m_least))) p3.toInt64 (0 : Int64) (99 : Int64)) ∧ (¬ p2 = (2 : Int32) → X59 m_plate m_plateFull m_wear m_least))) → X42 m_plate m_plateFull m_wear m_least) →
  (∀ (m_plate : Nat → Int32) (m_plateFull : Nat → Int32) (m_wear : Nat → Int32) (m_least : Nat → Int32), (((p2 = (3 : Int32) → P_X11_in (fun r_35 => ((r_35 = (0 : Int32) → post (-2 : Int32) m_plate m_plateFull m_wear m_least) ∧ (¬ r_35 = (0 : Int32) → X79 m_plate m_plateFull m_wear m_least))) p3.toInt64 (0 : Int64) (100 : Int64)) ∧ (¬ p2 = (3 : Int32) → post (-2 : Int32) m_plate m_plateFull m_wear m_least))) → X59 m_plate m_plateFull m_wear m_least) →
  (∀ (m_plate : Nat → Int32) (m_plateFull : Nat → Int32) (m_wear : Nat → Int32) (m_least : Nat → Int32), (((p2 = (0 : Int32) → (vp_in p1 4 ∧ True)) ∧ (¬ p2 = (0 : Int32) → ((p2 = (1 : Int32) → (vp_in p1 4 ∧ True)) ∧ (¬ p2 = (1 : Int32) → ((p2 = (2 : Int32) → (vp_in p1 4 ∧ True)) ∧ (¬ p2 = (2 : Int32) → (vp_in p1 4 ∧ True))))))) ∧ ∀ v_16 : Int32, v_16 = (if p2 = (0 : Int32) then (m_plate p1.toNatClampNeg) else (if p2 = (1 : Int32) then (m_plateFull p1.toNatClampNeg) else (if p2 = (2 : Int32) then (m_wear p1.toNatClampNeg) else (m_least p1.toNatClampNeg)))) → ((p2 = (0 : Int32) → True) ∧ (¬ p2 = (0 : Int32) → (vp_in p1 4 ∧ True))) ∧ ∀ v_19 : Int32, v_19 = (if p2 = (0 : Int32) then p3 else (m_plate p1.toNatClampNeg)) → vp_in p1 4 ∧ ∀ m_plate_21 : Nat → Int32, m_plate_21 = upd m_plate p1.toNatClampNeg v_19 → ∀ v_23 : Int32, v_23 = (if p2 = (1 : Int32) then p3 else (m_plateFull p1.toNatClampNeg)) → ∀ m_plateFull_24 : Nat → Int32, m_plateFull_24 = upd m_plateFull p1.toNatClampNeg v_23 → ∀ v_26 : Int32, v_26 = (if p2 = (2 : Int32) then p3 else (m_wear p1.toNatClampNeg)) → ∀ m_wear_27 : Nat → Int32, m_wear_27 = upd m_wear p1.toNatClampNeg v_26 → ∀ v_29 : Int32, v_29 = (if p2 = (3 : Int32) then p3 else (m_least p1.toNatClampNeg)) → ∀ m_least_30 : Nat → Int32, m_least_30 = upd m_least p1.toNatClampNeg v_29 → post v_16 m_plate_21 m_plateFull_24 m_wear_27 m_least_30) → X79 m_plate m_plateFull m_wear m_least) →
  P_X11_isLot (fun r_1 => ((r_1 = (0 : Int32) → post (-1 : Int32) m_plate m_plateFull m_wear m_least) ∧ (¬ r_1 = (0 : Int32) → ((p2 = (0 : Int32) → P_X11_in (fun r_4 => ((r_4 = (0 : Int32) → X25 m_plate m_plateFull m_wear m_least) ∧ (¬ r_4 = (0 : Int32) → X79 m_plate m_plateFull m_wear m_least))) p3.toInt64 (0 : Int64) (200 : Int64)) ∧ (¬ p2 = (0 : Int32) → X25 m_plate m_plateFull m_wear m_least))))) p1
abbrev rm_X11_lot : Room := { frames := 2, cells := 0, slots := 0, locals := 45 }
theorem iw_X11_lot_X11 : ∀ w ∈ wsX110, w ∈ wsX11_lot := by decide +kernel
set_option maxHeartbeats 4000000 in
set_option maxRecDepth 100000 in
theorem c_X11_lot (l : Launch) (G : va_G) (K : ClassId × ClassId × ClassId) (tb q : Nat → Nat) (sz : Nat) (m_kinds : Int32) (m_weighings : Int32) (m_spanLow : Int32) (m_spanHigh : Int32) (m_events : Int32) (m_days : Int32) (m_edges : Int32) (m_crew : Int32) (m_breakages : Int32) (post : Int32 → (Nat → Int32) → (Nat → Int32) → (Nat → Int32) → (Nat → Int32) → Prop) (p1 : Int32) (p2 : Int32) (p3 : Int32) (m_plate : Nat → Int32) (m_plateFull : Nat → Int32) (m_wear : Nat → Int32) (m_least : Nat → Int32) (hw : P_X11_lot post p1 p2 p3 m_plate m_plateFull m_wear m_least) : Met l yX11_lot wsX11_lot rm_X11_lot (va_Pc [.ref (q 0), .int p1, .int p2, .int p3] (hPre G K tb [oX11 q m_kinds m_weighings m_spanLow m_spanHigh m_events m_days m_edges m_crew m_breakages, aI K (q 24) 4 m_plate, aI K (q 25) 4 m_plateFull, aI K (q 26) 4 m_wear, aI K (q 27) 4 m_least] sz)) (va_Qi (fun (r : Int32) (u : (Nat → Int32) × (Nat → Int32) × (Nat → Int32) × (Nat → Int32)) => post r u.1 u.2.1 u.2.2.1 u.2.2.2) (fun u => hB G K (va_A [oX11 q m_kinds m_weighings m_spanLow m_spanHigh m_events m_days m_edges m_crew m_breakages, aI K (q 24) 4 m_plate, aI K (q 25) 4 m_plateFull, aI K (q 26) 4 m_wear, aI K (q 27) 4 m_least] sz) [oX11 q m_kinds m_weighings m_spanLow m_spanHigh m_events m_days m_edges m_crew m_breakages, aI K (q 24) 4 u.1, aI K (q 25) 4 u.2.1, aI K (q 26) 4 u.2.2.1, aI K (q 27) 4 u.2.2.2]) (va_A [oX11 q m_kinds m_weighings m_spanLow m_spanHigh m_events m_days m_edges m_crew m_breakages, aI K (q 24) 4 m_plate, aI K (q 25) 4 m_plateFull, aI K (q 26) 4 m_wear, aI K (q 27) 4 m_least] sz)) 0 0 (va_A [oX11 q m_kinds m_weighings m_spanLow m_spanHigh m_events m_days m_edges m_crew m_breakages, aI K (q 24) 4 m_plate, aI K (q 25) 4 m_plateFull, aI K (q 26) 4 m_wear, aI K (q 27) 4 m_least] sz) := by
  refine hMet (fun A => va_Qi (fun (r : Int32) (u : (Nat → Int32) × (Nat → Int32) × (Nat → Int32) × (Nat → Int32)) => post r u.1 u.2.1 u.2.2.1 u.2.2.2) (fun u => hB G K A [oX11 q m_kinds m_weighings m_spanLow m_spanHigh m_events m_days m_edges m_crew m_breakages, aI K (q 24) 4 u.1, aI K (q 25) 4 u.2.1, aI K (q 26) 4 u.2.2.1, aI K (q 27) 4 u.2.2.2]) A) (by decide) rfl (Nat.le_of_ble_eq_true rfl) ?_
  intro p e s m av below meth c A Q ls hx hb hr hml hts hown hlocks hnm hA hP hK hD hS hE hQ hl
  have hts : ∀ w ∈ wsX11_lot, w.before av s = true := hts
  have hown : s.vm.findClass RX11 = some m.cls := hown
  have hl : lv_has ls 5 [(0, .ref (q 0)), (1, .int p1), (2, .int p2), (3, .int p3)] := hl
  unfold P_X11_lot at hw
  replace hw := hw (fun (m_plate : Nat → Int32) (m_plateFull : Nat → Int32) (m_wear : Nat → Int32) (m_least : Nat → Int32) => ∀ (H : Heap) (locs : List Loc) (ls : Array Slot), va_P G vwCl [oX11 q m_kinds m_weighings m_spanLow m_spanHigh m_events m_days m_edges m_crew m_breakages, aI K (q 24) 4 m_plate, aI K (q 25) 4 m_plateFull, aI K (q 26) 4 m_wear, aI K (q 27) 4 m_least] H → va_D A [oX11 q m_kinds m_weighings m_spanLow m_spanHigh m_events m_days m_edges m_crew m_breakages, aI K (q 24) 4 m_plate, aI K (q 25) 4 m_plateFull, aI K (q 26) 4 m_wear, aI K (q 27) 4 m_least] → va_S A s.heap H locs → lv_has ls 5 [(0, .ref (q 0)), (1, .int p1), (2, .int p2), (3, .int p3)] → W p l e rm_X11_lot s m av below meth c H locs 0 0 Q (F0 m 25 ls []))
  replace hw := hw (fun (m_plate : Nat → Int32) (m_plateFull : Nat → Int32) (m_wear : Nat → Int32) (m_least : Nat → Int32) => ∀ (H : Heap) (locs : List Loc) (ls : Array Slot), va_P G vwCl [oX11 q m_kinds m_weighings m_spanLow m_spanHigh m_events m_days m_edges m_crew m_breakages, aI K (q 24) 4 m_plate, aI K (q 25) 4 m_plateFull, aI K (q 26) 4 m_wear, aI K (q 27) 4 m_least] H → va_D A [oX11 q m_kinds m_weighings m_spanLow m_spanHigh m_events m_days m_edges m_crew m_breakages, aI K (q 24) 4 m_plate, aI K (q 25) 4 m_plateFull, aI K (q 26) 4 m_wear, aI K (q 27) 4 m_least] → va_S A s.heap H locs → lv_has ls 5 [(0, .ref (q 0)), (1, .int p1), (2, .int p2), (3, .int p3)] → W p l e rm_X11_lot s m av below meth c H locs 0 0 Q (F0 m 42 ls []))
  replace hw := hw (fun (m_plate : Nat → Int32) (m_plateFull : Nat → Int32) (m_wear : Nat → Int32) (m_least : Nat → Int32) => ∀ (H : Heap) (locs : List Loc) (ls : Array Slot), va_P G vwCl [oX11 q m_kinds m_weighings m_spanLow m_spanHigh m_events m_days m_edges m_crew m_breakages, aI K (q 24) 4 m_plate, aI K (q 25) 4 m_plateFull, aI K (q 26) 4 m_wear, aI K (q 27) 4 m_least] H → va_D A [oX11 q m_kinds m_weighings m_spanLow m_spanHigh m_events m_days m_edges m_crew m_breakages, aI K (q 24) 4 m_plate, aI K (q 25) 4 m_plateFull, aI K (q 26) 4 m_wear, aI K (q 27) 4 m_least] → va_S A s.heap H locs → lv_has ls 5 [(0, .ref (q 0)), (1, .int p1), (2, .int p2), (3, .int p3)] → W p l e rm_X11_lot s m av below meth c H locs 0 0 Q (F0 m 59 ls []))
  replace hw := hw (fun (m_plate : Nat → Int32) (m_plateFull : Nat → Int32) (m_wear : Nat → Int32) (m_least : Nat → Int32) => ∀ (H : Heap) (locs : List Loc) (ls : Array Slot), va_P G vwCl [oX11 q m_kinds m_weighings m_spanLow m_spanHigh m_events m_days m_edges m_crew m_breakages, aI K (q 24) 4 m_plate, aI K (q 25) 4 m_plateFull, aI K (q 26) 4 m_wear, aI K (q 27) 4 m_least] H → va_D A [oX11 q m_kinds m_weighings m_spanLow m_spanHigh m_events m_days m_edges m_crew m_breakages, aI K (q 24) 4 m_plate, aI K (q 25) 4 m_plateFull, aI K (q 26) 4 m_wear, aI K (q 27) 4 m_least] → va_S A s.heap H locs → lv_has ls 5 [(0, .ref (q 0)), (1, .int p1), (2, .int p2), (3, .int p3)] → W p l e rm_X11_lot s m av below meth c H locs 0 0 Q (F0 m 79 ls []))
  replace hw := hw (by
    intro m_plate m_plateFull m_wear m_least hw H locs ls hP hD hS hl
    refine lv_iload_n (pc := 25) hx hb dX11_lot_25 rfl (lv_at hl 2 rfl) ?_
    refine lv_iconst (pc := 26) (v := (1 : Int32)) hx hb dX11_lot_26 (by decide) ?_
    refine lv_icmp_ne (pc := 27) (tgt := 42) hx hb dX11_lot_27 (by decide) (fun c_6 => ?_) (fun c_6 => ?_)
    · replace hw := hw.2 c_6
      exact hw _ _ _ hP hD hS (lv_sub hl [0, 1, 2, 3] rfl)
    · replace hw := hw.1 c_6
      refine lv_iload_n (pc := 30) hx hb dX11_lot_30 rfl (lv_at hl 3 rfl) ?_
      refine lv_i2l (pc := 31) hx hb dX11_lot_31 rfl ?_
      refine lv_lconst (pc := 32) (v := (1 : Int64)) hx hb dX11_lot_32 (by decide) ?_
      refine lv_ldc2 (pc := 33) (v := (200 : Int64)) hx hb hown (hts _ (List.mem_of_getElem? (i := 1) rfl)) dX11_lot_33 ?_
      refine hCallI (pc := 36) (wr := [oX11 q m_kinds m_weighings m_spanLow m_spanHigh m_events m_days m_edges m_crew m_breakages, aI K (q 24) 4 m_plate, aI K (q 25) 4 m_plateFull, aI K (q 26) 4 m_wear, aI K (q 27) 4 m_least]) (wsf := fun (u : Unit) => []) [] [0, 1, 2, 3, 4] (va_runS (As := [.long p3.toInt64, .long (1 : Int64), .long (200 : Int64)]) (rest := []) ⟨hx, hb, hml, hown, hts⟩ (c_X11_in l G K tb q H.size _ p3.toInt64 (1 : Int64) (200 : Int64) hw) (va_cwS 3 hts gX11_lot_X11_in rfl rfl rfl (by decide +kernel) ⟨Nat.le_of_ble_eq_true rfl, Nat.le_of_ble_eq_true rfl⟩) (hPreS hE hP hK hD hS hA [] (by decide) rfl rfl) rfl rfl hl.1 rfl (lv_room (Nat.le_of_ble_eq_true rfl)) dX11_lot_36 ⟨Nat.zero_le _, Nat.zero_le _⟩) hP hD hS hA rfl rfl (by decide) (by decide) (fun r_7 u H locs hw hP hD hS => ?_)
      have hP : va_P G vwCl [oX11 q m_kinds m_weighings m_spanLow m_spanHigh m_events m_days m_edges m_crew m_breakages, aI K (q 24) 4 m_plate, aI K (q 25) 4 m_plateFull, aI K (q 26) 4 m_wear, aI K (q 27) 4 m_least] H := hP.sub [0, 1, 2, 3, 4] rfl
      have hD : va_D A [oX11 q m_kinds m_weighings m_spanLow m_spanHigh m_events m_days m_edges m_crew m_breakages, aI K (q 24) 4 m_plate, aI K (q 25) 4 m_plateFull, aI K (q 26) 4 m_wear, aI K (q 27) 4 m_least] := hD.sub [0, 1, 2, 3, 4] (by decide) rfl
      refine lv_if_ne (pc := 39) (tgt := 79) hx hb dX11_lot_39 (by decide) (fun c_8 => ?_) (fun c_8 => ?_)
      · replace hw := hw.2 c_8
        exact hw _ _ _ hP hD hS (lv_sub hl [0, 1, 2, 3] rfl)
      · replace hw := hw.1 c_8
        exact hw _ _ _ hP hD hS (lv_sub hl [0, 1, 2, 3] rfl))
  replace hw := hw (by
    intro m_plate m_plateFull m_wear m_least hw H locs ls hP hD hS hl
    refine lv_iload_n (pc := 42) hx hb dX11_lot_42 rfl (lv_at hl 2 rfl) ?_
    refine lv_iconst (pc := 43) (v := (2 : Int32)) hx hb dX11_lot_43 (by decide) ?_
    refine lv_icmp_ne (pc := 44) (tgt := 59) hx hb dX11_lot_44 (by decide) (fun c_31 => ?_) (fun c_31 => ?_)
    · replace hw := hw.2 c_31
      exact hw _ _ _ hP hD hS (lv_sub hl [0, 1, 2, 3] rfl)
    · replace hw := hw.1 c_31
      refine lv_iload_n (pc := 47) hx hb dX11_lot_47 rfl (lv_at hl 3 rfl) ?_
      refine lv_i2l (pc := 48) hx hb dX11_lot_48 rfl ?_
      refine lv_lconst (pc := 49) (v := (0 : Int64)) hx hb dX11_lot_49 (by decide) ?_
      refine lv_ldc2 (pc := 50) (v := (99 : Int64)) hx hb hown (hts _ (List.mem_of_getElem? (i := 2) rfl)) dX11_lot_50 ?_
      refine hCallI (pc := 53) (wr := [oX11 q m_kinds m_weighings m_spanLow m_spanHigh m_events m_days m_edges m_crew m_breakages, aI K (q 24) 4 m_plate, aI K (q 25) 4 m_plateFull, aI K (q 26) 4 m_wear, aI K (q 27) 4 m_least]) (wsf := fun (u : Unit) => []) [] [0, 1, 2, 3, 4] (va_runS (As := [.long p3.toInt64, .long (0 : Int64), .long (99 : Int64)]) (rest := []) ⟨hx, hb, hml, hown, hts⟩ (c_X11_in l G K tb q H.size _ p3.toInt64 (0 : Int64) (99 : Int64) hw) (va_cwS 3 hts gX11_lot_X11_in rfl rfl rfl (by decide +kernel) ⟨Nat.le_of_ble_eq_true rfl, Nat.le_of_ble_eq_true rfl⟩) (hPreS hE hP hK hD hS hA [] (by decide) rfl rfl) rfl rfl hl.1 rfl (lv_room (Nat.le_of_ble_eq_true rfl)) dX11_lot_53 ⟨Nat.zero_le _, Nat.zero_le _⟩) hP hD hS hA rfl rfl (by decide) (by decide) (fun r_32 u H locs hw hP hD hS => ?_)
      have hP : va_P G vwCl [oX11 q m_kinds m_weighings m_spanLow m_spanHigh m_events m_days m_edges m_crew m_breakages, aI K (q 24) 4 m_plate, aI K (q 25) 4 m_plateFull, aI K (q 26) 4 m_wear, aI K (q 27) 4 m_least] H := hP.sub [0, 1, 2, 3, 4] rfl
      have hD : va_D A [oX11 q m_kinds m_weighings m_spanLow m_spanHigh m_events m_days m_edges m_crew m_breakages, aI K (q 24) 4 m_plate, aI K (q 25) 4 m_plateFull, aI K (q 26) 4 m_wear, aI K (q 27) 4 m_least] := hD.sub [0, 1, 2, 3, 4] (by decide) rfl
      refine lv_if_ne (pc := 56) (tgt := 79) hx hb dX11_lot_56 (by decide) (fun c_33 => ?_) (fun c_33 => ?_)
      · replace hw := hw.2 c_33
        exact hw _ _ _ hP hD hS (lv_sub hl [0, 1, 2, 3] rfl)
      · replace hw := hw.1 c_33
        exact hw _ _ _ hP hD hS (lv_sub hl [0, 1, 2, 3] rfl))
  replace hw := hw (by
    intro m_plate m_plateFull m_wear m_least hw H locs ls hP hD hS hl
    refine lv_iload_n (pc := 59) hx hb dX11_lot_59 rfl (lv_at hl 2 rfl) ?_
    refine lv_iconst (pc := 60) (v := (3 : Int32)) hx hb dX11_lot_60 (by decide) ?_
    refine lv_icmp_ne (pc := 61) (tgt := 76) hx hb dX11_lot_61 (by decide) (fun c_34 => ?_) (fun c_34 => ?_)
    · replace hw := hw.2 c_34
      refine lv_bipush (pc := 76) (v := (-2 : Int32)) hx hb dX11_lot_76 (by decide) ?_
      exact hRetI (S := (Nat → Int32) × (Nat → Int32) × (Nat → Int32) × (Nat → Int32)) (m_plate, m_plateFull, m_wear, m_least) hx hb hr hlocks hQ hw hP hK hD hS dX11_lot_78
    · replace hw := hw.1 c_34
      refine lv_iload_n (pc := 64) hx hb dX11_lot_64 rfl (lv_at hl 3 rfl) ?_
      refine lv_i2l (pc := 65) hx hb dX11_lot_65 rfl ?_
      refine lv_lconst (pc := 66) (v := (0 : Int64)) hx hb dX11_lot_66 (by decide) ?_
      refine lv_ldc2 (pc := 67) (v := (100 : Int64)) hx hb hown (hts _ (List.mem_of_getElem? (i := 3) rfl)) dX11_lot_67 ?_
      refine hCallI (pc := 70) (wr := [oX11 q m_kinds m_weighings m_spanLow m_spanHigh m_events m_days m_edges m_crew m_breakages, aI K (q 24) 4 m_plate, aI K (q 25) 4 m_plateFull, aI K (q 26) 4 m_wear, aI K (q 27) 4 m_least]) (wsf := fun (u : Unit) => []) [] [0, 1, 2, 3, 4] (va_runS (As := [.long p3.toInt64, .long (0 : Int64), .long (100 : Int64)]) (rest := []) ⟨hx, hb, hml, hown, hts⟩ (c_X11_in l G K tb q H.size _ p3.toInt64 (0 : Int64) (100 : Int64) hw) (va_cwS 3 hts gX11_lot_X11_in rfl rfl rfl (by decide +kernel) ⟨Nat.le_of_ble_eq_true rfl, Nat.le_of_ble_eq_true rfl⟩) (hPreS hE hP hK hD hS hA [] (by decide) rfl rfl) rfl rfl hl.1 rfl (lv_room (Nat.le_of_ble_eq_true rfl)) dX11_lot_70 ⟨Nat.zero_le _, Nat.zero_le _⟩) hP hD hS hA rfl rfl (by decide) (by decide) (fun r_35 u H locs hw hP hD hS => ?_)
      have hP : va_P G vwCl [oX11 q m_kinds m_weighings m_spanLow m_spanHigh m_events m_days m_edges m_crew m_breakages, aI K (q 24) 4 m_plate, aI K (q 25) 4 m_plateFull, aI K (q 26) 4 m_wear, aI K (q 27) 4 m_least] H := hP.sub [0, 1, 2, 3, 4] rfl
      have hD : va_D A [oX11 q m_kinds m_weighings m_spanLow m_spanHigh m_events m_days m_edges m_crew m_breakages, aI K (q 24) 4 m_plate, aI K (q 25) 4 m_plateFull, aI K (q 26) 4 m_wear, aI K (q 27) 4 m_least] := hD.sub [0, 1, 2, 3, 4] (by decide) rfl
      refine lv_if_ne (pc := 73) (tgt := 79) hx hb dX11_lot_73 (by decide) (fun c_36 => ?_) (fun c_36 => ?_)
      · replace hw := hw.2 c_36
        exact hw _ _ _ hP hD hS (lv_sub hl [0, 1, 2, 3] rfl)
      · replace hw := hw.1 c_36
        refine lv_bipush (pc := 76) (v := (-2 : Int32)) hx hb dX11_lot_76 (by decide) ?_
        exact hRetI (S := (Nat → Int32) × (Nat → Int32) × (Nat → Int32) × (Nat → Int32)) (m_plate, m_plateFull, m_wear, m_least) hx hb hr hlocks hQ hw hP hK hD hS dX11_lot_78)
  replace hw := hw (by
    intro m_plate m_plateFull m_wear m_least hw H locs ls hP hD hS hl
    refine lv_iload_n (pc := 79) hx hb dX11_lot_79 rfl (lv_at hl 2 rfl) ?_
    obtain ⟨hsf, hw⟩ := hw
    have K_v_16 : ∀ v_16 : Int32, v_16 = (if p2 = (0 : Int32) then (m_plate p1.toNatClampNeg) else (if p2 = (1 : Int32) then (m_plateFull p1.toNatClampNeg) else (if p2 = (2 : Int32) then (m_wear p1.toNatClampNeg) else (m_least p1.toNatClampNeg)))) → W p l e rm_X11_lot s m av below meth c H locs 0 0 Q (F0 m 126 ls [.int v_16]) := by
      intro v_16 ev_16
      replace hw := hw v_16 ev_16
      refine lv_istore (pc := 126) (lv' := [(4, .int v_16), (0, .ref (q 0)), (1, .int p1), (2, .int p2), (3, .int p3)]) hx hb dX11_lot_126 hl (by decide) rfl (fun ls hl => ?_)
      refine lv_aload_n (pc := 128) hx hb dX11_lot_128 rfl (lv_at hl 1 rfl) ?_
      refine va_get (pc := 129) (D := G) (ci := 11) (v := .ref (q 24)) (C := RX11) (T := TX11) (N := 45) hx hb hts iw_X11_lot_X11 hown hK hP 0 rfl rfl 30 (by decide) (hts _ (List.mem_of_getElem? (i := 4) rfl)) (fun _ h9 => h9) rfl dX11_lot_129 ?_
      refine lv_iload_n (pc := 132) hx hb dX11_lot_132 rfl (lv_at hl 2 rfl) ?_
      refine lv_iload_n (pc := 133) hx hb dX11_lot_133 rfl (lv_at hl 3 rfl) ?_
      obtain ⟨hsf, hw⟩ := hw
      have K_v_19 : ∀ v_19 : Int32, v_19 = (if p2 = (0 : Int32) then p3 else (m_plate p1.toNatClampNeg)) → W p l e rm_X11_lot s m av below meth c H locs 0 0 Q (F0 m 147 ls [.int v_19, .int p1, .ref (q 24)]) := by
        intro v_19 ev_19
        replace hw := hw v_19 ev_19
        obtain ⟨h_20, hw⟩ := hw
        refine va_iast (pc := 147) hx hb hK hP hD hS 1 0 rfl rfl h_20 dX11_lot_147 (fun H locs hP hD hS => ?_)
        obtain ⟨m_plate_21, em_plate_21⟩ : ∃ z : Nat → Int32, z = upd m_plate p1.toNatClampNeg v_19 := ⟨_, rfl⟩
        have hP : va_P G vwCl [oX11 q m_kinds m_weighings m_spanLow m_spanHigh m_events m_days m_edges m_crew m_breakages, aI K (q 24) 4 m_plate_21, aI K (q 25) 4 m_plateFull, aI K (q 26) 4 m_wear, aI K (q 27) 4 m_least] H := by rw [em_plate_21]; exact hP
        have hD : va_D A [oX11 q m_kinds m_weighings m_spanLow m_spanHigh m_events m_days m_edges m_crew m_breakages, aI K (q 24) 4 m_plate_21, aI K (q 25) 4 m_plateFull, aI K (q 26) 4 m_wear, aI K (q 27) 4 m_least] := by rw [em_plate_21]; exact hD
        replace hw := hw m_plate_21 em_plate_21
        refine lv_aload_n (pc := 148) hx hb dX11_lot_148 rfl (lv_at hl 1 rfl) ?_
        refine va_get (pc := 149) (D := G) (ci := 11) (v := .ref (q 25)) (C := RX11) (T := TX11) (N := 45) hx hb hts iw_X11_lot_X11 hown hK hP 0 rfl rfl 31 (by decide) (hts _ (List.mem_of_getElem? (i := 5) rfl)) (fun _ h9 => h9) rfl dX11_lot_149 ?_
        refine lv_iload_n (pc := 152) hx hb dX11_lot_152 rfl (lv_at hl 2 rfl) ?_
        refine lv_iload_n (pc := 153) hx hb dX11_lot_153 rfl (lv_at hl 3 rfl) ?_
        refine lv_iconst (pc := 154) (v := (1 : Int32)) hx hb dX11_lot_154 (by decide) ?_
        have K_v_23 : ∀ v_23 : Int32, v_23 = (if p2 = (1 : Int32) then p3 else (m_plateFull p1.toNatClampNeg)) → W p l e rm_X11_lot s m av below meth c H locs 0 0 Q (F0 m 168 ls [.int v_23, .int p1, .ref (q 25)]) := by
          intro v_23 ev_23
          replace hw := hw v_23 ev_23
          refine va_iast (pc := 168) hx hb hK hP hD hS 2 0 rfl rfl h_20 dX11_lot_168 (fun H locs hP hD hS => ?_)
          obtain ⟨m_plateFull_24, em_plateFull_24⟩ : ∃ z : Nat → Int32, z = upd m_plateFull p1.toNatClampNeg v_23 := ⟨_, rfl⟩
          have hP : va_P G vwCl [oX11 q m_kinds m_weighings m_spanLow m_spanHigh m_events m_days m_edges m_crew m_breakages, aI K (q 24) 4 m_plate_21, aI K (q 25) 4 m_plateFull_24, aI K (q 26) 4 m_wear, aI K (q 27) 4 m_least] H := by rw [em_plateFull_24]; exact hP
          have hD : va_D A [oX11 q m_kinds m_weighings m_spanLow m_spanHigh m_events m_days m_edges m_crew m_breakages, aI K (q 24) 4 m_plate_21, aI K (q 25) 4 m_plateFull_24, aI K (q 26) 4 m_wear, aI K (q 27) 4 m_least] := by rw [em_plateFull_24]; exact hD
          replace hw := hw m_plateFull_24 em_plateFull_24
          refine lv_aload_n (pc := 169) hx hb dX11_lot_169 rfl (lv_at hl 1 rfl) ?_
          refine va_get (pc := 170) (D := G) (ci := 11) (v := .ref (q 26)) (C := RX11) (T := TX11) (N := 45) hx hb hts iw_X11_lot_X11 hown hK hP 0 rfl rfl 32 (by decide) (hts _ (List.mem_of_getElem? (i := 6) rfl)) (fun _ h9 => h9) rfl dX11_lot_170 ?_
          refine lv_iload_n (pc := 173) hx hb dX11_lot_173 rfl (lv_at hl 2 rfl) ?_
          refine lv_iload_n (pc := 174) hx hb dX11_lot_174 rfl (lv_at hl 3 rfl) ?_
          refine lv_iconst (pc := 175) (v := (2 : Int32)) hx hb dX11_lot_175 (by decide) ?_
          have K_v_26 : ∀ v_26 : Int32, v_26 = (if p2 = (2 : Int32) then p3 else (m_wear p1.toNatClampNeg)) → W p l e rm_X11_lot s m av below meth c H locs 0 0 Q (F0 m 189 ls [.int v_26, .int p1, .ref (q 26)]) := by
            intro v_26 ev_26
            replace hw := hw v_26 ev_26
            refine va_iast (pc := 189) hx hb hK hP hD hS 3 0 rfl rfl h_20 dX11_lot_189 (fun H locs hP hD hS => ?_)
            obtain ⟨m_wear_27, em_wear_27⟩ : ∃ z : Nat → Int32, z = upd m_wear p1.toNatClampNeg v_26 := ⟨_, rfl⟩
            have hP : va_P G vwCl [oX11 q m_kinds m_weighings m_spanLow m_spanHigh m_events m_days m_edges m_crew m_breakages, aI K (q 24) 4 m_plate_21, aI K (q 25) 4 m_plateFull_24, aI K (q 26) 4 m_wear_27, aI K (q 27) 4 m_least] H := by rw [em_wear_27]; exact hP
            have hD : va_D A [oX11 q m_kinds m_weighings m_spanLow m_spanHigh m_events m_days m_edges m_crew m_breakages, aI K (q 24) 4 m_plate_21, aI K (q 25) 4 m_plateFull_24, aI K (q 26) 4 m_wear_27, aI K (q 27) 4 m_least] := by rw [em_wear_27]; exact hD
            replace hw := hw m_wear_27 em_wear_27
            refine lv_aload_n (pc := 190) hx hb dX11_lot_190 rfl (lv_at hl 1 rfl) ?_
            refine va_get (pc := 191) (D := G) (ci := 11) (v := .ref (q 27)) (C := RX11) (T := TX11) (N := 45) hx hb hts iw_X11_lot_X11 hown hK hP 0 rfl rfl 33 (by decide) (hts _ (List.mem_of_getElem? (i := 7) rfl)) (fun _ h9 => h9) rfl dX11_lot_191 ?_
            refine lv_iload_n (pc := 194) hx hb dX11_lot_194 rfl (lv_at hl 2 rfl) ?_
            refine lv_iload_n (pc := 195) hx hb dX11_lot_195 rfl (lv_at hl 3 rfl) ?_
            refine lv_iconst (pc := 196) (v := (3 : Int32)) hx hb dX11_lot_196 (by decide) ?_
            have K_v_29 : ∀ v_29 : Int32, v_29 = (if p2 = (3 : Int32) then p3 else (m_least p1.toNatClampNeg)) → W p l e rm_X11_lot s m av below meth c H locs 0 0 Q (F0 m 210 ls [.int v_29, .int p1, .ref (q 27)]) := by
              intro v_29 ev_29
              replace hw := hw v_29 ev_29
              refine va_iast (pc := 210) hx hb hK hP hD hS 4 0 rfl rfl h_20 dX11_lot_210 (fun H locs hP hD hS => ?_)
              obtain ⟨m_least_30, em_least_30⟩ : ∃ z : Nat → Int32, z = upd m_least p1.toNatClampNeg v_29 := ⟨_, rfl⟩
              have hP : va_P G vwCl [oX11 q m_kinds m_weighings m_spanLow m_spanHigh m_events m_days m_edges m_crew m_breakages, aI K (q 24) 4 m_plate_21, aI K (q 25) 4 m_plateFull_24, aI K (q 26) 4 m_wear_27, aI K (q 27) 4 m_least_30] H := by rw [em_least_30]; exact hP
              have hD : va_D A [oX11 q m_kinds m_weighings m_spanLow m_spanHigh m_events m_days m_edges m_crew m_breakages, aI K (q 24) 4 m_plate_21, aI K (q 25) 4 m_plateFull_24, aI K (q 26) 4 m_wear_27, aI K (q 27) 4 m_least_30] := by rw [em_least_30]; exact hD
              replace hw := hw m_least_30 em_least_30
              refine lv_iload (pc := 211) hx hb dX11_lot_211 (lv_at hl 0 rfl) ?_
              exact hRetI (S := (Nat → Int32) × (Nat → Int32) × (Nat → Int32) × (Nat → Int32)) (m_plate_21, m_plateFull_24, m_wear_27, m_least_30) hx hb hr hlocks hQ hw hP hK hD hS dX11_lot_213
            refine lv_icmp_ne (pc := 197) (tgt := 204) hx hb dX11_lot_197 (by decide) (fun c_28 => ?_) (fun c_28 => ?_)
            · skip
              refine lv_aload_n (pc := 204) hx hb dX11_lot_204 rfl (lv_at hl 1 rfl) ?_
              refine va_get (pc := 205) (D := G) (ci := 11) (v := .ref (q 27)) (C := RX11) (T := TX11) (N := 45) hx hb hts iw_X11_lot_X11 hown hK hP 0 rfl rfl 33 (by decide) (hts _ (List.mem_of_getElem? (i := 7) rfl)) (fun _ h9 => h9) rfl dX11_lot_205 ?_
              refine lv_iload_n (pc := 208) hx hb dX11_lot_208 rfl (lv_at hl 2 rfl) ?_
              refine va_iald (pc := 209) hx hb hK hP 4 0 rfl rfl h_20 dX11_lot_209 ?_
              exact K_v_29 _ (by rw [if_neg c_28])
            · skip
              refine lv_iload_n (pc := 200) hx hb dX11_lot_200 rfl (lv_at hl 4 rfl) ?_
              refine lv_goto (pc := 201) (tgt := 210) hx hb dX11_lot_201 (by decide) ?_
              exact K_v_29 _ (by rw [if_pos c_28])
          refine lv_icmp_ne (pc := 176) (tgt := 183) hx hb dX11_lot_176 (by decide) (fun c_25 => ?_) (fun c_25 => ?_)
          · skip
            refine lv_aload_n (pc := 183) hx hb dX11_lot_183 rfl (lv_at hl 1 rfl) ?_
            refine va_get (pc := 184) (D := G) (ci := 11) (v := .ref (q 26)) (C := RX11) (T := TX11) (N := 45) hx hb hts iw_X11_lot_X11 hown hK hP 0 rfl rfl 32 (by decide) (hts _ (List.mem_of_getElem? (i := 6) rfl)) (fun _ h9 => h9) rfl dX11_lot_184 ?_
            refine lv_iload_n (pc := 187) hx hb dX11_lot_187 rfl (lv_at hl 2 rfl) ?_
            refine va_iald (pc := 188) hx hb hK hP 3 0 rfl rfl h_20 dX11_lot_188 ?_
            exact K_v_26 _ (by rw [if_neg c_25])
          · skip
            refine lv_iload_n (pc := 179) hx hb dX11_lot_179 rfl (lv_at hl 4 rfl) ?_
            refine lv_goto (pc := 180) (tgt := 189) hx hb dX11_lot_180 (by decide) ?_
            exact K_v_26 _ (by rw [if_pos c_25])
        refine lv_icmp_ne (pc := 155) (tgt := 162) hx hb dX11_lot_155 (by decide) (fun c_22 => ?_) (fun c_22 => ?_)
        · skip
          refine lv_aload_n (pc := 162) hx hb dX11_lot_162 rfl (lv_at hl 1 rfl) ?_
          refine va_get (pc := 163) (D := G) (ci := 11) (v := .ref (q 25)) (C := RX11) (T := TX11) (N := 45) hx hb hts iw_X11_lot_X11 hown hK hP 0 rfl rfl 31 (by decide) (hts _ (List.mem_of_getElem? (i := 5) rfl)) (fun _ h9 => h9) rfl dX11_lot_163 ?_
          refine lv_iload_n (pc := 166) hx hb dX11_lot_166 rfl (lv_at hl 2 rfl) ?_
          refine va_iald (pc := 167) hx hb hK hP 2 0 rfl rfl h_20 dX11_lot_167 ?_
          exact K_v_23 _ (by rw [if_neg c_22])
        · skip
          refine lv_iload_n (pc := 158) hx hb dX11_lot_158 rfl (lv_at hl 4 rfl) ?_
          refine lv_goto (pc := 159) (tgt := 168) hx hb dX11_lot_159 (by decide) ?_
          exact K_v_23 _ (by rw [if_pos c_22])
      refine lv_if_ne (pc := 134) (tgt := 141) hx hb dX11_lot_134 (by decide) (fun c_17 => ?_) (fun c_17 => ?_)
      · replace hsf := hsf.2 c_17
        refine lv_aload_n (pc := 141) hx hb dX11_lot_141 rfl (lv_at hl 1 rfl) ?_
        refine va_get (pc := 142) (D := G) (ci := 11) (v := .ref (q 24)) (C := RX11) (T := TX11) (N := 45) hx hb hts iw_X11_lot_X11 hown hK hP 0 rfl rfl 30 (by decide) (hts _ (List.mem_of_getElem? (i := 4) rfl)) (fun _ h9 => h9) rfl dX11_lot_142 ?_
        refine lv_iload_n (pc := 145) hx hb dX11_lot_145 rfl (lv_at hl 2 rfl) ?_
        obtain ⟨h_18, hsf⟩ := hsf
        refine va_iald (pc := 146) hx hb hK hP 1 0 rfl rfl h_18 dX11_lot_146 ?_
        exact K_v_19 _ (by rw [if_neg c_17])
      · replace hsf := hsf.1 c_17
        refine lv_iload_n (pc := 137) hx hb dX11_lot_137 rfl (lv_at hl 4 rfl) ?_
        refine lv_goto (pc := 138) (tgt := 147) hx hb dX11_lot_138 (by decide) ?_
        exact K_v_19 _ (by rw [if_pos c_17])
    refine lv_if_ne (pc := 80) (tgt := 92) hx hb dX11_lot_80 (by decide) (fun c_9 => ?_) (fun c_9 => ?_)
    · replace hsf := hsf.2 c_9
      refine lv_iload_n (pc := 92) hx hb dX11_lot_92 rfl (lv_at hl 2 rfl) ?_
      refine lv_iconst (pc := 93) (v := (1 : Int32)) hx hb dX11_lot_93 (by decide) ?_
      refine lv_icmp_ne (pc := 94) (tgt := 106) hx hb dX11_lot_94 (by decide) (fun c_10 => ?_) (fun c_10 => ?_)
      · replace hsf := hsf.2 c_10
        refine lv_iload_n (pc := 106) hx hb dX11_lot_106 rfl (lv_at hl 2 rfl) ?_
        refine lv_iconst (pc := 107) (v := (2 : Int32)) hx hb dX11_lot_107 (by decide) ?_
        refine lv_icmp_ne (pc := 108) (tgt := 120) hx hb dX11_lot_108 (by decide) (fun c_11 => ?_) (fun c_11 => ?_)
        · replace hsf := hsf.2 c_11
          refine lv_aload_n (pc := 120) hx hb dX11_lot_120 rfl (lv_at hl 0 rfl) ?_
          refine va_get (pc := 121) (D := G) (ci := 11) (v := .ref (q 27)) (C := RX11) (T := TX11) (N := 45) hx hb hts iw_X11_lot_X11 hown hK hP 0 rfl rfl 33 (by decide) (hts _ (List.mem_of_getElem? (i := 7) rfl)) (fun _ h9 => h9) rfl dX11_lot_121 ?_
          refine lv_iload_n (pc := 124) hx hb dX11_lot_124 rfl (lv_at hl 1 rfl) ?_
          obtain ⟨h_12, hsf⟩ := hsf
          refine va_iald (pc := 125) hx hb hK hP 4 0 rfl rfl h_12 dX11_lot_125 ?_
          exact K_v_16 _ (by rw [if_neg c_9, if_neg c_10, if_neg c_11])
        · replace hsf := hsf.1 c_11
          refine lv_aload_n (pc := 111) hx hb dX11_lot_111 rfl (lv_at hl 0 rfl) ?_
          refine va_get (pc := 112) (D := G) (ci := 11) (v := .ref (q 26)) (C := RX11) (T := TX11) (N := 45) hx hb hts iw_X11_lot_X11 hown hK hP 0 rfl rfl 32 (by decide) (hts _ (List.mem_of_getElem? (i := 6) rfl)) (fun _ h9 => h9) rfl dX11_lot_112 ?_
          refine lv_iload_n (pc := 115) hx hb dX11_lot_115 rfl (lv_at hl 1 rfl) ?_
          obtain ⟨h_13, hsf⟩ := hsf
          refine va_iald (pc := 116) hx hb hK hP 3 0 rfl rfl h_13 dX11_lot_116 ?_
          refine lv_goto (pc := 117) (tgt := 126) hx hb dX11_lot_117 (by decide) ?_
          exact K_v_16 _ (by rw [if_neg c_9, if_neg c_10, if_pos c_11])
      · replace hsf := hsf.1 c_10
        refine lv_aload_n (pc := 97) hx hb dX11_lot_97 rfl (lv_at hl 0 rfl) ?_
        refine va_get (pc := 98) (D := G) (ci := 11) (v := .ref (q 25)) (C := RX11) (T := TX11) (N := 45) hx hb hts iw_X11_lot_X11 hown hK hP 0 rfl rfl 31 (by decide) (hts _ (List.mem_of_getElem? (i := 5) rfl)) (fun _ h9 => h9) rfl dX11_lot_98 ?_
        refine lv_iload_n (pc := 101) hx hb dX11_lot_101 rfl (lv_at hl 1 rfl) ?_
        obtain ⟨h_14, hsf⟩ := hsf
        refine va_iald (pc := 102) hx hb hK hP 2 0 rfl rfl h_14 dX11_lot_102 ?_
        refine lv_goto (pc := 103) (tgt := 126) hx hb dX11_lot_103 (by decide) ?_
        exact K_v_16 _ (by rw [if_neg c_9, if_pos c_10])
    · replace hsf := hsf.1 c_9
      refine lv_aload_n (pc := 83) hx hb dX11_lot_83 rfl (lv_at hl 0 rfl) ?_
      refine va_get (pc := 84) (D := G) (ci := 11) (v := .ref (q 24)) (C := RX11) (T := TX11) (N := 45) hx hb hts iw_X11_lot_X11 hown hK hP 0 rfl rfl 30 (by decide) (hts _ (List.mem_of_getElem? (i := 4) rfl)) (fun _ h9 => h9) rfl dX11_lot_84 ?_
      refine lv_iload_n (pc := 87) hx hb dX11_lot_87 rfl (lv_at hl 1 rfl) ?_
      obtain ⟨h_15, hsf⟩ := hsf
      refine va_iald (pc := 88) hx hb hK hP 1 0 rfl rfl h_15 dX11_lot_88 ?_
      refine lv_goto (pc := 89) (tgt := 126) hx hb dX11_lot_89 (by decide) ?_
      exact K_v_16 _ (by rw [if_pos c_9]))
  refine lv_iload_n (pc := 0) hx hb dX11_lot_0 rfl (lv_at hl 1 rfl) ?_
  refine hCallI (pc := 1) (wr := [oX11 q m_kinds m_weighings m_spanLow m_spanHigh m_events m_days m_edges m_crew m_breakages, aI K (q 24) 4 m_plate, aI K (q 25) 4 m_plateFull, aI K (q 26) 4 m_wear, aI K (q 27) 4 m_least]) (wsf := fun (u : Unit) => []) [] [0, 1, 2, 3, 4] (va_runS (As := [.int p1]) (rest := []) ⟨hx, hb, hml, hown, hts⟩ (c_X11_isLot l G K tb q s.heap.size _ p1 hw) (va_cwS 1 hts gX11_lot_X11_isLot rfl rfl rfl (by decide +kernel) ⟨Nat.le_of_ble_eq_true rfl, Nat.le_of_ble_eq_true rfl⟩) (hPreS hE hP hK hD hS hA [] (by decide) rfl rfl) rfl rfl hl.1 rfl (lv_room (Nat.le_of_ble_eq_true rfl)) dX11_lot_1 ⟨Nat.zero_le _, Nat.zero_le _⟩) hP hD hS hA rfl rfl (by decide) (by decide) (fun r_1 u H locs hw hP hD hS => ?_)
  have hP : va_P G vwCl [oX11 q m_kinds m_weighings m_spanLow m_spanHigh m_events m_days m_edges m_crew m_breakages, aI K (q 24) 4 m_plate, aI K (q 25) 4 m_plateFull, aI K (q 26) 4 m_wear, aI K (q 27) 4 m_least] H := hP.sub [0, 1, 2, 3, 4] rfl
  have hD : va_D A [oX11 q m_kinds m_weighings m_spanLow m_spanHigh m_events m_days m_edges m_crew m_breakages, aI K (q 24) 4 m_plate, aI K (q 25) 4 m_plateFull, aI K (q 26) 4 m_wear, aI K (q 27) 4 m_least] := hD.sub [0, 1, 2, 3, 4] (by decide) rfl
  refine lv_if_ne (pc := 4) (tgt := 9) hx hb dX11_lot_4 (by decide) (fun c_2 => ?_) (fun c_2 => ?_)
  · replace hw := hw.2 c_2
    refine lv_iload_n (pc := 9) hx hb dX11_lot_9 rfl (lv_at hl 2 rfl) ?_
    refine lv_if_ne (pc := 10) (tgt := 25) hx hb dX11_lot_10 (by decide) (fun c_3 => ?_) (fun c_3 => ?_)
    · replace hw := hw.2 c_3
      exact hw _ _ _ hP hD hS (lv_sub hl [0, 1, 2, 3] rfl)
    · replace hw := hw.1 c_3
      refine lv_iload_n (pc := 13) hx hb dX11_lot_13 rfl (lv_at hl 3 rfl) ?_
      refine lv_i2l (pc := 14) hx hb dX11_lot_14 rfl ?_
      refine lv_lconst (pc := 15) (v := (0 : Int64)) hx hb dX11_lot_15 (by decide) ?_
      refine lv_ldc2 (pc := 16) (v := (200 : Int64)) hx hb hown (hts _ (List.mem_of_getElem? (i := 1) rfl)) dX11_lot_16 ?_
      refine hCallI (pc := 19) (wr := [oX11 q m_kinds m_weighings m_spanLow m_spanHigh m_events m_days m_edges m_crew m_breakages, aI K (q 24) 4 m_plate, aI K (q 25) 4 m_plateFull, aI K (q 26) 4 m_wear, aI K (q 27) 4 m_least]) (wsf := fun (u : Unit) => []) [] [0, 1, 2, 3, 4] (va_runS (As := [.long p3.toInt64, .long (0 : Int64), .long (200 : Int64)]) (rest := []) ⟨hx, hb, hml, hown, hts⟩ (c_X11_in l G K tb q H.size _ p3.toInt64 (0 : Int64) (200 : Int64) hw) (va_cwS 3 hts gX11_lot_X11_in rfl rfl rfl (by decide +kernel) ⟨Nat.le_of_ble_eq_true rfl, Nat.le_of_ble_eq_true rfl⟩) (hPreS hE hP hK hD hS hA [] (by decide) rfl rfl) rfl rfl hl.1 rfl (lv_room (Nat.le_of_ble_eq_true rfl)) dX11_lot_19 ⟨Nat.zero_le _, Nat.zero_le _⟩) hP hD hS hA rfl rfl (by decide) (by decide) (fun r_4 u H locs hw hP hD hS => ?_)
      have hP : va_P G vwCl [oX11 q m_kinds m_weighings m_spanLow m_spanHigh m_events m_days m_edges m_crew m_breakages, aI K (q 24) 4 m_plate, aI K (q 25) 4 m_plateFull, aI K (q 26) 4 m_wear, aI K (q 27) 4 m_least] H := hP.sub [0, 1, 2, 3, 4] rfl
      have hD : va_D A [oX11 q m_kinds m_weighings m_spanLow m_spanHigh m_events m_days m_edges m_crew m_breakages, aI K (q 24) 4 m_plate, aI K (q 25) 4 m_plateFull, aI K (q 26) 4 m_wear, aI K (q 27) 4 m_least] := hD.sub [0, 1, 2, 3, 4] (by decide) rfl
      refine lv_if_ne (pc := 22) (tgt := 79) hx hb dX11_lot_22 (by decide) (fun c_5 => ?_) (fun c_5 => ?_)
      · replace hw := hw.2 c_5
        exact hw _ _ _ hP hD hS (lv_sub hl [0, 1, 2, 3] rfl)
      · replace hw := hw.1 c_5
        exact hw _ _ _ hP hD hS (lv_sub hl [0, 1, 2, 3] rfl)
  · replace hw := hw.1 c_2
    refine lv_iconst (pc := 7) (v := (-1 : Int32)) hx hb dX11_lot_7 (by decide) ?_
    exact hRetI (S := (Nat → Int32) × (Nat → Int32) × (Nat → Int32) × (Nat → Int32)) (m_plate, m_plateFull, m_wear, m_least) hx hb hr hlocks hQ hw hP hK hD hS dX11_lot_8
def P_X11_crew (post : Int32 → Int32 → Prop) (p1 : Int32) (m_crew : Int32) : Prop :=
  P_X11_in (fun r_1 => ((r_1 = (0 : Int32) → post (-2 : Int32) m_crew) ∧ (¬ r_1 = (0 : Int32) → post m_crew p1))) p1.toInt64 (0 : Int64) (4 : Int64)
abbrev rm_X11_crew : Room := { frames := 1, cells := 0, slots := 0, locals := 25 }
theorem iw_X11_crew_X11 : ∀ w ∈ wsX110, w ∈ wsX11_crew := by decide +kernel
set_option maxHeartbeats 4000000 in
set_option maxRecDepth 100000 in
theorem c_X11_crew (l : Launch) (G : va_G) (K : ClassId × ClassId × ClassId) (tb q : Nat → Nat) (sz : Nat) (m_kinds : Int32) (m_weighings : Int32) (m_spanLow : Int32) (m_spanHigh : Int32) (m_events : Int32) (m_days : Int32) (m_edges : Int32) (m_breakages : Int32) (post : Int32 → Int32 → Prop) (p1 : Int32) (m_crew : Int32) (hw : P_X11_crew post p1 m_crew) : Met l yX11_crew wsX11_crew rm_X11_crew (va_Pc [.ref (q 0), .int p1] (hPre G K tb [oX11 q m_kinds m_weighings m_spanLow m_spanHigh m_events m_days m_edges m_crew m_breakages] sz)) (va_Qi (fun (r : Int32) (u : Int32) => post r u) (fun u => hB G K (va_A [oX11 q m_kinds m_weighings m_spanLow m_spanHigh m_events m_days m_edges m_crew m_breakages] sz) [oX11 q m_kinds m_weighings m_spanLow m_spanHigh m_events m_days m_edges u m_breakages]) (va_A [oX11 q m_kinds m_weighings m_spanLow m_spanHigh m_events m_days m_edges m_crew m_breakages] sz)) 0 0 (va_A [oX11 q m_kinds m_weighings m_spanLow m_spanHigh m_events m_days m_edges m_crew m_breakages] sz) := by
  refine hMet (fun A => va_Qi (fun (r : Int32) (u : Int32) => post r u) (fun u => hB G K A [oX11 q m_kinds m_weighings m_spanLow m_spanHigh m_events m_days m_edges u m_breakages]) A) (by decide) rfl (Nat.le_of_ble_eq_true rfl) ?_
  intro p e s m av below meth c A Q ls hx hb hr hml hts hown hlocks hnm hA hP hK hD hS hE hQ hl
  have hts : ∀ w ∈ wsX11_crew, w.before av s = true := hts
  have hown : s.vm.findClass RX11 = some m.cls := hown
  have hl : lv_has ls 3 [(0, .ref (q 0)), (1, .int p1)] := hl
  unfold P_X11_crew at hw
  refine lv_iload_n (pc := 0) hx hb dX11_crew_0 rfl (lv_at hl 1 rfl) ?_
  refine lv_i2l (pc := 1) hx hb dX11_crew_1 rfl ?_
  refine lv_lconst (pc := 2) (v := (0 : Int64)) hx hb dX11_crew_2 (by decide) ?_
  refine lv_ldc2 (pc := 3) (v := (4 : Int64)) hx hb hown (hts _ (List.mem_of_getElem? (i := 1) rfl)) dX11_crew_3 ?_
  refine hCallI (pc := 6) (wr := [oX11 q m_kinds m_weighings m_spanLow m_spanHigh m_events m_days m_edges m_crew m_breakages]) (wsf := fun (u : Unit) => []) [] [0] (va_runS (As := [.long p1.toInt64, .long (0 : Int64), .long (4 : Int64)]) (rest := []) ⟨hx, hb, hml, hown, hts⟩ (c_X11_in l G K tb q s.heap.size _ p1.toInt64 (0 : Int64) (4 : Int64) hw) (va_cwS 3 hts gX11_crew_X11_in rfl rfl rfl (by decide +kernel) ⟨Nat.le_of_ble_eq_true rfl, Nat.le_of_ble_eq_true rfl⟩) (hPreS hE hP hK hD hS hA [] (by decide) rfl rfl) rfl rfl hl.1 rfl (lv_room (Nat.le_of_ble_eq_true rfl)) dX11_crew_6 ⟨Nat.zero_le _, Nat.zero_le _⟩) hP hD hS hA rfl rfl (by decide) (by decide) (fun r_1 u H locs hw hP hD hS => ?_)
  have hP : va_P G vwCl [oX11 q m_kinds m_weighings m_spanLow m_spanHigh m_events m_days m_edges m_crew m_breakages] H := hP.sub [0] rfl
  have hD : va_D A [oX11 q m_kinds m_weighings m_spanLow m_spanHigh m_events m_days m_edges m_crew m_breakages] := hD.sub [0] (by decide) rfl
  refine lv_if_ne (pc := 9) (tgt := 15) hx hb dX11_crew_9 (by decide) (fun c_2 => ?_) (fun c_2 => ?_)
  · replace hw := hw.2 c_2
    refine lv_aload_n (pc := 15) hx hb dX11_crew_15 rfl (lv_at hl 0 rfl) ?_
    refine va_get (pc := 16) (D := G) (ci := 11) (v := .int m_crew) (C := RX11) (T := TX11) (N := 45) hx hb hts iw_X11_crew_X11 hown hK hP 0 rfl rfl 34 (by decide) (hts _ (List.mem_of_getElem? (i := 2) rfl)) (fun _ h9 => h9) rfl dX11_crew_16 ?_
    refine lv_istore_n (pc := 19) (lv' := [(2, .int m_crew), (0, .ref (q 0)), (1, .int p1)]) hx hb dX11_crew_19 rfl hl (by decide) rfl (fun ls hl => ?_)
    refine lv_aload_n (pc := 20) hx hb dX11_crew_20 rfl (lv_at hl 1 rfl) ?_
    refine lv_iload_n (pc := 21) hx hb dX11_crew_21 rfl (lv_at hl 2 rfl) ?_
    refine va_put (pc := 22) (D := G) (ci := 11) (v := .int p1) (ty := .int) (C := RX11) (T := TX11) (N := 45) hx hb hts iw_X11_crew_X11 tyX11 tyX11_ok nmX11 hown hK hP hD hS 0 rfl rfl 34 (by decide) (hts _ (List.mem_of_getElem? (i := 2) rfl)) (fun _ h9 => h9) rfl (by decide +kernel) rfl rfl (Nat.le_of_ble_eq_true rfl) dX11_crew_22 (fun H locs hP hD hS => ?_)
    have hP : va_P G vwCl [oX11 q m_kinds m_weighings m_spanLow m_spanHigh m_events m_days m_edges p1 m_breakages] H := hP
    have hD : va_D A [oX11 q m_kinds m_weighings m_spanLow m_spanHigh m_events m_days m_edges p1 m_breakages] := hD
    refine lv_iload_n (pc := 25) hx hb dX11_crew_25 rfl (lv_at hl 0 rfl) ?_
    exact hRetI (S := Int32) p1 hx hb hr hlocks hQ hw hP hK hD hS dX11_crew_26
  · replace hw := hw.1 c_2
    refine lv_bipush (pc := 12) (v := (-2 : Int32)) hx hb dX11_crew_12 (by decide) ?_
    exact hRetI (S := Int32) m_crew hx hb hr hlocks hQ hw hP hK hD hS dX11_crew_14
def P_X11_ones (post : Int32 → Prop) (p0 : Int32) : Prop :=
  post ((((p0 &&& (1 : Int32)) + ((p0 >>> ((1 : Int32) &&& 31)) &&& (1 : Int32))) + ((p0 >>> ((2 : Int32) &&& 31)) &&& (1 : Int32))) + ((p0 >>> ((3 : Int32) &&& 31)) &&& (1 : Int32)))
abbrev rm_X11_ones : Room := { frames := 0, cells := 0, slots := 0, locals := 0 }
set_option maxHeartbeats 4000000 in
set_option maxRecDepth 100000 in
theorem c_X11_ones (l : Launch) (G : va_G) (K : ClassId × ClassId × ClassId) (tb q : Nat → Nat) (sz : Nat) (post : Int32 → Prop) (p0 : Int32) (hw : P_X11_ones post p0) : Met l yX11_ones wsX11_ones rm_X11_ones (va_Pc [.int p0] (hPre G K tb [] sz)) (va_Qi (fun (r : Int32) (u : Unit) => post r) (fun u => hB G K (va_A [] sz) []) (va_A [] sz)) 0 0 (va_A [] sz) := by
  refine hMet (fun A => va_Qi (fun (r : Int32) (u : Unit) => post r) (fun u => hB G K A []) A) (by decide) rfl (Nat.le_of_ble_eq_true rfl) ?_
  intro p e s m av below meth c A Q ls hx hb hr hml hts hown hlocks hnm hA hP hK hD hS hE hQ hl
  have hts : ∀ w ∈ wsX11_ones, w.before av s = true := hts
  have hown : s.vm.findClass RX11 = some m.cls := hown
  have hl : lv_has ls 1 [(0, .int p0)] := hl
  unfold P_X11_ones at hw
  refine lv_iload_n (pc := 0) hx hb dX11_ones_0 rfl (lv_at hl 0 rfl) ?_
  refine lv_iconst (pc := 1) (v := (1 : Int32)) hx hb dX11_ones_1 (by decide) ?_
  refine lv_iand (pc := 2) hx hb dX11_ones_2 ?_
  refine lv_iload_n (pc := 3) hx hb dX11_ones_3 rfl (lv_at hl 0 rfl) ?_
  refine lv_iconst (pc := 4) (v := (1 : Int32)) hx hb dX11_ones_4 (by decide) ?_
  refine lv_ishr (pc := 5) hx hb dX11_ones_5 ?_
  refine lv_iconst (pc := 6) (v := (1 : Int32)) hx hb dX11_ones_6 (by decide) ?_
  refine lv_iand (pc := 7) hx hb dX11_ones_7 ?_
  refine lv_iadd (pc := 8) hx hb dX11_ones_8 ?_
  refine lv_iload_n (pc := 9) hx hb dX11_ones_9 rfl (lv_at hl 0 rfl) ?_
  refine lv_iconst (pc := 10) (v := (2 : Int32)) hx hb dX11_ones_10 (by decide) ?_
  refine lv_ishr (pc := 11) hx hb dX11_ones_11 ?_
  refine lv_iconst (pc := 12) (v := (1 : Int32)) hx hb dX11_ones_12 (by decide) ?_
  refine lv_iand (pc := 13) hx hb dX11_ones_13 ?_
  refine lv_iadd (pc := 14) hx hb dX11_ones_14 ?_
  refine lv_iload_n (pc := 15) hx hb dX11_ones_15 rfl (lv_at hl 0 rfl) ?_
  refine lv_iconst (pc := 16) (v := (3 : Int32)) hx hb dX11_ones_16 (by decide) ?_
  refine lv_ishr (pc := 17) hx hb dX11_ones_17 ?_
  refine lv_iconst (pc := 18) (v := (1 : Int32)) hx hb dX11_ones_18 (by decide) ?_
  refine lv_iand (pc := 19) hx hb dX11_ones_19 ?_
  refine lv_iadd (pc := 20) hx hb dX11_ones_20 ?_
  exact hRetI (S := Unit) () hx hb hr hlocks hQ hw hP hK hD hS dX11_ones_21
def P_X11_power9 (post : Int32 → Prop) (p0 : Int32) : Prop :=
  ∀ v_4 : Int32, v_4 = (if p0 = (0 : Int32) then (1 : Int32) else (if p0 = (1 : Int32) then (9 : Int32) else (if p0 = (2 : Int32) then (81 : Int32) else (729 : Int32)))) → post v_4
abbrev rm_X11_power9 : Room := { frames := 0, cells := 0, slots := 0, locals := 0 }
set_option maxHeartbeats 4000000 in
set_option maxRecDepth 100000 in
theorem c_X11_power9 (l : Launch) (G : va_G) (K : ClassId × ClassId × ClassId) (tb q : Nat → Nat) (sz : Nat) (post : Int32 → Prop) (p0 : Int32) (hw : P_X11_power9 post p0) : Met l yX11_power9 wsX11_power9 rm_X11_power9 (va_Pc [.int p0] (hPre G K tb [] sz)) (va_Qi (fun (r : Int32) (u : Unit) => post r) (fun u => hB G K (va_A [] sz) []) (va_A [] sz)) 0 0 (va_A [] sz) := by
  refine hMet (fun A => va_Qi (fun (r : Int32) (u : Unit) => post r) (fun u => hB G K A []) A) (by decide) rfl (Nat.le_of_ble_eq_true rfl) ?_
  intro p e s m av below meth c A Q ls hx hb hr hml hts hown hlocks hnm hA hP hK hD hS hE hQ hl
  have hts : ∀ w ∈ wsX11_power9, w.before av s = true := hts
  have hown : s.vm.findClass RX11 = some m.cls := hown
  have hl : lv_has ls 1 [(0, .int p0)] := hl
  unfold P_X11_power9 at hw
  refine lv_iload_n (pc := 0) hx hb dX11_power9_0 rfl (lv_at hl 0 rfl) ?_
  have K_v_4 : ∀ v_4 : Int32, v_4 = (if p0 = (0 : Int32) then (1 : Int32) else (if p0 = (1 : Int32) then (9 : Int32) else (if p0 = (2 : Int32) then (81 : Int32) else (729 : Int32)))) → W p l e rm_X11_power9 s m av below meth c s.heap [] 0 0 Q (F0 m 31 ls [.int v_4]) := by
    intro v_4 ev_4
    replace hw := hw v_4 ev_4
    exact hRetI (S := Unit) () hx hb hr hlocks hQ hw hP hK hD hS dX11_power9_31
  refine lv_if_ne (pc := 1) (tgt := 8) hx hb dX11_power9_1 (by decide) (fun c_1 => ?_) (fun c_1 => ?_)
  · skip
    refine lv_iload_n (pc := 8) hx hb dX11_power9_8 rfl (lv_at hl 0 rfl) ?_
    refine lv_iconst (pc := 9) (v := (1 : Int32)) hx hb dX11_power9_9 (by decide) ?_
    refine lv_icmp_ne (pc := 10) (tgt := 18) hx hb dX11_power9_10 (by decide) (fun c_2 => ?_) (fun c_2 => ?_)
    · skip
      refine lv_iload_n (pc := 18) hx hb dX11_power9_18 rfl (lv_at hl 0 rfl) ?_
      refine lv_iconst (pc := 19) (v := (2 : Int32)) hx hb dX11_power9_19 (by decide) ?_
      refine lv_icmp_ne (pc := 20) (tgt := 28) hx hb dX11_power9_20 (by decide) (fun c_3 => ?_) (fun c_3 => ?_)
      · skip
        refine lv_sipush (pc := 28) (v := (729 : Int32)) hx hb dX11_power9_28 (by decide) ?_
        exact K_v_4 _ (by rw [if_neg c_1, if_neg c_2, if_neg c_3])
      · skip
        refine lv_bipush (pc := 23) (v := (81 : Int32)) hx hb dX11_power9_23 (by decide) ?_
        refine lv_goto (pc := 25) (tgt := 31) hx hb dX11_power9_25 (by decide) ?_
        exact K_v_4 _ (by rw [if_neg c_1, if_neg c_2, if_pos c_3])
    · skip
      refine lv_bipush (pc := 13) (v := (9 : Int32)) hx hb dX11_power9_13 (by decide) ?_
      refine lv_goto (pc := 15) (tgt := 31) hx hb dX11_power9_15 (by decide) ?_
      exact K_v_4 _ (by rw [if_neg c_1, if_pos c_2])
  · skip
    refine lv_iconst (pc := 4) (v := (1 : Int32)) hx hb dX11_power9_4 (by decide) ?_
    refine lv_goto (pc := 5) (tgt := 31) hx hb dX11_power9_5 (by decide) ?_
    exact K_v_4 _ (by rw [if_pos c_1])
def P_X11_isGood (post : Int32 → Prop) (p1 : Int32) (p2 : Int32) (p3 : Int32) (m_plate : Nat → Int32) (m_plateFull : Nat → Int32) (m_wear : Nat → Int32) (m_least : Nat → Int32) : Prop :=
  ∀ v_2 : Int32, v_2 = (if p3 = (0 : Int32) then (p2 + (1 : Int32)) else ((p2 + (2 : Int32)) - p3)) → ((p3 = (0 : Int32) → (vp_in p1 4 ∧ True)) ∧ (¬ p3 = (0 : Int32) → (vp_in p1 4 ∧ True))) ∧ ∀ v_6 : Int32, v_6 = (if p3 = (0 : Int32) then (m_plate p1.toNatClampNeg) else (m_plateFull p1.toNatClampNeg)) → vp_in p1 4 ∧ ∀ y_8 : Int32, y_8 = (v_6 - ((m_wear p1.toNatClampNeg) * v_2)) → ∀ v_10 : Int32, v_10 = (if (0 : Int32) ≤ y_8 then y_8 else (0 : Int32)) → ∀ v_12 : Int32, v_12 = (if v_10 < (m_least p1.toNatClampNeg) then (0 : Int32) else (1 : Int32)) → post v_12
abbrev rm_X11_isGood : Room := { frames := 0, cells := 0, slots := 0, locals := 0 }
theorem iw_X11_isGood_X11 : ∀ w ∈ wsX110, w ∈ wsX11_isGood := by decide +kernel
set_option maxHeartbeats 4000000 in
set_option maxRecDepth 100000 in
theorem c_X11_isGood (l : Launch) (G : va_G) (K : ClassId × ClassId × ClassId) (tb q : Nat → Nat) (sz : Nat) (m_kinds : Int32) (m_weighings : Int32) (m_spanLow : Int32) (m_spanHigh : Int32) (m_events : Int32) (m_days : Int32) (m_edges : Int32) (m_crew : Int32) (m_breakages : Int32) (post : Int32 → Prop) (p1 : Int32) (p2 : Int32) (p3 : Int32) (m_plate : Nat → Int32) (m_plateFull : Nat → Int32) (m_wear : Nat → Int32) (m_least : Nat → Int32) (hw : P_X11_isGood post p1 p2 p3 m_plate m_plateFull m_wear m_least) : Met l yX11_isGood wsX11_isGood rm_X11_isGood (va_Pc [.ref (q 0), .int p1, .int p2, .int p3] (hPre G K tb [oX11 q m_kinds m_weighings m_spanLow m_spanHigh m_events m_days m_edges m_crew m_breakages, aI K (q 24) 4 m_plate, aI K (q 25) 4 m_plateFull, aI K (q 26) 4 m_wear, aI K (q 27) 4 m_least] sz)) (va_Qi (fun (r : Int32) (u : Unit) => post r) (fun u => hB G K (va_A [oX11 q m_kinds m_weighings m_spanLow m_spanHigh m_events m_days m_edges m_crew m_breakages, aI K (q 24) 4 m_plate, aI K (q 25) 4 m_plateFull, aI K (q 26) 4 m_wear, aI K (q 27) 4 m_least] sz) [oX11 q m_kinds m_weighings m_spanLow m_spanHigh m_events m_days m_edges m_crew m_breakages, aI K (q 24) 4 m_plate, aI K (q 25) 4 m_plateFull, aI K (q 26) 4 m_wear, aI K (q 27) 4 m_least]) (va_A [oX11 q m_kinds m_weighings m_spanLow m_spanHigh m_events m_days m_edges m_crew m_breakages, aI K (q 24) 4 m_plate, aI K (q 25) 4 m_plateFull, aI K (q 26) 4 m_wear, aI K (q 27) 4 m_least] sz)) 0 0 (va_A [oX11 q m_kinds m_weighings m_spanLow m_spanHigh m_events m_days m_edges m_crew m_breakages, aI K (q 24) 4 m_plate, aI K (q 25) 4 m_plateFull, aI K (q 26) 4 m_wear, aI K (q 27) 4 m_least] sz) := by
  refine hMet (fun A => va_Qi (fun (r : Int32) (u : Unit) => post r) (fun u => hB G K A [oX11 q m_kinds m_weighings m_spanLow m_spanHigh m_events m_days m_edges m_crew m_breakages, aI K (q 24) 4 m_plate, aI K (q 25) 4 m_plateFull, aI K (q 26) 4 m_wear, aI K (q 27) 4 m_least]) A) (by decide) rfl (Nat.le_of_ble_eq_true rfl) ?_
  intro p e s m av below meth c A Q ls hx hb hr hml hts hown hlocks hnm hA hP hK hD hS hE hQ hl
  have hts : ∀ w ∈ wsX11_isGood, w.before av s = true := hts
  have hown : s.vm.findClass RX11 = some m.cls := hown
  have hl : lv_has ls 6 [(0, .ref (q 0)), (1, .int p1), (2, .int p2), (3, .int p3)] := hl
  unfold P_X11_isGood at hw
  refine lv_iload_n (pc := 0) hx hb dX11_isGood_0 rfl (lv_at hl 3 rfl) ?_
  have K_v_2 : ∀ v_2 : Int32, v_2 = (if p3 = (0 : Int32) then (p2 + (1 : Int32)) else ((p2 + (2 : Int32)) - p3)) → W p l e rm_X11_isGood s m av below meth c s.heap [] 0 0 Q (F0 m 15 ls [.int v_2]) := by
    intro v_2 ev_2
    replace hw := hw v_2 ev_2
    refine lv_istore (pc := 15) (lv' := [(4, .int v_2), (0, .ref (q 0)), (1, .int p1), (2, .int p2), (3, .int p3)]) hx hb dX11_isGood_15 hl (by decide) rfl (fun ls hl => ?_)
    refine lv_iload_n (pc := 17) hx hb dX11_isGood_17 rfl (lv_at hl 4 rfl) ?_
    obtain ⟨hsf, hw⟩ := hw
    have K_v_6 : ∀ v_6 : Int32, v_6 = (if p3 = (0 : Int32) then (m_plate p1.toNatClampNeg) else (m_plateFull p1.toNatClampNeg)) → W p l e rm_X11_isGood s m av below meth c s.heap [] 0 0 Q (F0 m 36 ls [.int v_6]) := by
      intro v_6 ev_6
      replace hw := hw v_6 ev_6
      refine lv_aload_n (pc := 36) hx hb dX11_isGood_36 rfl (lv_at hl 1 rfl) ?_
      refine va_get (pc := 37) (D := G) (ci := 11) (v := .ref (q 26)) (C := RX11) (T := TX11) (N := 45) hx hb hts iw_X11_isGood_X11 hown hK hP 0 rfl rfl 32 (by decide) (hts _ (List.mem_of_getElem? (i := 3) rfl)) (fun _ h9 => h9) rfl dX11_isGood_37 ?_
      refine lv_iload_n (pc := 40) hx hb dX11_isGood_40 rfl (lv_at hl 2 rfl) ?_
      obtain ⟨h_7, hw⟩ := hw
      refine va_iald (pc := 41) hx hb hK hP 3 0 rfl rfl h_7 dX11_isGood_41 ?_
      refine lv_iload (pc := 42) hx hb dX11_isGood_42 (lv_at hl 0 rfl) ?_
      refine lv_imul (pc := 44) hx hb dX11_isGood_44 ?_
      refine lv_isub (pc := 45) hx hb dX11_isGood_45 ?_
      refine lv_topi (fun y_8 ey_8 => ?_)
      replace hw := hw y_8 ey_8
      refine lv_istore (pc := 46) (lv' := [(5, .int y_8), (4, .int v_2), (0, .ref (q 0)), (1, .int p1), (2, .int p2), (3, .int p3)]) hx hb dX11_isGood_46 hl (by decide) rfl (fun ls hl => ?_)
      refine lv_iload (pc := 48) hx hb dX11_isGood_48 (lv_at hl 0 rfl) ?_
      have K_v_10 : ∀ v_10 : Int32, v_10 = (if (0 : Int32) ≤ y_8 then y_8 else (0 : Int32)) → W p l e rm_X11_isGood s m av below meth c s.heap [] 0 0 Q (F0 m 59 ls [.int v_10]) := by
        intro v_10 ev_10
        replace hw := hw v_10 ev_10
        refine lv_aload_n (pc := 59) hx hb dX11_isGood_59 rfl (lv_at hl 2 rfl) ?_
        refine va_get (pc := 60) (D := G) (ci := 11) (v := .ref (q 27)) (C := RX11) (T := TX11) (N := 45) hx hb hts iw_X11_isGood_X11 hown hK hP 0 rfl rfl 33 (by decide) (hts _ (List.mem_of_getElem? (i := 4) rfl)) (fun _ h9 => h9) rfl dX11_isGood_60 ?_
        refine lv_iload_n (pc := 63) hx hb dX11_isGood_63 rfl (lv_at hl 3 rfl) ?_
        refine va_iald (pc := 64) hx hb hK hP 4 0 rfl rfl h_7 dX11_isGood_64 ?_
        have K_v_12 : ∀ v_12 : Int32, v_12 = (if v_10 < (m_least p1.toNatClampNeg) then (0 : Int32) else (1 : Int32)) → W p l e rm_X11_isGood s m av below meth c s.heap [] 0 0 Q (F0 m 73 ls [.int v_12]) := by
          intro v_12 ev_12
          replace hw := hw v_12 ev_12
          exact hRetZ (S := Unit) () hx hb hr hlocks hQ (by rw [ev_12]; (repeat' split) <;> first | exact Or.inl rfl | exact Or.inr rfl) hw hP hK hD hS dX11_isGood_73
        refine lv_icmp_lt (pc := 65) (tgt := 72) hx hb dX11_isGood_65 (by decide) (fun c_11 => ?_) (fun c_11 => ?_)
        · skip
          refine lv_iconst (pc := 72) (v := (0 : Int32)) hx hb dX11_isGood_72 (by decide) ?_
          exact K_v_12 _ (by rw [if_pos c_11])
        · skip
          refine lv_iconst (pc := 68) (v := (1 : Int32)) hx hb dX11_isGood_68 (by decide) ?_
          refine lv_goto (pc := 69) (tgt := 73) hx hb dX11_isGood_69 (by decide) ?_
          exact K_v_12 _ (by rw [if_neg c_11])
      refine lv_if_ge (pc := 50) (tgt := 57) hx hb dX11_isGood_50 (by decide) (fun c_9 => ?_) (fun c_9 => ?_)
      · skip
        refine lv_iload (pc := 57) hx hb dX11_isGood_57 (lv_at hl 0 rfl) ?_
        exact K_v_10 _ (by rw [if_pos c_9])
      · skip
        refine lv_iconst (pc := 53) (v := (0 : Int32)) hx hb dX11_isGood_53 (by decide) ?_
        refine lv_goto (pc := 54) (tgt := 59) hx hb dX11_isGood_54 (by decide) ?_
        exact K_v_10 _ (by rw [if_neg c_9])
    refine lv_if_ne (pc := 18) (tgt := 30) hx hb dX11_isGood_18 (by decide) (fun c_3 => ?_) (fun c_3 => ?_)
    · replace hsf := hsf.2 c_3
      refine lv_aload_n (pc := 30) hx hb dX11_isGood_30 rfl (lv_at hl 1 rfl) ?_
      refine va_get (pc := 31) (D := G) (ci := 11) (v := .ref (q 25)) (C := RX11) (T := TX11) (N := 45) hx hb hts iw_X11_isGood_X11 hown hK hP 0 rfl rfl 31 (by decide) (hts _ (List.mem_of_getElem? (i := 2) rfl)) (fun _ h9 => h9) rfl dX11_isGood_31 ?_
      refine lv_iload_n (pc := 34) hx hb dX11_isGood_34 rfl (lv_at hl 2 rfl) ?_
      obtain ⟨h_4, hsf⟩ := hsf
      refine va_iald (pc := 35) hx hb hK hP 2 0 rfl rfl h_4 dX11_isGood_35 ?_
      exact K_v_6 _ (by rw [if_neg c_3])
    · replace hsf := hsf.1 c_3
      refine lv_aload_n (pc := 21) hx hb dX11_isGood_21 rfl (lv_at hl 1 rfl) ?_
      refine va_get (pc := 22) (D := G) (ci := 11) (v := .ref (q 24)) (C := RX11) (T := TX11) (N := 45) hx hb hts iw_X11_isGood_X11 hown hK hP 0 rfl rfl 30 (by decide) (hts _ (List.mem_of_getElem? (i := 1) rfl)) (fun _ h9 => h9) rfl dX11_isGood_22 ?_
      refine lv_iload_n (pc := 25) hx hb dX11_isGood_25 rfl (lv_at hl 2 rfl) ?_
      obtain ⟨h_5, hsf⟩ := hsf
      refine va_iald (pc := 26) hx hb hK hP 1 0 rfl rfl h_5 dX11_isGood_26 ?_
      refine lv_goto (pc := 27) (tgt := 36) hx hb dX11_isGood_27 (by decide) ?_
      exact K_v_6 _ (by rw [if_pos c_3])
  refine lv_if_ne (pc := 1) (tgt := 10) hx hb dX11_isGood_1 (by decide) (fun c_1 => ?_) (fun c_1 => ?_)
  · skip
    refine lv_iload_n (pc := 10) hx hb dX11_isGood_10 rfl (lv_at hl 2 rfl) ?_
    refine lv_iconst (pc := 11) (v := (2 : Int32)) hx hb dX11_isGood_11 (by decide) ?_
    refine lv_iadd (pc := 12) hx hb dX11_isGood_12 ?_
    refine lv_iload_n (pc := 13) hx hb dX11_isGood_13 rfl (lv_at hl 3 rfl) ?_
    refine lv_isub (pc := 14) hx hb dX11_isGood_14 ?_
    exact K_v_2 _ (by rw [if_neg c_1])
  · skip
    refine lv_iload_n (pc := 4) hx hb dX11_isGood_4 rfl (lv_at hl 2 rfl) ?_
    refine lv_iconst (pc := 5) (v := (1 : Int32)) hx hb dX11_isGood_5 (by decide) ?_
    refine lv_iadd (pc := 6) hx hb dX11_isGood_6 ?_
    refine lv_goto (pc := 7) (tgt := 15) hx hb dX11_isGood_7 (by decide) ?_
    exact K_v_2 _ (by rw [if_pos c_1])
def P_X11_then (post : Int32 → Prop) (p1 : Int32) (p2 : Int32) (p3 : Int32) (m_plate : Nat → Int32) (m_plateFull : Nat → Int32) (m_wear : Nat → Int32) (m_least : Nat → Int32) : Prop :=
  ∀ (X6 : Int32 → Int32 → Prop),
  ∀ (X38 : Int32 → Int32 → Int32 → Prop),
  (∀ (x4 : Int32) (x5 : Int32), ((((4 : Int32) ≤ x5 → post x4) ∧ (¬ (4 : Int32) ≤ x5 → ((((p3 >>> (x5 &&& 31)) &&& (1 : Int32)) = (1 : Int32) → X38 x4 x5 (p2 + (1 : Int32))) ∧ (¬ ((p3 >>> (x5 &&& 31)) &&& (1 : Int32)) = (1 : Int32) → P_X11_power9 (fun r_3 => ¬ r_3 = 0 ∧ X38 x4 x5 ((p1 / r_3) - (p1 / r_3) / (9 : Int32) * (9 : Int32))) x5))))) → X6 x4 x5) →
  (∀ (x4 : Int32) (x5 : Int32) (s0 : Int32), (P_X11_isGood (fun r_5 => ((r_5 = (0 : Int32) → post (-9 : Int32)) ∧ (¬ r_5 = (0 : Int32) → P_X11_power9 (fun r_7 => ∀ y_8 : Int32, y_8 = (x4 + (s0 * r_7)) → ∀ y_9 : Int32, y_9 = (x5 + (1 : Int32)) → X6 y_8 y_9) x5))) x5 p2 s0 m_plate m_plateFull m_wear m_least) → X38 x4 x5 s0) →
  X6 (0 : Int32) (0 : Int32)
abbrev rm_X11_then : Room := { frames := 1, cells := 0, slots := 0, locals := 25 }
set_option maxHeartbeats 4000000 in
set_option maxRecDepth 100000 in
theorem c_X11_then (l : Launch) (G : va_G) (K : ClassId × ClassId × ClassId) (tb q : Nat → Nat) (sz : Nat) (m_kinds : Int32) (m_weighings : Int32) (m_spanLow : Int32) (m_spanHigh : Int32) (m_events : Int32) (m_days : Int32) (m_edges : Int32) (m_crew : Int32) (m_breakages : Int32) (post : Int32 → Prop) (p1 : Int32) (p2 : Int32) (p3 : Int32) (m_plate : Nat → Int32) (m_plateFull : Nat → Int32) (m_wear : Nat → Int32) (m_least : Nat → Int32) (hw : P_X11_then post p1 p2 p3 m_plate m_plateFull m_wear m_least) : Met l yX11_then wsX11_then rm_X11_then (va_Pc [.ref (q 0), .int p1, .int p2, .int p3] (hPre G K tb [oX11 q m_kinds m_weighings m_spanLow m_spanHigh m_events m_days m_edges m_crew m_breakages, aI K (q 24) 4 m_plate, aI K (q 25) 4 m_plateFull, aI K (q 26) 4 m_wear, aI K (q 27) 4 m_least] sz)) (va_Qi (fun (r : Int32) (u : Unit) => post r) (fun u => hB G K (va_A [oX11 q m_kinds m_weighings m_spanLow m_spanHigh m_events m_days m_edges m_crew m_breakages, aI K (q 24) 4 m_plate, aI K (q 25) 4 m_plateFull, aI K (q 26) 4 m_wear, aI K (q 27) 4 m_least] sz) [oX11 q m_kinds m_weighings m_spanLow m_spanHigh m_events m_days m_edges m_crew m_breakages, aI K (q 24) 4 m_plate, aI K (q 25) 4 m_plateFull, aI K (q 26) 4 m_wear, aI K (q 27) 4 m_least]) (va_A [oX11 q m_kinds m_weighings m_spanLow m_spanHigh m_events m_days m_edges m_crew m_breakages, aI K (q 24) 4 m_plate, aI K (q 25) 4 m_plateFull, aI K (q 26) 4 m_wear, aI K (q 27) 4 m_least] sz)) 0 0 (va_A [oX11 q m_kinds m_weighings m_spanLow m_spanHigh m_events m_days m_edges m_crew m_breakages, aI K (q 24) 4 m_plate, aI K (q 25) 4 m_plateFull, aI K (q 26) 4 m_wear, aI K (q 27) 4 m_least] sz) := by
  refine hMet (fun A => va_Qi (fun (r : Int32) (u : Unit) => post r) (fun u => hB G K A [oX11 q m_kinds m_weighings m_spanLow m_spanHigh m_events m_days m_edges m_crew m_breakages, aI K (q 24) 4 m_plate, aI K (q 25) 4 m_plateFull, aI K (q 26) 4 m_wear, aI K (q 27) 4 m_least]) A) (by decide) rfl (Nat.le_of_ble_eq_true rfl) ?_
  intro p e s m av below meth c A Q ls hx hb hr hml hts hown hlocks hnm hA hP hK hD hS hE hQ hl
  have hts : ∀ w ∈ wsX11_then, w.before av s = true := hts
  have hown : s.vm.findClass RX11 = some m.cls := hown
  have hl : lv_has ls 7 [(0, .ref (q 0)), (1, .int p1), (2, .int p2), (3, .int p3)] := hl
  unfold P_X11_then at hw
  replace hw := hw (fun (x4 : Int32) (x5 : Int32) => ∀ (H : Heap) (locs : List Loc) (ls : Array Slot), va_P G vwCl [oX11 q m_kinds m_weighings m_spanLow m_spanHigh m_events m_days m_edges m_crew m_breakages, aI K (q 24) 4 m_plate, aI K (q 25) 4 m_plateFull, aI K (q 26) 4 m_wear, aI K (q 27) 4 m_least] H → va_D A [oX11 q m_kinds m_weighings m_spanLow m_spanHigh m_events m_days m_edges m_crew m_breakages, aI K (q 24) 4 m_plate, aI K (q 25) 4 m_plateFull, aI K (q 26) 4 m_wear, aI K (q 27) 4 m_least] → va_S A s.heap H locs → lv_has ls 7 [(0, .ref (q 0)), (1, .int p1), (2, .int p2), (3, .int p3), (4, .int x4), (5, .int x5)] → W p l e rm_X11_then s m av below meth c H locs 0 0 Q (F0 m 6 ls []))
  replace hw := hw (fun (x4 : Int32) (x5 : Int32) (s0 : Int32) => ∀ (H : Heap) (locs : List Loc) (ls : Array Slot), va_P G vwCl [oX11 q m_kinds m_weighings m_spanLow m_spanHigh m_events m_days m_edges m_crew m_breakages, aI K (q 24) 4 m_plate, aI K (q 25) 4 m_plateFull, aI K (q 26) 4 m_wear, aI K (q 27) 4 m_least] H → va_D A [oX11 q m_kinds m_weighings m_spanLow m_spanHigh m_events m_days m_edges m_crew m_breakages, aI K (q 24) 4 m_plate, aI K (q 25) 4 m_plateFull, aI K (q 26) 4 m_wear, aI K (q 27) 4 m_least] → va_S A s.heap H locs → lv_has ls 7 [(0, .ref (q 0)), (1, .int p1), (2, .int p2), (3, .int p3), (4, .int x4), (5, .int x5)] → W p l e rm_X11_then s m av below meth c H locs 0 0 Q (F0 m 38 ls [.int s0]))
  replace hw := hw (by
    intro x4 x5 hw H locs ls hP hD hS hl
    refine lv_iload (pc := 6) hx hb dX11_then_6 (lv_at hl 5 rfl) ?_
    refine lv_iconst (pc := 8) (v := (4 : Int32)) hx hb dX11_then_8 (by decide) ?_
    refine lv_icmp_ge (pc := 9) (tgt := 74) hx hb dX11_then_9 (by decide) (fun c_1 => ?_) (fun c_1 => ?_)
    · replace hw := hw.1 c_1
      refine lv_iload (pc := 74) hx hb dX11_then_74 (lv_at hl 4 rfl) ?_
      exact hRetI (S := Unit) () hx hb hr hlocks hQ hw hP hK hD hS dX11_then_76
    · replace hw := hw.2 c_1
      refine lv_iload_n (pc := 12) hx hb dX11_then_12 rfl (lv_at hl 3 rfl) ?_
      refine lv_iload (pc := 13) hx hb dX11_then_13 (lv_at hl 5 rfl) ?_
      refine lv_ishr (pc := 15) hx hb dX11_then_15 ?_
      refine lv_iconst (pc := 16) (v := (1 : Int32)) hx hb dX11_then_16 (by decide) ?_
      refine lv_iand (pc := 17) hx hb dX11_then_17 ?_
      refine lv_iconst (pc := 18) (v := (1 : Int32)) hx hb dX11_then_18 (by decide) ?_
      refine lv_icmp_ne (pc := 19) (tgt := 28) hx hb dX11_then_19 (by decide) (fun c_2 => ?_) (fun c_2 => ?_)
      · replace hw := hw.2 c_2
        refine lv_iload_n (pc := 28) hx hb dX11_then_28 rfl (lv_at hl 1 rfl) ?_
        refine lv_iload (pc := 29) hx hb dX11_then_29 (lv_at hl 5 rfl) ?_
        refine hCallI (pc := 31) (wr := [oX11 q m_kinds m_weighings m_spanLow m_spanHigh m_events m_days m_edges m_crew m_breakages, aI K (q 24) 4 m_plate, aI K (q 25) 4 m_plateFull, aI K (q 26) 4 m_wear, aI K (q 27) 4 m_least]) (wsf := fun (u : Unit) => []) [] [0, 1, 2, 3, 4] (va_runS (As := [.int x5]) (rest := [.int p1]) ⟨hx, hb, hml, hown, hts⟩ (c_X11_power9 l G K tb q H.size _ x5 hw) (va_cwS 1 hts gX11_then_X11_power9 rfl rfl rfl (by decide +kernel) ⟨Nat.le_of_ble_eq_true rfl, Nat.le_of_ble_eq_true rfl⟩) (hPreS hE hP hK hD hS hA [] (by decide) rfl rfl) rfl rfl hl.1 rfl (lv_room (Nat.le_of_ble_eq_true rfl)) dX11_then_31 ⟨Nat.zero_le _, Nat.zero_le _⟩) hP hD hS hA rfl rfl (by decide) (by decide) (fun r_3 u H locs hw hP hD hS => ?_)
        have hP : va_P G vwCl [oX11 q m_kinds m_weighings m_spanLow m_spanHigh m_events m_days m_edges m_crew m_breakages, aI K (q 24) 4 m_plate, aI K (q 25) 4 m_plateFull, aI K (q 26) 4 m_wear, aI K (q 27) 4 m_least] H := hP.sub [0, 1, 2, 3, 4] rfl
        have hD : va_D A [oX11 q m_kinds m_weighings m_spanLow m_spanHigh m_events m_days m_edges m_crew m_breakages, aI K (q 24) 4 m_plate, aI K (q 25) 4 m_plateFull, aI K (q 26) 4 m_wear, aI K (q 27) 4 m_least] := hD.sub [0, 1, 2, 3, 4] (by decide) rfl
        obtain ⟨h_4, hw⟩ := hw
        refine lv_idiv (pc := 34) hx hb dX11_then_34 h_4 ?_
        refine lv_bipush (pc := 35) (v := (9 : Int32)) hx hb dX11_then_35 (by decide) ?_
        refine lv_irem (pc := 37) hx hb dX11_then_37 (by decide) ?_
        exact hw _ _ _ hP hD hS (lv_sub hl [0, 1, 2, 3, 4, 5] rfl)
      · replace hw := hw.1 c_2
        refine lv_iload_n (pc := 22) hx hb dX11_then_22 rfl (lv_at hl 2 rfl) ?_
        refine lv_iconst (pc := 23) (v := (1 : Int32)) hx hb dX11_then_23 (by decide) ?_
        refine lv_iadd (pc := 24) hx hb dX11_then_24 ?_
        refine lv_goto (pc := 25) (tgt := 38) hx hb dX11_then_25 (by decide) ?_
        exact hw _ _ _ hP hD hS (lv_sub hl [0, 1, 2, 3, 4, 5] rfl))
  replace hw := hw (by
    intro x4 x5 s0 hw H locs ls hP hD hS hl
    refine lv_istore (pc := 38) (lv' := [(6, .int s0), (0, .ref (q 0)), (1, .int p1), (2, .int p2), (3, .int p3), (4, .int x4), (5, .int x5)]) hx hb dX11_then_38 hl (by decide) rfl (fun ls hl => ?_)
    refine lv_aload_n (pc := 40) hx hb dX11_then_40 rfl (lv_at hl 1 rfl) ?_
    refine lv_iload (pc := 41) hx hb dX11_then_41 (lv_at hl 6 rfl) ?_
    refine lv_iload_n (pc := 43) hx hb dX11_then_43 rfl (lv_at hl 3 rfl) ?_
    refine lv_iload (pc := 44) hx hb dX11_then_44 (lv_at hl 0 rfl) ?_
    refine hCallI (pc := 46) (wr := []) (wsf := fun (u : Unit) => [oX11 q m_kinds m_weighings m_spanLow m_spanHigh m_events m_days m_edges m_crew m_breakages, aI K (q 24) 4 m_plate, aI K (q 25) 4 m_plateFull, aI K (q 26) 4 m_wear, aI K (q 27) 4 m_least]) [0, 1, 2, 3, 4] [] (va_runV (As := [.int x5, .int p2, .int s0]) (rest := []) ⟨hx, hb, hml, hown, hts⟩ (c_X11_isGood l G K tb q H.size m_kinds m_weighings m_spanLow m_spanHigh m_events m_days m_edges m_crew m_breakages _ x5 p2 s0 m_plate m_plateFull m_wear m_least hw) (cwV 3 hts gX11_then_X11_isGood rfl rfl rfl (by decide +kernel) ⟨Nat.le_of_ble_eq_true rfl, Nat.le_of_ble_eq_true rfl⟩) (hPreV hE hP hK hD hS hA [0, 1, 2, 3, 4] (by decide) rfl rfl rfl rfl (q0 := 0) (ci := 11) rfl) rfl rfl hl.1 rfl (lv_room (Nat.le_of_ble_eq_true rfl)) dX11_then_46 ⟨Nat.zero_le _, Nat.zero_le _⟩) hP hD hS hA rfl rfl (by decide) (by decide) (fun r_5 u H locs hw hP hD hS => ?_)
    have hP : va_P G vwCl [oX11 q m_kinds m_weighings m_spanLow m_spanHigh m_events m_days m_edges m_crew m_breakages, aI K (q 24) 4 m_plate, aI K (q 25) 4 m_plateFull, aI K (q 26) 4 m_wear, aI K (q 27) 4 m_least] H := hP.sub [0, 1, 2, 3, 4] rfl
    have hD : va_D A [oX11 q m_kinds m_weighings m_spanLow m_spanHigh m_events m_days m_edges m_crew m_breakages, aI K (q 24) 4 m_plate, aI K (q 25) 4 m_plateFull, aI K (q 26) 4 m_wear, aI K (q 27) 4 m_least] := hD.sub [0, 1, 2, 3, 4] (by decide) rfl
    refine lv_if_ne (pc := 49) (tgt := 55) hx hb dX11_then_49 (by decide) (fun c_6 => ?_) (fun c_6 => ?_)
    · replace hw := hw.2 c_6
      refine lv_iload (pc := 55) hx hb dX11_then_55 (lv_at hl 5 rfl) ?_
      refine lv_iload (pc := 57) hx hb dX11_then_57 (lv_at hl 0 rfl) ?_
      refine lv_iload (pc := 59) hx hb dX11_then_59 (lv_at hl 6 rfl) ?_
      refine hCallI (pc := 61) (wr := [oX11 q m_kinds m_weighings m_spanLow m_spanHigh m_events m_days m_edges m_crew m_breakages, aI K (q 24) 4 m_plate, aI K (q 25) 4 m_plateFull, aI K (q 26) 4 m_wear, aI K (q 27) 4 m_least]) (wsf := fun (u : Unit) => []) [] [0, 1, 2, 3, 4] (va_runS (As := [.int x5]) (rest := [.int s0, .int x4]) ⟨hx, hb, hml, hown, hts⟩ (c_X11_power9 l G K tb q H.size _ x5 hw) (va_cwS 1 hts gX11_then_X11_power9 rfl rfl rfl (by decide +kernel) ⟨Nat.le_of_ble_eq_true rfl, Nat.le_of_ble_eq_true rfl⟩) (hPreS hE hP hK hD hS hA [] (by decide) rfl rfl) rfl rfl hl.1 rfl (lv_room (Nat.le_of_ble_eq_true rfl)) dX11_then_61 ⟨Nat.zero_le _, Nat.zero_le _⟩) hP hD hS hA rfl rfl (by decide) (by decide) (fun r_7 u H locs hw hP hD hS => ?_)
      have hP : va_P G vwCl [oX11 q m_kinds m_weighings m_spanLow m_spanHigh m_events m_days m_edges m_crew m_breakages, aI K (q 24) 4 m_plate, aI K (q 25) 4 m_plateFull, aI K (q 26) 4 m_wear, aI K (q 27) 4 m_least] H := hP.sub [0, 1, 2, 3, 4] rfl
      have hD : va_D A [oX11 q m_kinds m_weighings m_spanLow m_spanHigh m_events m_days m_edges m_crew m_breakages, aI K (q 24) 4 m_plate, aI K (q 25) 4 m_plateFull, aI K (q 26) 4 m_wear, aI K (q 27) 4 m_least] := hD.sub [0, 1, 2, 3, 4] (by decide) rfl
      refine lv_imul (pc := 64) hx hb dX11_then_64 ?_
      refine lv_iadd (pc := 65) hx hb dX11_then_65 ?_
      refine lv_topi (fun y_8 ey_8 => ?_)
      replace hw := hw y_8 ey_8
      refine lv_istore (pc := 66) (lv' := [(4, .int y_8), (6, .int s0), (0, .ref (q 0)), (1, .int p1), (2, .int p2), (3, .int p3), (5, .int x5)]) hx hb dX11_then_66 hl (by decide) rfl (fun ls hl => ?_)
      obtain ⟨y_9, ey_9⟩ : ∃ z : Int32, z = (x5 + (1 : Int32)) := ⟨_, rfl⟩
      replace hw := hw y_9 ey_9
      refine lv_iinc (pc := 68) (v := y_9) (lv' := [(5, .int y_9), (4, .int y_8), (6, .int s0), (0, .ref (q 0)), (1, .int p1), (2, .int p2), (3, .int p3)]) hx hb dX11_then_68 hl (k := 6) rfl (by rw [ey_9]; rfl) (by decide) rfl (fun ls hl => ?_)
      refine lv_goto (pc := 71) (tgt := 6) hx hb dX11_then_71 (by decide) ?_
      exact hw _ _ _ hP hD hS (lv_sub hl [3, 4, 5, 6, 1, 0] rfl)
    · replace hw := hw.1 c_6
      refine lv_bipush (pc := 52) (v := (-9 : Int32)) hx hb dX11_then_52 (by decide) ?_
      exact hRetI (S := Unit) () hx hb hr hlocks hQ hw hP hK hD hS dX11_then_54)
  refine lv_iconst (pc := 0) (v := (0 : Int32)) hx hb dX11_then_0 (by decide) ?_
  refine lv_istore (pc := 1) (lv' := [(4, .int (0 : Int32)), (0, .ref (q 0)), (1, .int p1), (2, .int p2), (3, .int p3)]) hx hb dX11_then_1 hl (by decide) rfl (fun ls hl => ?_)
  refine lv_iconst (pc := 3) (v := (0 : Int32)) hx hb dX11_then_3 (by decide) ?_
  refine lv_istore (pc := 4) (lv' := [(5, .int (0 : Int32)), (4, .int (0 : Int32)), (0, .ref (q 0)), (1, .int p1), (2, .int p2), (3, .int p3)]) hx hb dX11_then_4 hl (by decide) rfl (fun ls hl => ?_)
  exact hw _ _ _ hP hD hS (lv_sub hl [2, 3, 4, 5, 1, 0] rfl)
def P_X11_layPlan (post : (Nat → Int32) → Prop) (p1 : Int32) (m_plate : Nat → Int32) (m_plateFull : Nat → Int32) (m_wear : Nat → Int32) (m_least : Nat → Int32) (m_crew : Int32) (m_fewest : Nat → Int32) : Prop :=
  ∀ (X2 : Int32 → (Nat → Int32) → Prop),
  ∀ (X32 : Int32 → (Nat → Int32) → Prop),
  ∀ (X38 : Int32 → Int32 → (Nat → Int32) → Prop),
  ∀ (X52 : Int32 → Int32 → Int32 → Int32 → (Nat → Int32) → Prop),
  ∀ (X84 : Int32 → Int32 → Int32 → Int32 → Int32 → (Nat → Int32) → Prop),
  (∀ (x2 : Int32) (m_fewest : Nat → Int32), ((((6561 : Int32) ≤ x2 → ∀ y_2 : Int32, y_2 = (p1 - (1 : Int32)) → X32 y_2 m_fewest) ∧ (¬ (6561 : Int32) ≤ x2 → vp_in (((6561 : Int32) * p1) + x2) 59049 ∧ ∀ m_fewest_4 : Nat → Int32, m_fewest_4 = upd m_fewest (((6561 : Int32) * p1) + x2).toNatClampNeg (0 : Int32) → ∀ y_5 : Int32, y_5 = (x2 + (1 : Int32)) → X2 y_5 m_fewest_4))) → X2 x2 m_fewest) →
  (∀ (x2 : Int32) (m_fewest : Nat → Int32), (((x2 < (0 : Int32) → post m_fewest) ∧ (¬ x2 < (0 : Int32) → X38 x2 (0 : Int32) m_fewest))) → X32 x2 m_fewest) →
  (∀ (x2 : Int32) (x3 : Int32) (m_fewest : Nat → Int32), ((((6561 : Int32) ≤ x3 → ∀ y_8 : Int32, y_8 = (x2 + (-1 : Int32)) → X32 y_8 m_fewest) ∧ (¬ (6561 : Int32) ≤ x3 → X52 x2 x3 (1000000 : Int32) (0 : Int32) m_fewest))) → X38 x2 x3 m_fewest) →
  (∀ (x2 : Int32) (x3 : Int32) (x4 : Int32) (x5 : Int32) (m_fewest : Nat → Int32), ((((16 : Int32) ≤ x5 → vp_in (((6561 : Int32) * x2) + x3) 59049 ∧ ∀ m_fewest_11 : Nat → Int32, m_fewest_11 = upd m_fewest (((6561 : Int32) * x2) + x3).toNatClampNeg x4 → ∀ y_12 : Int32, y_12 = (x3 + (1 : Int32)) → X38 x2 y_12 m_fewest_11) ∧ (¬ (16 : Int32) ≤ x5 → P_X11_ones (fun r_13 => ((m_crew < r_13 → X84 x2 x3 x4 x5 (-9 : Int32) m_fewest) ∧ (¬ m_crew < r_13 → P_X11_then (fun r_15 => X84 x2 x3 x4 x5 r_15 m_fewest) x3 x2 x5 m_plate m_plateFull m_wear m_least))) x5))) → X52 x2 x3 x4 x5 m_fewest) →
  (∀ (x2 : Int32) (x3 : Int32) (x4 : Int32) (x5 : Int32) (s0 : Int32) (m_fewest : Nat → Int32), (((s0 = (-9 : Int32) → ∀ v_24 : Int32, v_24 = (if x4 ≤ (1000000 : Int32) then x4 else (1000000 : Int32)) → ∀ y_25 : Int32, y_25 = (x5 + (1 : Int32)) → X52 x2 x3 v_24 y_25 m_fewest) ∧ (¬ s0 = (-9 : Int32) → P_X11_ones (fun r_17 => vp_in ((((6561 : Int32) * x2) + (6561 : Int32)) + s0) 59049 ∧ ∀ y_19 : Int32, y_19 = (r_17 + (m_fewest ((((6561 : Int32) * x2) + (6561 : Int32)) + s0).toNatClampNeg)) → ∀ v_21 : Int32, v_21 = (if x4 ≤ y_19 then x4 else y_19) → ∀ y_22 : Int32, y_22 = (x5 + (1 : Int32)) → X52 x2 x3 v_21 y_22 m_fewest) x5))) → X84 x2 x3 x4 x5 s0 m_fewest) →
  X2 (0 : Int32) m_fewest
abbrev rm_X11_layPlan : Room := { frames := 2, cells := 0, slots := 0, locals := 51 }
theorem iw_X11_layPlan_X11 : ∀ w ∈ wsX110, w ∈ wsX11_layPlan := by decide +kernel
set_option maxHeartbeats 4000000 in
set_option maxRecDepth 100000 in
theorem c_X11_layPlan (l : Launch) (G : va_G) (K : ClassId × ClassId × ClassId) (tb q : Nat → Nat) (sz : Nat) (m_kinds : Int32) (m_weighings : Int32) (m_spanLow : Int32) (m_spanHigh : Int32) (m_events : Int32) (m_days : Int32) (m_edges : Int32) (m_breakages : Int32) (post : (Nat → Int32) → Prop) (p1 : Int32) (m_plate : Nat → Int32) (m_plateFull : Nat → Int32) (m_wear : Nat → Int32) (m_least : Nat → Int32) (m_crew : Int32) (m_fewest : Nat → Int32) (hw : P_X11_layPlan post p1 m_plate m_plateFull m_wear m_least m_crew m_fewest) : Met l yX11_layPlan wsX11_layPlan rm_X11_layPlan (va_Pc [.ref (q 0), .int p1] (hPre G K tb [oX11 q m_kinds m_weighings m_spanLow m_spanHigh m_events m_days m_edges m_crew m_breakages, aI K (q 24) 4 m_plate, aI K (q 25) 4 m_plateFull, aI K (q 26) 4 m_wear, aI K (q 27) 4 m_least, aI K (q 28) 59049 m_fewest] sz)) (va_Qv (fun (u : (Nat → Int32)) => post u) (fun u => hB G K (va_A [oX11 q m_kinds m_weighings m_spanLow m_spanHigh m_events m_days m_edges m_crew m_breakages, aI K (q 24) 4 m_plate, aI K (q 25) 4 m_plateFull, aI K (q 26) 4 m_wear, aI K (q 27) 4 m_least, aI K (q 28) 59049 m_fewest] sz) [oX11 q m_kinds m_weighings m_spanLow m_spanHigh m_events m_days m_edges m_crew m_breakages, aI K (q 24) 4 m_plate, aI K (q 25) 4 m_plateFull, aI K (q 26) 4 m_wear, aI K (q 27) 4 m_least, aI K (q 28) 59049 u]) (va_A [oX11 q m_kinds m_weighings m_spanLow m_spanHigh m_events m_days m_edges m_crew m_breakages, aI K (q 24) 4 m_plate, aI K (q 25) 4 m_plateFull, aI K (q 26) 4 m_wear, aI K (q 27) 4 m_least, aI K (q 28) 59049 m_fewest] sz)) 0 0 (va_A [oX11 q m_kinds m_weighings m_spanLow m_spanHigh m_events m_days m_edges m_crew m_breakages, aI K (q 24) 4 m_plate, aI K (q 25) 4 m_plateFull, aI K (q 26) 4 m_wear, aI K (q 27) 4 m_least, aI K (q 28) 59049 m_fewest] sz) := by
  refine hMet (fun A => va_Qv (fun (u : (Nat → Int32)) => post u) (fun u => hB G K A [oX11 q m_kinds m_weighings m_spanLow m_spanHigh m_events m_days m_edges m_crew m_breakages, aI K (q 24) 4 m_plate, aI K (q 25) 4 m_plateFull, aI K (q 26) 4 m_wear, aI K (q 27) 4 m_least, aI K (q 28) 59049 u]) A) (by decide) rfl (Nat.le_of_ble_eq_true rfl) ?_
  intro p e s m av below meth c A Q ls hx hb hr hml hts hown hlocks hnm hA hP hK hD hS hE hQ hl
  have hts : ∀ w ∈ wsX11_layPlan, w.before av s = true := hts
  have hown : s.vm.findClass RX11 = some m.cls := hown
  have hl : lv_has ls 8 [(0, .ref (q 0)), (1, .int p1)] := hl
  unfold P_X11_layPlan at hw
  replace hw := hw (fun (x2 : Int32) (m_fewest : Nat → Int32) => ∀ (H : Heap) (locs : List Loc) (ls : Array Slot), va_P G vwCl [oX11 q m_kinds m_weighings m_spanLow m_spanHigh m_events m_days m_edges m_crew m_breakages, aI K (q 24) 4 m_plate, aI K (q 25) 4 m_plateFull, aI K (q 26) 4 m_wear, aI K (q 27) 4 m_least, aI K (q 28) 59049 m_fewest] H → va_D A [oX11 q m_kinds m_weighings m_spanLow m_spanHigh m_events m_days m_edges m_crew m_breakages, aI K (q 24) 4 m_plate, aI K (q 25) 4 m_plateFull, aI K (q 26) 4 m_wear, aI K (q 27) 4 m_least, aI K (q 28) 59049 m_fewest] → va_S A s.heap H locs → lv_has ls 8 [(0, .ref (q 0)), (1, .int p1), (2, .int x2)] → W p l e rm_X11_layPlan s m av below meth c H locs 0 0 Q (F0 m 2 ls []))
  replace hw := hw (fun (x2 : Int32) (m_fewest : Nat → Int32) => ∀ (H : Heap) (locs : List Loc) (ls : Array Slot), va_P G vwCl [oX11 q m_kinds m_weighings m_spanLow m_spanHigh m_events m_days m_edges m_crew m_breakages, aI K (q 24) 4 m_plate, aI K (q 25) 4 m_plateFull, aI K (q 26) 4 m_wear, aI K (q 27) 4 m_least, aI K (q 28) 59049 m_fewest] H → va_D A [oX11 q m_kinds m_weighings m_spanLow m_spanHigh m_events m_days m_edges m_crew m_breakages, aI K (q 24) 4 m_plate, aI K (q 25) 4 m_plateFull, aI K (q 26) 4 m_wear, aI K (q 27) 4 m_least, aI K (q 28) 59049 m_fewest] → va_S A s.heap H locs → lv_has ls 8 [(0, .ref (q 0)), (2, .int x2)] → W p l e rm_X11_layPlan s m av below meth c H locs 0 0 Q (F0 m 32 ls []))
  replace hw := hw (fun (x2 : Int32) (x3 : Int32) (m_fewest : Nat → Int32) => ∀ (H : Heap) (locs : List Loc) (ls : Array Slot), va_P G vwCl [oX11 q m_kinds m_weighings m_spanLow m_spanHigh m_events m_days m_edges m_crew m_breakages, aI K (q 24) 4 m_plate, aI K (q 25) 4 m_plateFull, aI K (q 26) 4 m_wear, aI K (q 27) 4 m_least, aI K (q 28) 59049 m_fewest] H → va_D A [oX11 q m_kinds m_weighings m_spanLow m_spanHigh m_events m_days m_edges m_crew m_breakages, aI K (q 24) 4 m_plate, aI K (q 25) 4 m_plateFull, aI K (q 26) 4 m_wear, aI K (q 27) 4 m_least, aI K (q 28) 59049 m_fewest] → va_S A s.heap H locs → lv_has ls 8 [(0, .ref (q 0)), (2, .int x2), (3, .int x3)] → W p l e rm_X11_layPlan s m av below meth c H locs 0 0 Q (F0 m 38 ls []))
  replace hw := hw (fun (x2 : Int32) (x3 : Int32) (x4 : Int32) (x5 : Int32) (m_fewest : Nat → Int32) => ∀ (H : Heap) (locs : List Loc) (ls : Array Slot), va_P G vwCl [oX11 q m_kinds m_weighings m_spanLow m_spanHigh m_events m_days m_edges m_crew m_breakages, aI K (q 24) 4 m_plate, aI K (q 25) 4 m_plateFull, aI K (q 26) 4 m_wear, aI K (q 27) 4 m_least, aI K (q 28) 59049 m_fewest] H → va_D A [oX11 q m_kinds m_weighings m_spanLow m_spanHigh m_events m_days m_edges m_crew m_breakages, aI K (q 24) 4 m_plate, aI K (q 25) 4 m_plateFull, aI K (q 26) 4 m_wear, aI K (q 27) 4 m_least, aI K (q 28) 59049 m_fewest] → va_S A s.heap H locs → lv_has ls 8 [(0, .ref (q 0)), (2, .int x2), (3, .int x3), (4, .int x4), (5, .int x5)] → W p l e rm_X11_layPlan s m av below meth c H locs 0 0 Q (F0 m 52 ls []))
  replace hw := hw (fun (x2 : Int32) (x3 : Int32) (x4 : Int32) (x5 : Int32) (s0 : Int32) (m_fewest : Nat → Int32) => ∀ (H : Heap) (locs : List Loc) (ls : Array Slot), va_P G vwCl [oX11 q m_kinds m_weighings m_spanLow m_spanHigh m_events m_days m_edges m_crew m_breakages, aI K (q 24) 4 m_plate, aI K (q 25) 4 m_plateFull, aI K (q 26) 4 m_wear, aI K (q 27) 4 m_least, aI K (q 28) 59049 m_fewest] H → va_D A [oX11 q m_kinds m_weighings m_spanLow m_spanHigh m_events m_days m_edges m_crew m_breakages, aI K (q 24) 4 m_plate, aI K (q 25) 4 m_plateFull, aI K (q 26) 4 m_wear, aI K (q 27) 4 m_least, aI K (q 28) 59049 m_fewest] → va_S A s.heap H locs → lv_has ls 8 [(0, .ref (q 0)), (2, .int x2), (3, .int x3), (4, .int x4), (5, .int x5)] → W p l e rm_X11_layPlan s m av below meth c H locs 0 0 Q (F0 m 84 ls [.int s0]))
  replace hw := hw (by
    intro x2 m_fewest hw H locs ls hP hD hS hl
    refine lv_iload_n (pc := 2) hx hb dX11_layPlan_2 rfl (lv_at hl 2 rfl) ?_
    refine lv_sipush (pc := 3) (v := (6561 : Int32)) hx hb dX11_layPlan_3 (by decide) ?_
    refine lv_icmp_ge (pc := 6) (tgt := 28) hx hb dX11_layPlan_6 (by decide) (fun c_1 => ?_) (fun c_1 => ?_)
    · replace hw := hw.1 c_1
      refine lv_iload_n (pc := 28) hx hb dX11_layPlan_28 rfl (lv_at hl 1 rfl) ?_
      refine lv_iconst (pc := 29) (v := (1 : Int32)) hx hb dX11_layPlan_29 (by decide) ?_
      refine lv_isub (pc := 30) hx hb dX11_layPlan_30 ?_
      refine lv_topi (fun y_2 ey_2 => ?_)
      replace hw := hw y_2 ey_2
      refine lv_istore_n (pc := 31) (lv' := [(2, .int y_2), (0, .ref (q 0)), (1, .int p1)]) hx hb dX11_layPlan_31 rfl hl (by decide) rfl (fun ls hl => ?_)
      exact hw _ _ _ hP hD hS (lv_sub hl [1, 0] rfl)
    · replace hw := hw.2 c_1
      refine lv_aload_n (pc := 9) hx hb dX11_layPlan_9 rfl (lv_at hl 0 rfl) ?_
      refine va_get (pc := 10) (D := G) (ci := 11) (v := .ref (q 28)) (C := RX11) (T := TX11) (N := 45) hx hb hts iw_X11_layPlan_X11 hown hK hP 0 rfl rfl 35 (by decide) (hts _ (List.mem_of_getElem? (i := 1) rfl)) (fun _ h9 => h9) rfl dX11_layPlan_10 ?_
      refine lv_sipush (pc := 13) (v := (6561 : Int32)) hx hb dX11_layPlan_13 (by decide) ?_
      refine lv_iload_n (pc := 16) hx hb dX11_layPlan_16 rfl (lv_at hl 1 rfl) ?_
      refine lv_imul (pc := 17) hx hb dX11_layPlan_17 ?_
      refine lv_iload_n (pc := 18) hx hb dX11_layPlan_18 rfl (lv_at hl 2 rfl) ?_
      refine lv_iadd (pc := 19) hx hb dX11_layPlan_19 ?_
      refine lv_iconst (pc := 20) (v := (0 : Int32)) hx hb dX11_layPlan_20 (by decide) ?_
      obtain ⟨h_3, hw⟩ := hw
      refine va_iast (pc := 21) hx hb hK hP hD hS 5 0 rfl rfl h_3 dX11_layPlan_21 (fun H locs hP hD hS => ?_)
      obtain ⟨m_fewest_4, em_fewest_4⟩ : ∃ z : Nat → Int32, z = upd m_fewest (((6561 : Int32) * p1) + x2).toNatClampNeg (0 : Int32) := ⟨_, rfl⟩
      have hP : va_P G vwCl [oX11 q m_kinds m_weighings m_spanLow m_spanHigh m_events m_days m_edges m_crew m_breakages, aI K (q 24) 4 m_plate, aI K (q 25) 4 m_plateFull, aI K (q 26) 4 m_wear, aI K (q 27) 4 m_least, aI K (q 28) 59049 m_fewest_4] H := by rw [em_fewest_4]; exact hP
      have hD : va_D A [oX11 q m_kinds m_weighings m_spanLow m_spanHigh m_events m_days m_edges m_crew m_breakages, aI K (q 24) 4 m_plate, aI K (q 25) 4 m_plateFull, aI K (q 26) 4 m_wear, aI K (q 27) 4 m_least, aI K (q 28) 59049 m_fewest_4] := by rw [em_fewest_4]; exact hD
      replace hw := hw m_fewest_4 em_fewest_4
      obtain ⟨y_5, ey_5⟩ : ∃ z : Int32, z = (x2 + (1 : Int32)) := ⟨_, rfl⟩
      replace hw := hw y_5 ey_5
      refine lv_iinc (pc := 22) (v := y_5) (lv' := [(2, .int y_5), (0, .ref (q 0)), (1, .int p1)]) hx hb dX11_layPlan_22 hl (k := 2) rfl (by rw [ey_5]; rfl) (by decide) rfl (fun ls hl => ?_)
      refine lv_goto (pc := 25) (tgt := 2) hx hb dX11_layPlan_25 (by decide) ?_
      exact hw _ _ _ hP hD hS (lv_sub hl [1, 2, 0] rfl))
  replace hw := hw (by
    intro x2 m_fewest hw H locs ls hP hD hS hl
    refine lv_iload_n (pc := 32) hx hb dX11_layPlan_32 rfl (lv_at hl 1 rfl) ?_
    refine lv_if_lt (pc := 33) (tgt := 171) hx hb dX11_layPlan_33 (by decide) (fun c_6 => ?_) (fun c_6 => ?_)
    · replace hw := hw.1 c_6
      exact hRetV (S := (Nat → Int32)) m_fewest hx hb hr hlocks hQ hw hP hK hD hS dX11_layPlan_171
    · replace hw := hw.2 c_6
      refine lv_iconst (pc := 36) (v := (0 : Int32)) hx hb dX11_layPlan_36 (by decide) ?_
      refine lv_istore_n (pc := 37) (lv' := [(3, .int (0 : Int32)), (0, .ref (q 0)), (2, .int x2)]) hx hb dX11_layPlan_37 rfl hl (by decide) rfl (fun ls hl => ?_)
      exact hw _ _ _ hP hD hS (lv_sub hl [1, 2, 0] rfl))
  replace hw := hw (by
    intro x2 x3 m_fewest hw H locs ls hP hD hS hl
    refine lv_iload_n (pc := 38) hx hb dX11_layPlan_38 rfl (lv_at hl 2 rfl) ?_
    refine lv_sipush (pc := 39) (v := (6561 : Int32)) hx hb dX11_layPlan_39 (by decide) ?_
    refine lv_icmp_ge (pc := 42) (tgt := 165) hx hb dX11_layPlan_42 (by decide) (fun c_7 => ?_) (fun c_7 => ?_)
    · replace hw := hw.1 c_7
      obtain ⟨y_8, ey_8⟩ : ∃ z : Int32, z = (x2 + (-1 : Int32)) := ⟨_, rfl⟩
      replace hw := hw y_8 ey_8
      refine lv_iinc (pc := 165) (v := y_8) (lv' := [(2, .int y_8), (0, .ref (q 0)), (3, .int x3)]) hx hb dX11_layPlan_165 hl (k := 1) rfl (by rw [ey_8]; rfl) (by decide) rfl (fun ls hl => ?_)
      refine lv_goto (pc := 168) (tgt := 32) hx hb dX11_layPlan_168 (by decide) ?_
      exact hw _ _ _ hP hD hS (lv_sub hl [1, 0] rfl)
    · replace hw := hw.2 c_7
      refine lv_ldc (pc := 45) (v := (1000000 : Int32)) hx hb hown (hts _ (List.mem_of_getElem? (i := 2) rfl)) dX11_layPlan_45 ?_
      refine lv_istore (pc := 47) (lv' := [(4, .int (1000000 : Int32)), (0, .ref (q 0)), (2, .int x2), (3, .int x3)]) hx hb dX11_layPlan_47 hl (by decide) rfl (fun ls hl => ?_)
      refine lv_iconst (pc := 49) (v := (0 : Int32)) hx hb dX11_layPlan_49 (by decide) ?_
      refine lv_istore (pc := 50) (lv' := [(5, .int (0 : Int32)), (4, .int (1000000 : Int32)), (0, .ref (q 0)), (2, .int x2), (3, .int x3)]) hx hb dX11_layPlan_50 hl (by decide) rfl (fun ls hl => ?_)
      exact hw _ _ _ hP hD hS (lv_sub hl [2, 3, 4, 1, 0] rfl))
  replace hw := hw (by
    intro x2 x3 x4 x5 m_fewest hw H locs ls hP hD hS hl
    refine lv_iload (pc := 52) hx hb dX11_layPlan_52 (lv_at hl 4 rfl) ?_
    refine lv_bipush (pc := 54) (v := (16 : Int32)) hx hb dX11_layPlan_54 (by decide) ?_
    refine lv_icmp_ge (pc := 56) (tgt := 145) hx hb dX11_layPlan_56 (by decide) (fun c_9 => ?_) (fun c_9 => ?_)
    · replace hw := hw.1 c_9
      refine lv_aload_n (pc := 145) hx hb dX11_layPlan_145 rfl (lv_at hl 0 rfl) ?_
      refine va_get (pc := 146) (D := G) (ci := 11) (v := .ref (q 28)) (C := RX11) (T := TX11) (N := 45) hx hb hts iw_X11_layPlan_X11 hown hK hP 0 rfl rfl 35 (by decide) (hts _ (List.mem_of_getElem? (i := 1) rfl)) (fun _ h9 => h9) rfl dX11_layPlan_146 ?_
      refine lv_sipush (pc := 149) (v := (6561 : Int32)) hx hb dX11_layPlan_149 (by decide) ?_
      refine lv_iload_n (pc := 152) hx hb dX11_layPlan_152 rfl (lv_at hl 1 rfl) ?_
      refine lv_imul (pc := 153) hx hb dX11_layPlan_153 ?_
      refine lv_iload_n (pc := 154) hx hb dX11_layPlan_154 rfl (lv_at hl 2 rfl) ?_
      refine lv_iadd (pc := 155) hx hb dX11_layPlan_155 ?_
      refine lv_iload (pc := 156) hx hb dX11_layPlan_156 (lv_at hl 3 rfl) ?_
      obtain ⟨h_10, hw⟩ := hw
      refine va_iast (pc := 158) hx hb hK hP hD hS 5 0 rfl rfl h_10 dX11_layPlan_158 (fun H locs hP hD hS => ?_)
      obtain ⟨m_fewest_11, em_fewest_11⟩ : ∃ z : Nat → Int32, z = upd m_fewest (((6561 : Int32) * x2) + x3).toNatClampNeg x4 := ⟨_, rfl⟩
      have hP : va_P G vwCl [oX11 q m_kinds m_weighings m_spanLow m_spanHigh m_events m_days m_edges m_crew m_breakages, aI K (q 24) 4 m_plate, aI K (q 25) 4 m_plateFull, aI K (q 26) 4 m_wear, aI K (q 27) 4 m_least, aI K (q 28) 59049 m_fewest_11] H := by rw [em_fewest_11]; exact hP
      have hD : va_D A [oX11 q m_kinds m_weighings m_spanLow m_spanHigh m_events m_days m_edges m_crew m_breakages, aI K (q 24) 4 m_plate, aI K (q 25) 4 m_plateFull, aI K (q 26) 4 m_wear, aI K (q 27) 4 m_least, aI K (q 28) 59049 m_fewest_11] := by rw [em_fewest_11]; exact hD
      replace hw := hw m_fewest_11 em_fewest_11
      obtain ⟨y_12, ey_12⟩ : ∃ z : Int32, z = (x3 + (1 : Int32)) := ⟨_, rfl⟩
      replace hw := hw y_12 ey_12
      refine lv_iinc (pc := 159) (v := y_12) (lv' := [(3, .int y_12), (0, .ref (q 0)), (2, .int x2), (4, .int x4), (5, .int x5)]) hx hb dX11_layPlan_159 hl (k := 2) rfl (by rw [ey_12]; rfl) (by decide) rfl (fun ls hl => ?_)
      refine lv_goto (pc := 162) (tgt := 38) hx hb dX11_layPlan_162 (by decide) ?_
      exact hw _ _ _ hP hD hS (lv_sub hl [1, 2, 0] rfl)
    · replace hw := hw.2 c_9
      refine lv_iload (pc := 59) hx hb dX11_layPlan_59 (lv_at hl 4 rfl) ?_
      refine hCallI (pc := 61) (wr := [oX11 q m_kinds m_weighings m_spanLow m_spanHigh m_events m_days m_edges m_crew m_breakages, aI K (q 24) 4 m_plate, aI K (q 25) 4 m_plateFull, aI K (q 26) 4 m_wear, aI K (q 27) 4 m_least, aI K (q 28) 59049 m_fewest]) (wsf := fun (u : Unit) => []) [] [0, 1, 2, 3, 4, 5] (va_runS (As := [.int x5]) (rest := []) ⟨hx, hb, hml, hown, hts⟩ (c_X11_ones l G K tb q H.size _ x5 hw) (va_cwS 1 hts gX11_layPlan_X11_ones rfl rfl rfl (by decide +kernel) ⟨Nat.le_of_ble_eq_true rfl, Nat.le_of_ble_eq_true rfl⟩) (hPreS hE hP hK hD hS hA [] (by decide) rfl rfl) rfl rfl hl.1 rfl (lv_room (Nat.le_of_ble_eq_true rfl)) dX11_layPlan_61 ⟨Nat.zero_le _, Nat.zero_le _⟩) hP hD hS hA rfl rfl (by decide) (by decide) (fun r_13 u H locs hw hP hD hS => ?_)
      have hP : va_P G vwCl [oX11 q m_kinds m_weighings m_spanLow m_spanHigh m_events m_days m_edges m_crew m_breakages, aI K (q 24) 4 m_plate, aI K (q 25) 4 m_plateFull, aI K (q 26) 4 m_wear, aI K (q 27) 4 m_least, aI K (q 28) 59049 m_fewest] H := hP.sub [0, 1, 2, 3, 4, 5] rfl
      have hD : va_D A [oX11 q m_kinds m_weighings m_spanLow m_spanHigh m_events m_days m_edges m_crew m_breakages, aI K (q 24) 4 m_plate, aI K (q 25) 4 m_plateFull, aI K (q 26) 4 m_wear, aI K (q 27) 4 m_least, aI K (q 28) 59049 m_fewest] := hD.sub [0, 1, 2, 3, 4, 5] (by decide) rfl
      refine lv_aload_n (pc := 64) hx hb dX11_layPlan_64 rfl (lv_at hl 0 rfl) ?_
      refine va_get (pc := 65) (D := G) (ci := 11) (v := .int m_crew) (C := RX11) (T := TX11) (N := 45) hx hb hts iw_X11_layPlan_X11 hown hK hP 0 rfl rfl 34 (by decide) (hts _ (List.mem_of_getElem? (i := 3) rfl)) (fun _ h9 => h9) rfl dX11_layPlan_65 ?_
      refine lv_icmp_gt (pc := 68) (tgt := 82) hx hb dX11_layPlan_68 (by decide) (fun c_14 => ?_) (fun c_14 => ?_)
      · replace hw := hw.1 c_14
        refine lv_bipush (pc := 82) (v := (-9 : Int32)) hx hb dX11_layPlan_82 (by decide) ?_
        exact hw _ _ _ hP hD hS (lv_sub hl [0, 1, 2, 3, 4] rfl)
      · replace hw := hw.2 c_14
        refine lv_aload_n (pc := 71) hx hb dX11_layPlan_71 rfl (lv_at hl 0 rfl) ?_
        refine lv_iload_n (pc := 72) hx hb dX11_layPlan_72 rfl (lv_at hl 2 rfl) ?_
        refine lv_iload_n (pc := 73) hx hb dX11_layPlan_73 rfl (lv_at hl 1 rfl) ?_
        refine lv_iload (pc := 74) hx hb dX11_layPlan_74 (lv_at hl 4 rfl) ?_
        refine hCallI (pc := 76) (wr := [aI K (q 28) 59049 m_fewest]) (wsf := fun (u : Unit) => [oX11 q m_kinds m_weighings m_spanLow m_spanHigh m_events m_days m_edges m_crew m_breakages, aI K (q 24) 4 m_plate, aI K (q 25) 4 m_plateFull, aI K (q 26) 4 m_wear, aI K (q 27) 4 m_least]) [0, 1, 2, 3, 4] [5] (va_runV (As := [.int x3, .int x2, .int x5]) (rest := []) ⟨hx, hb, hml, hown, hts⟩ (c_X11_then l G K tb q H.size m_kinds m_weighings m_spanLow m_spanHigh m_events m_days m_edges m_crew m_breakages _ x3 x2 x5 m_plate m_plateFull m_wear m_least hw) (cwV 3 hts gX11_layPlan_X11_then rfl rfl rfl (by decide +kernel) ⟨Nat.le_of_ble_eq_true rfl, Nat.le_of_ble_eq_true rfl⟩) (hPreV hE hP hK hD hS hA [0, 1, 2, 3, 4] (by decide) rfl rfl rfl rfl (q0 := 0) (ci := 11) rfl) rfl rfl hl.1 rfl (lv_room (Nat.le_of_ble_eq_true rfl)) dX11_layPlan_76 ⟨Nat.zero_le _, Nat.zero_le _⟩) hP hD hS hA rfl rfl (by decide) (by decide) (fun r_15 u H locs hw hP hD hS => ?_)
        have hP : va_P G vwCl [oX11 q m_kinds m_weighings m_spanLow m_spanHigh m_events m_days m_edges m_crew m_breakages, aI K (q 24) 4 m_plate, aI K (q 25) 4 m_plateFull, aI K (q 26) 4 m_wear, aI K (q 27) 4 m_least, aI K (q 28) 59049 m_fewest] H := hP.sub [1, 2, 3, 4, 5, 0] rfl
        have hD : va_D A [oX11 q m_kinds m_weighings m_spanLow m_spanHigh m_events m_days m_edges m_crew m_breakages, aI K (q 24) 4 m_plate, aI K (q 25) 4 m_plateFull, aI K (q 26) 4 m_wear, aI K (q 27) 4 m_least, aI K (q 28) 59049 m_fewest] := hD.sub [1, 2, 3, 4, 5, 0] (by decide) rfl
        refine lv_goto (pc := 79) (tgt := 84) hx hb dX11_layPlan_79 (by decide) ?_
        exact hw _ _ _ hP hD hS (lv_sub hl [0, 1, 2, 3, 4] rfl))
  replace hw := hw (by
    intro x2 x3 x4 x5 s0 m_fewest hw H locs ls hP hD hS hl
    refine lv_istore (pc := 84) (lv' := [(6, .int s0), (0, .ref (q 0)), (2, .int x2), (3, .int x3), (4, .int x4), (5, .int x5)]) hx hb dX11_layPlan_84 hl (by decide) rfl (fun ls hl => ?_)
    refine lv_iload (pc := 86) hx hb dX11_layPlan_86 (lv_at hl 0 rfl) ?_
    refine lv_bipush (pc := 88) (v := (-9 : Int32)) hx hb dX11_layPlan_88 (by decide) ?_
    refine lv_icmp_ne (pc := 90) (tgt := 98) hx hb dX11_layPlan_90 (by decide) (fun c_16 => ?_) (fun c_16 => ?_)
    · replace hw := hw.2 c_16
      refine lv_iload (pc := 98) hx hb dX11_layPlan_98 (lv_at hl 5 rfl) ?_
      refine hCallI (pc := 100) (wr := [oX11 q m_kinds m_weighings m_spanLow m_spanHigh m_events m_days m_edges m_crew m_breakages, aI K (q 24) 4 m_plate, aI K (q 25) 4 m_plateFull, aI K (q 26) 4 m_wear, aI K (q 27) 4 m_least, aI K (q 28) 59049 m_fewest]) (wsf := fun (u : Unit) => []) [] [0, 1, 2, 3, 4, 5] (va_runS (As := [.int x5]) (rest := []) ⟨hx, hb, hml, hown, hts⟩ (c_X11_ones l G K tb q H.size _ x5 hw) (va_cwS 1 hts gX11_layPlan_X11_ones rfl rfl rfl (by decide +kernel) ⟨Nat.le_of_ble_eq_true rfl, Nat.le_of_ble_eq_true rfl⟩) (hPreS hE hP hK hD hS hA [] (by decide) rfl rfl) rfl rfl hl.1 rfl (lv_room (Nat.le_of_ble_eq_true rfl)) dX11_layPlan_100 ⟨Nat.zero_le _, Nat.zero_le _⟩) hP hD hS hA rfl rfl (by decide) (by decide) (fun r_17 u H locs hw hP hD hS => ?_)
      have hP : va_P G vwCl [oX11 q m_kinds m_weighings m_spanLow m_spanHigh m_events m_days m_edges m_crew m_breakages, aI K (q 24) 4 m_plate, aI K (q 25) 4 m_plateFull, aI K (q 26) 4 m_wear, aI K (q 27) 4 m_least, aI K (q 28) 59049 m_fewest] H := hP.sub [0, 1, 2, 3, 4, 5] rfl
      have hD : va_D A [oX11 q m_kinds m_weighings m_spanLow m_spanHigh m_events m_days m_edges m_crew m_breakages, aI K (q 24) 4 m_plate, aI K (q 25) 4 m_plateFull, aI K (q 26) 4 m_wear, aI K (q 27) 4 m_least, aI K (q 28) 59049 m_fewest] := hD.sub [0, 1, 2, 3, 4, 5] (by decide) rfl
      refine lv_aload_n (pc := 103) hx hb dX11_layPlan_103 rfl (lv_at hl 1 rfl) ?_
      refine va_get (pc := 104) (D := G) (ci := 11) (v := .ref (q 28)) (C := RX11) (T := TX11) (N := 45) hx hb hts iw_X11_layPlan_X11 hown hK hP 0 rfl rfl 35 (by decide) (hts _ (List.mem_of_getElem? (i := 1) rfl)) (fun _ h9 => h9) rfl dX11_layPlan_104 ?_
      refine lv_sipush (pc := 107) (v := (6561 : Int32)) hx hb dX11_layPlan_107 (by decide) ?_
      refine lv_iload_n (pc := 110) hx hb dX11_layPlan_110 rfl (lv_at hl 2 rfl) ?_
      refine lv_imul (pc := 111) hx hb dX11_layPlan_111 ?_
      refine lv_sipush (pc := 112) (v := (6561 : Int32)) hx hb dX11_layPlan_112 (by decide) ?_
      refine lv_iadd (pc := 115) hx hb dX11_layPlan_115 ?_
      refine lv_iload (pc := 116) hx hb dX11_layPlan_116 (lv_at hl 0 rfl) ?_
      refine lv_iadd (pc := 118) hx hb dX11_layPlan_118 ?_
      obtain ⟨h_18, hw⟩ := hw
      refine va_iald (pc := 119) hx hb hK hP 5 0 rfl rfl h_18 dX11_layPlan_119 ?_
      refine lv_iadd (pc := 120) hx hb dX11_layPlan_120 ?_
      refine lv_topi (fun y_19 ey_19 => ?_)
      replace hw := hw y_19 ey_19
      refine lv_istore (pc := 121) (lv' := [(7, .int y_19), (6, .int s0), (0, .ref (q 0)), (2, .int x2), (3, .int x3), (4, .int x4), (5, .int x5)]) hx hb dX11_layPlan_121 hl (by decide) rfl (fun ls hl => ?_)
      refine lv_iload (pc := 123) hx hb dX11_layPlan_123 (lv_at hl 0 rfl) ?_
      refine lv_iload (pc := 125) hx hb dX11_layPlan_125 (lv_at hl 5 rfl) ?_
      have K_v_21 : ∀ v_21 : Int32, v_21 = (if x4 ≤ y_19 then x4 else y_19) → W p l e rm_X11_layPlan s m av below meth c H locs 0 0 Q (F0 m 137 ls [.int v_21]) := by
        intro v_21 ev_21
        replace hw := hw v_21 ev_21
        refine lv_istore (pc := 137) (lv' := [(4, .int v_21), (7, .int y_19), (6, .int s0), (0, .ref (q 0)), (2, .int x2), (3, .int x3), (5, .int x5)]) hx hb dX11_layPlan_137 hl (by decide) rfl (fun ls hl => ?_)
        obtain ⟨y_22, ey_22⟩ : ∃ z : Int32, z = (x5 + (1 : Int32)) := ⟨_, rfl⟩
        replace hw := hw y_22 ey_22
        refine lv_iinc (pc := 139) (v := y_22) (lv' := [(5, .int y_22), (4, .int v_21), (7, .int y_19), (6, .int s0), (0, .ref (q 0)), (2, .int x2), (3, .int x3)]) hx hb dX11_layPlan_139 hl (k := 6) rfl (by rw [ey_22]; rfl) (by decide) rfl (fun ls hl => ?_)
        refine lv_goto (pc := 142) (tgt := 52) hx hb dX11_layPlan_142 (by decide) ?_
        exact hw _ _ _ hP hD hS (lv_sub hl [4, 5, 6, 1, 0] rfl)
      refine lv_icmp_ge (pc := 127) (tgt := 135) hx hb dX11_layPlan_127 (by decide) (fun c_20 => ?_) (fun c_20 => ?_)
      · skip
        refine lv_iload (pc := 135) hx hb dX11_layPlan_135 (lv_at hl 5 rfl) ?_
        exact K_v_21 _ (by rw [if_pos c_20])
      · skip
        refine lv_iload (pc := 130) hx hb dX11_layPlan_130 (lv_at hl 0 rfl) ?_
        refine lv_goto (pc := 132) (tgt := 137) hx hb dX11_layPlan_132 (by decide) ?_
        exact K_v_21 _ (by rw [if_neg c_20])
    · replace hw := hw.1 c_16
      refine lv_ldc (pc := 93) (v := (1000000 : Int32)) hx hb hown (hts _ (List.mem_of_getElem? (i := 2) rfl)) dX11_layPlan_93 ?_
      refine lv_goto (pc := 95) (tgt := 121) hx hb dX11_layPlan_95 (by decide) ?_
      refine lv_istore (pc := 121) (lv' := [(7, .int (1000000 : Int32)), (6, .int s0), (0, .ref (q 0)), (2, .int x2), (3, .int x3), (4, .int x4), (5, .int x5)]) hx hb dX11_layPlan_121 hl (by decide) rfl (fun ls hl => ?_)
      refine lv_iload (pc := 123) hx hb dX11_layPlan_123 (lv_at hl 0 rfl) ?_
      refine lv_iload (pc := 125) hx hb dX11_layPlan_125 (lv_at hl 5 rfl) ?_
      have K_v_24 : ∀ v_24 : Int32, v_24 = (if x4 ≤ (1000000 : Int32) then x4 else (1000000 : Int32)) → W p l e rm_X11_layPlan s m av below meth c H locs 0 0 Q (F0 m 137 ls [.int v_24]) := by
        intro v_24 ev_24
        replace hw := hw v_24 ev_24
        refine lv_istore (pc := 137) (lv' := [(4, .int v_24), (7, .int (1000000 : Int32)), (6, .int s0), (0, .ref (q 0)), (2, .int x2), (3, .int x3), (5, .int x5)]) hx hb dX11_layPlan_137 hl (by decide) rfl (fun ls hl => ?_)
        obtain ⟨y_25, ey_25⟩ : ∃ z : Int32, z = (x5 + (1 : Int32)) := ⟨_, rfl⟩
        replace hw := hw y_25 ey_25
        refine lv_iinc (pc := 139) (v := y_25) (lv' := [(5, .int y_25), (4, .int v_24), (7, .int (1000000 : Int32)), (6, .int s0), (0, .ref (q 0)), (2, .int x2), (3, .int x3)]) hx hb dX11_layPlan_139 hl (k := 6) rfl (by rw [ey_25]; rfl) (by decide) rfl (fun ls hl => ?_)
        refine lv_goto (pc := 142) (tgt := 52) hx hb dX11_layPlan_142 (by decide) ?_
        exact hw _ _ _ hP hD hS (lv_sub hl [4, 5, 6, 1, 0] rfl)
      refine lv_icmp_ge (pc := 127) (tgt := 135) hx hb dX11_layPlan_127 (by decide) (fun c_23 => ?_) (fun c_23 => ?_)
      · skip
        refine lv_iload (pc := 135) hx hb dX11_layPlan_135 (lv_at hl 5 rfl) ?_
        exact K_v_24 _ (by rw [if_pos c_23])
      · skip
        refine lv_iload (pc := 130) hx hb dX11_layPlan_130 (lv_at hl 0 rfl) ?_
        refine lv_goto (pc := 132) (tgt := 137) hx hb dX11_layPlan_132 (by decide) ?_
        exact K_v_24 _ (by rw [if_neg c_23]))
  refine lv_iconst (pc := 0) (v := (0 : Int32)) hx hb dX11_layPlan_0 (by decide) ?_
  refine lv_istore_n (pc := 1) (lv' := [(2, .int (0 : Int32)), (0, .ref (q 0)), (1, .int p1)]) hx hb dX11_layPlan_1 rfl hl (by decide) rfl (fun ls hl => ?_)
  exact hw _ _ _ hP hD hS (lv_sub hl [1, 2, 0] rfl)
def P_X11_plan (post : Int32 → (Nat → Int32) → Prop) (p1 : Int32) (m_plate : Nat → Int32) (m_plateFull : Nat → Int32) (m_wear : Nat → Int32) (m_least : Nat → Int32) (m_crew : Int32) (m_fewest : Nat → Int32) : Prop :=
  P_X11_in (fun r_1 => ((r_1 = (0 : Int32) → post (-2 : Int32) m_fewest) ∧ (¬ r_1 = (0 : Int32) → P_X11_layPlan (fun m_fewest_3 => vp_in (0 : Int32) 59049 ∧ ∀ v_6 : Int32, v_6 = (if (m_fewest_3 (0 : Int32).toNatClampNeg) < (1000000 : Int32) then (m_fewest_3 (0 : Int32).toNatClampNeg) else (-9 : Int32)) → post v_6 m_fewest_3) p1 m_plate m_plateFull m_wear m_least m_crew m_fewest))) p1.toInt64 (1 : Int64) (8 : Int64)
abbrev rm_X11_plan : Room := { frames := 3, cells := 0, slots := 0, locals := 78 }
theorem iw_X11_plan_X11 : ∀ w ∈ wsX110, w ∈ wsX11_plan := by decide +kernel
set_option maxHeartbeats 4000000 in
set_option maxRecDepth 100000 in
theorem c_X11_plan (l : Launch) (G : va_G) (K : ClassId × ClassId × ClassId) (tb q : Nat → Nat) (sz : Nat) (m_kinds : Int32) (m_weighings : Int32) (m_spanLow : Int32) (m_spanHigh : Int32) (m_events : Int32) (m_days : Int32) (m_edges : Int32) (m_breakages : Int32) (post : Int32 → (Nat → Int32) → Prop) (p1 : Int32) (m_plate : Nat → Int32) (m_plateFull : Nat → Int32) (m_wear : Nat → Int32) (m_least : Nat → Int32) (m_crew : Int32) (m_fewest : Nat → Int32) (hw : P_X11_plan post p1 m_plate m_plateFull m_wear m_least m_crew m_fewest) : Met l yX11_plan wsX11_plan rm_X11_plan (va_Pc [.ref (q 0), .int p1] (hPre G K tb [oX11 q m_kinds m_weighings m_spanLow m_spanHigh m_events m_days m_edges m_crew m_breakages, aI K (q 24) 4 m_plate, aI K (q 25) 4 m_plateFull, aI K (q 26) 4 m_wear, aI K (q 27) 4 m_least, aI K (q 28) 59049 m_fewest] sz)) (va_Qi (fun (r : Int32) (u : (Nat → Int32)) => post r u) (fun u => hB G K (va_A [oX11 q m_kinds m_weighings m_spanLow m_spanHigh m_events m_days m_edges m_crew m_breakages, aI K (q 24) 4 m_plate, aI K (q 25) 4 m_plateFull, aI K (q 26) 4 m_wear, aI K (q 27) 4 m_least, aI K (q 28) 59049 m_fewest] sz) [oX11 q m_kinds m_weighings m_spanLow m_spanHigh m_events m_days m_edges m_crew m_breakages, aI K (q 24) 4 m_plate, aI K (q 25) 4 m_plateFull, aI K (q 26) 4 m_wear, aI K (q 27) 4 m_least, aI K (q 28) 59049 u]) (va_A [oX11 q m_kinds m_weighings m_spanLow m_spanHigh m_events m_days m_edges m_crew m_breakages, aI K (q 24) 4 m_plate, aI K (q 25) 4 m_plateFull, aI K (q 26) 4 m_wear, aI K (q 27) 4 m_least, aI K (q 28) 59049 m_fewest] sz)) 0 0 (va_A [oX11 q m_kinds m_weighings m_spanLow m_spanHigh m_events m_days m_edges m_crew m_breakages, aI K (q 24) 4 m_plate, aI K (q 25) 4 m_plateFull, aI K (q 26) 4 m_wear, aI K (q 27) 4 m_least, aI K (q 28) 59049 m_fewest] sz) := by
  refine hMet (fun A => va_Qi (fun (r : Int32) (u : (Nat → Int32)) => post r u) (fun u => hB G K A [oX11 q m_kinds m_weighings m_spanLow m_spanHigh m_events m_days m_edges m_crew m_breakages, aI K (q 24) 4 m_plate, aI K (q 25) 4 m_plateFull, aI K (q 26) 4 m_wear, aI K (q 27) 4 m_least, aI K (q 28) 59049 u]) A) (by decide) rfl (Nat.le_of_ble_eq_true rfl) ?_
  intro p e s m av below meth c A Q ls hx hb hr hml hts hown hlocks hnm hA hP hK hD hS hE hQ hl
  have hts : ∀ w ∈ wsX11_plan, w.before av s = true := hts
  have hown : s.vm.findClass RX11 = some m.cls := hown
  have hl : lv_has ls 2 [(0, .ref (q 0)), (1, .int p1)] := hl
  unfold P_X11_plan at hw
  refine lv_iload_n (pc := 0) hx hb dX11_plan_0 rfl (lv_at hl 1 rfl) ?_
  refine lv_i2l (pc := 1) hx hb dX11_plan_1 rfl ?_
  refine lv_lconst (pc := 2) (v := (1 : Int64)) hx hb dX11_plan_2 (by decide) ?_
  refine lv_ldc2 (pc := 3) (v := (8 : Int64)) hx hb hown (hts _ (List.mem_of_getElem? (i := 1) rfl)) dX11_plan_3 ?_
  refine hCallI (pc := 6) (wr := [oX11 q m_kinds m_weighings m_spanLow m_spanHigh m_events m_days m_edges m_crew m_breakages, aI K (q 24) 4 m_plate, aI K (q 25) 4 m_plateFull, aI K (q 26) 4 m_wear, aI K (q 27) 4 m_least, aI K (q 28) 59049 m_fewest]) (wsf := fun (u : Unit) => []) [] [0, 1, 2, 3, 4, 5] (va_runS (As := [.long p1.toInt64, .long (1 : Int64), .long (8 : Int64)]) (rest := []) ⟨hx, hb, hml, hown, hts⟩ (c_X11_in l G K tb q s.heap.size _ p1.toInt64 (1 : Int64) (8 : Int64) hw) (va_cwS 3 hts gX11_plan_X11_in rfl rfl rfl (by decide +kernel) ⟨Nat.le_of_ble_eq_true rfl, Nat.le_of_ble_eq_true rfl⟩) (hPreS hE hP hK hD hS hA [] (by decide) rfl rfl) rfl rfl hl.1 rfl (lv_room (Nat.le_of_ble_eq_true rfl)) dX11_plan_6 ⟨Nat.zero_le _, Nat.zero_le _⟩) hP hD hS hA rfl rfl (by decide) (by decide) (fun r_1 u H locs hw hP hD hS => ?_)
  have hP : va_P G vwCl [oX11 q m_kinds m_weighings m_spanLow m_spanHigh m_events m_days m_edges m_crew m_breakages, aI K (q 24) 4 m_plate, aI K (q 25) 4 m_plateFull, aI K (q 26) 4 m_wear, aI K (q 27) 4 m_least, aI K (q 28) 59049 m_fewest] H := hP.sub [0, 1, 2, 3, 4, 5] rfl
  have hD : va_D A [oX11 q m_kinds m_weighings m_spanLow m_spanHigh m_events m_days m_edges m_crew m_breakages, aI K (q 24) 4 m_plate, aI K (q 25) 4 m_plateFull, aI K (q 26) 4 m_wear, aI K (q 27) 4 m_least, aI K (q 28) 59049 m_fewest] := hD.sub [0, 1, 2, 3, 4, 5] (by decide) rfl
  refine lv_if_ne (pc := 9) (tgt := 15) hx hb dX11_plan_9 (by decide) (fun c_2 => ?_) (fun c_2 => ?_)
  · replace hw := hw.2 c_2
    refine lv_aload_n (pc := 15) hx hb dX11_plan_15 rfl (lv_at hl 0 rfl) ?_
    refine lv_iload_n (pc := 16) hx hb dX11_plan_16 rfl (lv_at hl 1 rfl) ?_
    refine hCallV (pc := 17) (wr := []) (wsf := fun (u : (Nat → Int32)) => [oX11 q m_kinds m_weighings m_spanLow m_spanHigh m_events m_days m_edges m_crew m_breakages, aI K (q 24) 4 m_plate, aI K (q 25) 4 m_plateFull, aI K (q 26) 4 m_wear, aI K (q 27) 4 m_least, aI K (q 28) 59049 u]) [0, 1, 2, 3, 4, 5] [] (va_runV (As := [.int p1]) (rest := []) ⟨hx, hb, hml, hown, hts⟩ (c_X11_layPlan l G K tb q H.size m_kinds m_weighings m_spanLow m_spanHigh m_events m_days m_edges m_breakages _ p1 m_plate m_plateFull m_wear m_least m_crew m_fewest hw) (cwV 1 hts gX11_plan_X11_layPlan rfl rfl rfl (by decide +kernel) ⟨Nat.le_of_ble_eq_true rfl, Nat.le_of_ble_eq_true rfl⟩) (hPreV hE hP hK hD hS hA [0, 1, 2, 3, 4, 5] (by decide) rfl rfl rfl rfl (q0 := 0) (ci := 11) rfl) rfl rfl hl.1 rfl (lv_room (Nat.le_of_ble_eq_true rfl)) dX11_plan_17 ⟨Nat.zero_le _, Nat.zero_le _⟩) hP hD hS hA rfl rfl (by decide) (by decide) (fun u H locs hw hP hD hS => ?_)
    obtain ⟨m_fewest_3, rfl⟩ : ∃ z, z = u := ⟨_, rfl⟩
    have hP : va_P G vwCl [oX11 q m_kinds m_weighings m_spanLow m_spanHigh m_events m_days m_edges m_crew m_breakages, aI K (q 24) 4 m_plate, aI K (q 25) 4 m_plateFull, aI K (q 26) 4 m_wear, aI K (q 27) 4 m_least, aI K (q 28) 59049 m_fewest_3] H := hP.sub [0, 1, 2, 3, 4, 5] rfl
    have hD : va_D A [oX11 q m_kinds m_weighings m_spanLow m_spanHigh m_events m_days m_edges m_crew m_breakages, aI K (q 24) 4 m_plate, aI K (q 25) 4 m_plateFull, aI K (q 26) 4 m_wear, aI K (q 27) 4 m_least, aI K (q 28) 59049 m_fewest_3] := hD.sub [0, 1, 2, 3, 4, 5] (by decide) rfl
    refine lv_aload_n (pc := 20) hx hb dX11_plan_20 rfl (lv_at hl 0 rfl) ?_
    refine va_get (pc := 21) (D := G) (ci := 11) (v := .ref (q 28)) (C := RX11) (T := TX11) (N := 45) hx hb hts iw_X11_plan_X11 hown hK hP 0 rfl rfl 35 (by decide) (hts _ (List.mem_of_getElem? (i := 2) rfl)) (fun _ h9 => h9) rfl dX11_plan_21 ?_
    refine lv_iconst (pc := 24) (v := (0 : Int32)) hx hb dX11_plan_24 (by decide) ?_
    obtain ⟨h_4, hw⟩ := hw
    refine va_iald (pc := 25) hx hb hK hP 5 0 rfl rfl h_4 dX11_plan_25 ?_
    refine lv_ldc (pc := 26) (v := (1000000 : Int32)) hx hb hown (hts _ (List.mem_of_getElem? (i := 3) rfl)) dX11_plan_26 ?_
    have K_v_6 : ∀ v_6 : Int32, v_6 = (if (m_fewest_3 (0 : Int32).toNatClampNeg) < (1000000 : Int32) then (m_fewest_3 (0 : Int32).toNatClampNeg) else (-9 : Int32)) → W p l e rm_X11_plan s m av below meth c H locs 0 0 Q (F0 m 42 ls [.int v_6]) := by
      intro v_6 ev_6
      replace hw := hw v_6 ev_6
      exact hRetI (S := (Nat → Int32)) m_fewest_3 hx hb hr hlocks hQ hw hP hK hD hS dX11_plan_42
    refine lv_icmp_lt (pc := 28) (tgt := 36) hx hb dX11_plan_28 (by decide) (fun c_5 => ?_) (fun c_5 => ?_)
    · skip
      refine lv_aload_n (pc := 36) hx hb dX11_plan_36 rfl (lv_at hl 0 rfl) ?_
      refine va_get (pc := 37) (D := G) (ci := 11) (v := .ref (q 28)) (C := RX11) (T := TX11) (N := 45) hx hb hts iw_X11_plan_X11 hown hK hP 0 rfl rfl 35 (by decide) (hts _ (List.mem_of_getElem? (i := 2) rfl)) (fun _ h9 => h9) rfl dX11_plan_37 ?_
      refine lv_iconst (pc := 40) (v := (0 : Int32)) hx hb dX11_plan_40 (by decide) ?_
      refine va_iald (pc := 41) hx hb hK hP 5 0 rfl rfl h_4 dX11_plan_41 ?_
      exact K_v_6 _ (by rw [if_pos c_5])
    · skip
      refine lv_bipush (pc := 31) (v := (-9 : Int32)) hx hb dX11_plan_31 (by decide) ?_
      refine lv_goto (pc := 33) (tgt := 42) hx hb dX11_plan_33 (by decide) ?_
      exact K_v_6 _ (by rw [if_neg c_5])
  · replace hw := hw.1 c_2
    refine lv_bipush (pc := 12) (v := (-2 : Int32)) hx hb dX11_plan_12 (by decide) ?_
    exact hRetI (S := (Nat → Int32)) m_fewest hx hb hr hlocks hQ hw hP hK hD hS dX11_plan_14
def P_X11_planned (post : Int32 → (Nat → Int32) → Prop) (p1 : Int32) (p2 : Int32) (m_plate : Nat → Int32) (m_plateFull : Nat → Int32) (m_wear : Nat → Int32) (m_least : Nat → Int32) (m_crew : Int32) (m_fewest : Nat → Int32) : Prop :=
  ∀ (X55 : Int32 → Int32 → Int32 → (Nat → Int32) → Prop),
  ∀ (X92 : Int32 → Int32 → Int32 → Int32 → (Nat → Int32) → Prop),
  ∀ (X139 : Int32 → Int32 → Int32 → (Nat → Int32) → Prop),
  (∀ (x3 : Int32) (x4 : Int32) (x5 : Int32) (m_fewest : Nat → Int32), (((p2 < x5 → post x4 m_fewest) ∧ (¬ p2 < x5 → P_X11_ones (fun r_9 => ((m_crew < r_9 → X92 x3 (0 : Int32) x5 (-9 : Int32) m_fewest) ∧ (¬ m_crew < r_9 → P_X11_then (fun r_11 => X92 x3 (0 : Int32) x5 r_11 m_fewest) x3 x5 (0 : Int32) m_plate m_plateFull m_wear m_least))) (0 : Int32)))) → X55 x3 x4 x5 m_fewest) →
  (∀ (x3 : Int32) (x4 : Int32) (x5 : Int32) (x6 : Int32) (m_fewest : Nat → Int32), (((x6 = (-9 : Int32) → X139 x3 x4 x5 m_fewest) ∧ (¬ x6 = (-9 : Int32) → P_X11_ones (fun r_13 => vp_in ((((6561 : Int32) * x5) + (6561 : Int32)) + x6) 59049 ∧ vp_in (((6561 : Int32) * x5) + x3) 59049 ∧ (((r_13 + (m_fewest ((((6561 : Int32) * x5) + (6561 : Int32)) + x6).toNatClampNeg)) = (m_fewest (((6561 : Int32) * x5) + x3).toNatClampNeg) → ∀ y_17 : Int32, y_17 = (x5 + (1 : Int32)) → X55 x6 x4 y_17 m_fewest) ∧ (¬ (r_13 + (m_fewest ((((6561 : Int32) * x5) + (6561 : Int32)) + x6).toNatClampNeg)) = (m_fewest (((6561 : Int32) * x5) + x3).toNatClampNeg) → X139 x3 x4 x5 m_fewest))) x4))) → X92 x3 x4 x5 x6 m_fewest) →
  (∀ (x3 : Int32) (x4 : Int32) (x5 : Int32) (m_fewest : Nat → Int32), (∀ y_18 : Int32, y_18 = (x4 + (1 : Int32)) → P_X11_ones (fun r_19 => ((m_crew < r_19 → X92 x3 y_18 x5 (-9 : Int32) m_fewest) ∧ (¬ m_crew < r_19 → P_X11_then (fun r_21 => X92 x3 y_18 x5 r_21 m_fewest) x3 x5 y_18 m_plate m_plateFull m_wear m_least))) y_18) → X139 x3 x4 x5 m_fewest) →
  P_X11_in (fun r_1 => ((r_1 = (0 : Int32) → post (-2 : Int32) m_fewest) ∧ (¬ r_1 = (0 : Int32) → P_X11_in (fun r_3 => ((r_3 = (0 : Int32) → post (-2 : Int32) m_fewest) ∧ (¬ r_3 = (0 : Int32) → P_X11_layPlan (fun m_fewest_5 => vp_in (0 : Int32) 59049 ∧ (((m_fewest_5 (0 : Int32).toNatClampNeg) < (1000000 : Int32) → X55 (0 : Int32) (0 : Int32) (0 : Int32) m_fewest_5) ∧ (¬ (m_fewest_5 (0 : Int32).toNatClampNeg) < (1000000 : Int32) → post (-9 : Int32) m_fewest_5))) p1 m_plate m_plateFull m_wear m_least m_crew m_fewest))) p2.toInt64 (0 : Int64) (p1 - (1 : Int32)).toInt64))) p1.toInt64 (1 : Int64) (8 : Int64)
abbrev rm_X11_planned : Room := { frames := 3, cells := 0, slots := 0, locals := 78 }
theorem iw_X11_planned_X11 : ∀ w ∈ wsX110, w ∈ wsX11_planned := by decide +kernel
set_option maxHeartbeats 4000000 in
set_option maxRecDepth 100000 in
theorem c_X11_planned (l : Launch) (G : va_G) (K : ClassId × ClassId × ClassId) (tb q : Nat → Nat) (sz : Nat) (m_kinds : Int32) (m_weighings : Int32) (m_spanLow : Int32) (m_spanHigh : Int32) (m_events : Int32) (m_days : Int32) (m_edges : Int32) (m_breakages : Int32) (post : Int32 → (Nat → Int32) → Prop) (p1 : Int32) (p2 : Int32) (m_plate : Nat → Int32) (m_plateFull : Nat → Int32) (m_wear : Nat → Int32) (m_least : Nat → Int32) (m_crew : Int32) (m_fewest : Nat → Int32) (hw : P_X11_planned post p1 p2 m_plate m_plateFull m_wear m_least m_crew m_fewest) : Met l yX11_planned wsX11_planned rm_X11_planned (va_Pc [.ref (q 0), .int p1, .int p2] (hPre G K tb [oX11 q m_kinds m_weighings m_spanLow m_spanHigh m_events m_days m_edges m_crew m_breakages, aI K (q 24) 4 m_plate, aI K (q 25) 4 m_plateFull, aI K (q 26) 4 m_wear, aI K (q 27) 4 m_least, aI K (q 28) 59049 m_fewest] sz)) (va_Qi (fun (r : Int32) (u : (Nat → Int32)) => post r u) (fun u => hB G K (va_A [oX11 q m_kinds m_weighings m_spanLow m_spanHigh m_events m_days m_edges m_crew m_breakages, aI K (q 24) 4 m_plate, aI K (q 25) 4 m_plateFull, aI K (q 26) 4 m_wear, aI K (q 27) 4 m_least, aI K (q 28) 59049 m_fewest] sz) [oX11 q m_kinds m_weighings m_spanLow m_spanHigh m_events m_days m_edges m_crew m_breakages, aI K (q 24) 4 m_plate, aI K (q 25) 4 m_plateFull, aI K (q 26) 4 m_wear, aI K (q 27) 4 m_least, aI K (q 28) 59049 u]) (va_A [oX11 q m_kinds m_weighings m_spanLow m_spanHigh m_events m_days m_edges m_crew m_breakages, aI K (q 24) 4 m_plate, aI K (q 25) 4 m_plateFull, aI K (q 26) 4 m_wear, aI K (q 27) 4 m_least, aI K (q 28) 59049 m_fewest] sz)) 0 0 (va_A [oX11 q m_kinds m_weighings m_spanLow m_spanHigh m_events m_days m_edges m_crew m_breakages, aI K (q 24) 4 m_plate, aI K (q 25) 4 m_plateFull, aI K (q 26) 4 m_wear, aI K (q 27) 4 m_least, aI K (q 28) 59049 m_fewest] sz) := by
  refine hMet (fun A => va_Qi (fun (r : Int32) (u : (Nat → Int32)) => post r u) (fun u => hB G K A [oX11 q m_kinds m_weighings m_spanLow m_spanHigh m_events m_days m_edges m_crew m_breakages, aI K (q 24) 4 m_plate, aI K (q 25) 4 m_plateFull, aI K (q 26) 4 m_wear, aI K (q 27) 4 m_least, aI K (q 28) 59049 u]) A) (by decide) rfl (Nat.le_of_ble_eq_true rfl) ?_
  intro p e s m av below meth c A Q ls hx hb hr hml hts hown hlocks hnm hA hP hK hD hS hE hQ hl
  have hts : ∀ w ∈ wsX11_planned, w.before av s = true := hts
  have hown : s.vm.findClass RX11 = some m.cls := hown
  have hl : lv_has ls 7 [(0, .ref (q 0)), (1, .int p1), (2, .int p2)] := hl
  unfold P_X11_planned at hw
  replace hw := hw (fun (x3 : Int32) (x4 : Int32) (x5 : Int32) (m_fewest : Nat → Int32) => ∀ (H : Heap) (locs : List Loc) (ls : Array Slot), va_P G vwCl [oX11 q m_kinds m_weighings m_spanLow m_spanHigh m_events m_days m_edges m_crew m_breakages, aI K (q 24) 4 m_plate, aI K (q 25) 4 m_plateFull, aI K (q 26) 4 m_wear, aI K (q 27) 4 m_least, aI K (q 28) 59049 m_fewest] H → va_D A [oX11 q m_kinds m_weighings m_spanLow m_spanHigh m_events m_days m_edges m_crew m_breakages, aI K (q 24) 4 m_plate, aI K (q 25) 4 m_plateFull, aI K (q 26) 4 m_wear, aI K (q 27) 4 m_least, aI K (q 28) 59049 m_fewest] → va_S A s.heap H locs → lv_has ls 7 [(0, .ref (q 0)), (2, .int p2), (3, .int x3), (4, .int x4), (5, .int x5)] → W p l e rm_X11_planned s m av below meth c H locs 0 0 Q (F0 m 55 ls []))
  replace hw := hw (fun (x3 : Int32) (x4 : Int32) (x5 : Int32) (x6 : Int32) (m_fewest : Nat → Int32) => ∀ (H : Heap) (locs : List Loc) (ls : Array Slot), va_P G vwCl [oX11 q m_kinds m_weighings m_spanLow m_spanHigh m_events m_days m_edges m_crew m_breakages, aI K (q 24) 4 m_plate, aI K (q 25) 4 m_plateFull, aI K (q 26) 4 m_wear, aI K (q 27) 4 m_least, aI K (q 28) 59049 m_fewest] H → va_D A [oX11 q m_kinds m_weighings m_spanLow m_spanHigh m_events m_days m_edges m_crew m_breakages, aI K (q 24) 4 m_plate, aI K (q 25) 4 m_plateFull, aI K (q 26) 4 m_wear, aI K (q 27) 4 m_least, aI K (q 28) 59049 m_fewest] → va_S A s.heap H locs → lv_has ls 7 [(0, .ref (q 0)), (2, .int p2), (3, .int x3), (4, .int x4), (5, .int x5), (6, .int x6)] → W p l e rm_X11_planned s m av below meth c H locs 0 0 Q (F0 m 92 ls []))
  replace hw := hw (fun (x3 : Int32) (x4 : Int32) (x5 : Int32) (m_fewest : Nat → Int32) => ∀ (H : Heap) (locs : List Loc) (ls : Array Slot), va_P G vwCl [oX11 q m_kinds m_weighings m_spanLow m_spanHigh m_events m_days m_edges m_crew m_breakages, aI K (q 24) 4 m_plate, aI K (q 25) 4 m_plateFull, aI K (q 26) 4 m_wear, aI K (q 27) 4 m_least, aI K (q 28) 59049 m_fewest] H → va_D A [oX11 q m_kinds m_weighings m_spanLow m_spanHigh m_events m_days m_edges m_crew m_breakages, aI K (q 24) 4 m_plate, aI K (q 25) 4 m_plateFull, aI K (q 26) 4 m_wear, aI K (q 27) 4 m_least, aI K (q 28) 59049 m_fewest] → va_S A s.heap H locs → lv_has ls 7 [(0, .ref (q 0)), (2, .int p2), (3, .int x3), (4, .int x4), (5, .int x5)] → W p l e rm_X11_planned s m av below meth c H locs 0 0 Q (F0 m 139 ls []))
  replace hw := hw (by
    intro x3 x4 x5 m_fewest hw H locs ls hP hD hS hl
    refine lv_iload (pc := 55) hx hb dX11_planned_55 (lv_at hl 4 rfl) ?_
    refine lv_iload_n (pc := 57) hx hb dX11_planned_57 rfl (lv_at hl 1 rfl) ?_
    refine lv_icmp_gt (pc := 58) (tgt := 182) hx hb dX11_planned_58 (by decide) (fun c_8 => ?_) (fun c_8 => ?_)
    · replace hw := hw.1 c_8
      refine lv_iload (pc := 182) hx hb dX11_planned_182 (lv_at hl 3 rfl) ?_
      exact hRetI (S := (Nat → Int32)) m_fewest hx hb hr hlocks hQ hw hP hK hD hS dX11_planned_184
    · replace hw := hw.2 c_8
      refine lv_iconst (pc := 61) (v := (0 : Int32)) hx hb dX11_planned_61 (by decide) ?_
      refine lv_istore (pc := 62) (lv' := [(4, .int (0 : Int32)), (0, .ref (q 0)), (2, .int p2), (3, .int x3), (5, .int x5)]) hx hb dX11_planned_62 hl (by decide) rfl (fun ls hl => ?_)
      refine lv_iload (pc := 64) hx hb dX11_planned_64 (lv_at hl 0 rfl) ?_
      refine hCallI (pc := 66) (wr := [oX11 q m_kinds m_weighings m_spanLow m_spanHigh m_events m_days m_edges m_crew m_breakages, aI K (q 24) 4 m_plate, aI K (q 25) 4 m_plateFull, aI K (q 26) 4 m_wear, aI K (q 27) 4 m_least, aI K (q 28) 59049 m_fewest]) (wsf := fun (u : Unit) => []) [] [0, 1, 2, 3, 4, 5] (va_runS (As := [.int (0 : Int32)]) (rest := []) ⟨hx, hb, hml, hown, hts⟩ (c_X11_ones l G K tb q H.size _ (0 : Int32) hw) (va_cwS 1 hts gX11_planned_X11_ones rfl rfl rfl (by decide +kernel) ⟨Nat.le_of_ble_eq_true rfl, Nat.le_of_ble_eq_true rfl⟩) (hPreS hE hP hK hD hS hA [] (by decide) rfl rfl) rfl rfl hl.1 rfl (lv_room (Nat.le_of_ble_eq_true rfl)) dX11_planned_66 ⟨Nat.zero_le _, Nat.zero_le _⟩) hP hD hS hA rfl rfl (by decide) (by decide) (fun r_9 u H locs hw hP hD hS => ?_)
      have hP : va_P G vwCl [oX11 q m_kinds m_weighings m_spanLow m_spanHigh m_events m_days m_edges m_crew m_breakages, aI K (q 24) 4 m_plate, aI K (q 25) 4 m_plateFull, aI K (q 26) 4 m_wear, aI K (q 27) 4 m_least, aI K (q 28) 59049 m_fewest] H := hP.sub [0, 1, 2, 3, 4, 5] rfl
      have hD : va_D A [oX11 q m_kinds m_weighings m_spanLow m_spanHigh m_events m_days m_edges m_crew m_breakages, aI K (q 24) 4 m_plate, aI K (q 25) 4 m_plateFull, aI K (q 26) 4 m_wear, aI K (q 27) 4 m_least, aI K (q 28) 59049 m_fewest] := hD.sub [0, 1, 2, 3, 4, 5] (by decide) rfl
      refine lv_aload_n (pc := 69) hx hb dX11_planned_69 rfl (lv_at hl 1 rfl) ?_
      refine va_get (pc := 70) (D := G) (ci := 11) (v := .int m_crew) (C := RX11) (T := TX11) (N := 45) hx hb hts iw_X11_planned_X11 hown hK hP 0 rfl rfl 34 (by decide) (hts _ (List.mem_of_getElem? (i := 4) rfl)) (fun _ h9 => h9) rfl dX11_planned_70 ?_
      refine lv_icmp_gt (pc := 73) (tgt := 88) hx hb dX11_planned_73 (by decide) (fun c_10 => ?_) (fun c_10 => ?_)
      · replace hw := hw.1 c_10
        refine lv_bipush (pc := 88) (v := (-9 : Int32)) hx hb dX11_planned_88 (by decide) ?_
        refine lv_istore (pc := 90) (lv' := [(6, .int (-9 : Int32)), (4, .int (0 : Int32)), (0, .ref (q 0)), (2, .int p2), (3, .int x3), (5, .int x5)]) hx hb dX11_planned_90 hl (by decide) rfl (fun ls hl => ?_)
        exact hw _ _ _ hP hD hS (lv_sub hl [2, 3, 4, 1, 5, 0] rfl)
      · replace hw := hw.2 c_10
        refine lv_aload_n (pc := 76) hx hb dX11_planned_76 rfl (lv_at hl 1 rfl) ?_
        refine lv_iload_n (pc := 77) hx hb dX11_planned_77 rfl (lv_at hl 3 rfl) ?_
        refine lv_iload (pc := 78) hx hb dX11_planned_78 (lv_at hl 4 rfl) ?_
        refine lv_iload (pc := 80) hx hb dX11_planned_80 (lv_at hl 0 rfl) ?_
        refine hCallI (pc := 82) (wr := [aI K (q 28) 59049 m_fewest]) (wsf := fun (u : Unit) => [oX11 q m_kinds m_weighings m_spanLow m_spanHigh m_events m_days m_edges m_crew m_breakages, aI K (q 24) 4 m_plate, aI K (q 25) 4 m_plateFull, aI K (q 26) 4 m_wear, aI K (q 27) 4 m_least]) [0, 1, 2, 3, 4] [5] (va_runV (As := [.int x3, .int x5, .int (0 : Int32)]) (rest := []) ⟨hx, hb, hml, hown, hts⟩ (c_X11_then l G K tb q H.size m_kinds m_weighings m_spanLow m_spanHigh m_events m_days m_edges m_crew m_breakages _ x3 x5 (0 : Int32) m_plate m_plateFull m_wear m_least hw) (cwV 3 hts gX11_planned_X11_then rfl rfl rfl (by decide +kernel) ⟨Nat.le_of_ble_eq_true rfl, Nat.le_of_ble_eq_true rfl⟩) (hPreV hE hP hK hD hS hA [0, 1, 2, 3, 4] (by decide) rfl rfl rfl rfl (q0 := 0) (ci := 11) rfl) rfl rfl hl.1 rfl (lv_room (Nat.le_of_ble_eq_true rfl)) dX11_planned_82 ⟨Nat.zero_le _, Nat.zero_le _⟩) hP hD hS hA rfl rfl (by decide) (by decide) (fun r_11 u H locs hw hP hD hS => ?_)
        have hP : va_P G vwCl [oX11 q m_kinds m_weighings m_spanLow m_spanHigh m_events m_days m_edges m_crew m_breakages, aI K (q 24) 4 m_plate, aI K (q 25) 4 m_plateFull, aI K (q 26) 4 m_wear, aI K (q 27) 4 m_least, aI K (q 28) 59049 m_fewest] H := hP.sub [1, 2, 3, 4, 5, 0] rfl
        have hD : va_D A [oX11 q m_kinds m_weighings m_spanLow m_spanHigh m_events m_days m_edges m_crew m_breakages, aI K (q 24) 4 m_plate, aI K (q 25) 4 m_plateFull, aI K (q 26) 4 m_wear, aI K (q 27) 4 m_least, aI K (q 28) 59049 m_fewest] := hD.sub [1, 2, 3, 4, 5, 0] (by decide) rfl
        refine lv_goto (pc := 85) (tgt := 90) hx hb dX11_planned_85 (by decide) ?_
        refine lv_istore (pc := 90) (lv' := [(6, .int r_11), (4, .int (0 : Int32)), (0, .ref (q 0)), (2, .int p2), (3, .int x3), (5, .int x5)]) hx hb dX11_planned_90 hl (by decide) rfl (fun ls hl => ?_)
        exact hw _ _ _ hP hD hS (lv_sub hl [2, 3, 4, 1, 5, 0] rfl))
  replace hw := hw (by
    intro x3 x4 x5 x6 m_fewest hw H locs ls hP hD hS hl
    refine lv_iload (pc := 92) hx hb dX11_planned_92 (lv_at hl 5 rfl) ?_
    refine lv_bipush (pc := 94) (v := (-9 : Int32)) hx hb dX11_planned_94 (by decide) ?_
    refine lv_icmp_eq (pc := 96) (tgt := 139) hx hb dX11_planned_96 (by decide) (fun c_12 => ?_) (fun c_12 => ?_)
    · replace hw := hw.1 c_12
      exact hw _ _ _ hP hD hS (lv_sub hl [0, 1, 2, 3, 4] rfl)
    · replace hw := hw.2 c_12
      refine lv_iload (pc := 99) hx hb dX11_planned_99 (lv_at hl 3 rfl) ?_
      refine hCallI (pc := 101) (wr := [oX11 q m_kinds m_weighings m_spanLow m_spanHigh m_events m_days m_edges m_crew m_breakages, aI K (q 24) 4 m_plate, aI K (q 25) 4 m_plateFull, aI K (q 26) 4 m_wear, aI K (q 27) 4 m_least, aI K (q 28) 59049 m_fewest]) (wsf := fun (u : Unit) => []) [] [0, 1, 2, 3, 4, 5] (va_runS (As := [.int x4]) (rest := []) ⟨hx, hb, hml, hown, hts⟩ (c_X11_ones l G K tb q H.size _ x4 hw) (va_cwS 1 hts gX11_planned_X11_ones rfl rfl rfl (by decide +kernel) ⟨Nat.le_of_ble_eq_true rfl, Nat.le_of_ble_eq_true rfl⟩) (hPreS hE hP hK hD hS hA [] (by decide) rfl rfl) rfl rfl hl.1 rfl (lv_room (Nat.le_of_ble_eq_true rfl)) dX11_planned_101 ⟨Nat.zero_le _, Nat.zero_le _⟩) hP hD hS hA rfl rfl (by decide) (by decide) (fun r_13 u H locs hw hP hD hS => ?_)
      have hP : va_P G vwCl [oX11 q m_kinds m_weighings m_spanLow m_spanHigh m_events m_days m_edges m_crew m_breakages, aI K (q 24) 4 m_plate, aI K (q 25) 4 m_plateFull, aI K (q 26) 4 m_wear, aI K (q 27) 4 m_least, aI K (q 28) 59049 m_fewest] H := hP.sub [0, 1, 2, 3, 4, 5] rfl
      have hD : va_D A [oX11 q m_kinds m_weighings m_spanLow m_spanHigh m_events m_days m_edges m_crew m_breakages, aI K (q 24) 4 m_plate, aI K (q 25) 4 m_plateFull, aI K (q 26) 4 m_wear, aI K (q 27) 4 m_least, aI K (q 28) 59049 m_fewest] := hD.sub [0, 1, 2, 3, 4, 5] (by decide) rfl
      refine lv_aload_n (pc := 104) hx hb dX11_planned_104 rfl (lv_at hl 0 rfl) ?_
      refine va_get (pc := 105) (D := G) (ci := 11) (v := .ref (q 28)) (C := RX11) (T := TX11) (N := 45) hx hb hts iw_X11_planned_X11 hown hK hP 0 rfl rfl 35 (by decide) (hts _ (List.mem_of_getElem? (i := 2) rfl)) (fun _ h9 => h9) rfl dX11_planned_105 ?_
      refine lv_sipush (pc := 108) (v := (6561 : Int32)) hx hb dX11_planned_108 (by decide) ?_
      refine lv_iload (pc := 111) hx hb dX11_planned_111 (lv_at hl 4 rfl) ?_
      refine lv_imul (pc := 113) hx hb dX11_planned_113 ?_
      refine lv_sipush (pc := 114) (v := (6561 : Int32)) hx hb dX11_planned_114 (by decide) ?_
      refine lv_iadd (pc := 117) hx hb dX11_planned_117 ?_
      refine lv_iload (pc := 118) hx hb dX11_planned_118 (lv_at hl 5 rfl) ?_
      refine lv_iadd (pc := 120) hx hb dX11_planned_120 ?_
      obtain ⟨h_14, hw⟩ := hw
      refine va_iald (pc := 121) hx hb hK hP 5 0 rfl rfl h_14 dX11_planned_121 ?_
      refine lv_iadd (pc := 122) hx hb dX11_planned_122 ?_
      refine lv_aload_n (pc := 123) hx hb dX11_planned_123 rfl (lv_at hl 0 rfl) ?_
      refine va_get (pc := 124) (D := G) (ci := 11) (v := .ref (q 28)) (C := RX11) (T := TX11) (N := 45) hx hb hts iw_X11_planned_X11 hown hK hP 0 rfl rfl 35 (by decide) (hts _ (List.mem_of_getElem? (i := 2) rfl)) (fun _ h9 => h9) rfl dX11_planned_124 ?_
      refine lv_sipush (pc := 127) (v := (6561 : Int32)) hx hb dX11_planned_127 (by decide) ?_
      refine lv_iload (pc := 130) hx hb dX11_planned_130 (lv_at hl 4 rfl) ?_
      refine lv_imul (pc := 132) hx hb dX11_planned_132 ?_
      refine lv_iload_n (pc := 133) hx hb dX11_planned_133 rfl (lv_at hl 2 rfl) ?_
      refine lv_iadd (pc := 134) hx hb dX11_planned_134 ?_
      obtain ⟨h_15, hw⟩ := hw
      refine va_iald (pc := 135) hx hb hK hP 5 0 rfl rfl h_15 dX11_planned_135 ?_
      refine lv_icmp_eq (pc := 136) (tgt := 173) hx hb dX11_planned_136 (by decide) (fun c_16 => ?_) (fun c_16 => ?_)
      · replace hw := hw.1 c_16
        refine lv_iload (pc := 173) hx hb dX11_planned_173 (lv_at hl 5 rfl) ?_
        refine lv_istore_n (pc := 175) (lv' := [(3, .int x6), (0, .ref (q 0)), (2, .int p2), (4, .int x4), (5, .int x5), (6, .int x6)]) hx hb dX11_planned_175 rfl hl (by decide) rfl (fun ls hl => ?_)
        obtain ⟨y_17, ey_17⟩ : ∃ z : Int32, z = (x5 + (1 : Int32)) := ⟨_, rfl⟩
        replace hw := hw y_17 ey_17
        refine lv_iinc (pc := 176) (v := y_17) (lv' := [(5, .int y_17), (3, .int x6), (0, .ref (q 0)), (2, .int p2), (4, .int x4), (6, .int x6)]) hx hb dX11_planned_176 hl (k := 4) rfl (by rw [ey_17]; rfl) (by decide) rfl (fun ls hl => ?_)
        refine lv_goto (pc := 179) (tgt := 55) hx hb dX11_planned_179 (by decide) ?_
        exact hw _ _ _ hP hD hS (lv_sub hl [2, 3, 1, 4, 0] rfl)
      · replace hw := hw.2 c_16
        exact hw _ _ _ hP hD hS (lv_sub hl [0, 1, 2, 3, 4] rfl))
  replace hw := hw (by
    intro x3 x4 x5 m_fewest hw H locs ls hP hD hS hl
    obtain ⟨y_18, ey_18⟩ : ∃ z : Int32, z = (x4 + (1 : Int32)) := ⟨_, rfl⟩
    replace hw := hw y_18 ey_18
    refine lv_iinc (pc := 139) (v := y_18) (lv' := [(4, .int y_18), (0, .ref (q 0)), (2, .int p2), (3, .int x3), (5, .int x5)]) hx hb dX11_planned_139 hl (k := 3) rfl (by rw [ey_18]; rfl) (by decide) rfl (fun ls hl => ?_)
    refine lv_iload (pc := 142) hx hb dX11_planned_142 (lv_at hl 0 rfl) ?_
    refine hCallI (pc := 144) (wr := [oX11 q m_kinds m_weighings m_spanLow m_spanHigh m_events m_days m_edges m_crew m_breakages, aI K (q 24) 4 m_plate, aI K (q 25) 4 m_plateFull, aI K (q 26) 4 m_wear, aI K (q 27) 4 m_least, aI K (q 28) 59049 m_fewest]) (wsf := fun (u : Unit) => []) [] [0, 1, 2, 3, 4, 5] (va_runS (As := [.int y_18]) (rest := []) ⟨hx, hb, hml, hown, hts⟩ (c_X11_ones l G K tb q H.size _ y_18 hw) (va_cwS 1 hts gX11_planned_X11_ones rfl rfl rfl (by decide +kernel) ⟨Nat.le_of_ble_eq_true rfl, Nat.le_of_ble_eq_true rfl⟩) (hPreS hE hP hK hD hS hA [] (by decide) rfl rfl) rfl rfl hl.1 rfl (lv_room (Nat.le_of_ble_eq_true rfl)) dX11_planned_144 ⟨Nat.zero_le _, Nat.zero_le _⟩) hP hD hS hA rfl rfl (by decide) (by decide) (fun r_19 u H locs hw hP hD hS => ?_)
    have hP : va_P G vwCl [oX11 q m_kinds m_weighings m_spanLow m_spanHigh m_events m_days m_edges m_crew m_breakages, aI K (q 24) 4 m_plate, aI K (q 25) 4 m_plateFull, aI K (q 26) 4 m_wear, aI K (q 27) 4 m_least, aI K (q 28) 59049 m_fewest] H := hP.sub [0, 1, 2, 3, 4, 5] rfl
    have hD : va_D A [oX11 q m_kinds m_weighings m_spanLow m_spanHigh m_events m_days m_edges m_crew m_breakages, aI K (q 24) 4 m_plate, aI K (q 25) 4 m_plateFull, aI K (q 26) 4 m_wear, aI K (q 27) 4 m_least, aI K (q 28) 59049 m_fewest] := hD.sub [0, 1, 2, 3, 4, 5] (by decide) rfl
    refine lv_aload_n (pc := 147) hx hb dX11_planned_147 rfl (lv_at hl 1 rfl) ?_
    refine va_get (pc := 148) (D := G) (ci := 11) (v := .int m_crew) (C := RX11) (T := TX11) (N := 45) hx hb hts iw_X11_planned_X11 hown hK hP 0 rfl rfl 34 (by decide) (hts _ (List.mem_of_getElem? (i := 4) rfl)) (fun _ h9 => h9) rfl dX11_planned_148 ?_
    refine lv_icmp_gt (pc := 151) (tgt := 166) hx hb dX11_planned_151 (by decide) (fun c_20 => ?_) (fun c_20 => ?_)
    · replace hw := hw.1 c_20
      refine lv_bipush (pc := 166) (v := (-9 : Int32)) hx hb dX11_planned_166 (by decide) ?_
      refine lv_istore (pc := 168) (lv' := [(6, .int (-9 : Int32)), (4, .int y_18), (0, .ref (q 0)), (2, .int p2), (3, .int x3), (5, .int x5)]) hx hb dX11_planned_168 hl (by decide) rfl (fun ls hl => ?_)
      refine lv_goto (pc := 170) (tgt := 92) hx hb dX11_planned_170 (by decide) ?_
      exact hw _ _ _ hP hD hS (lv_sub hl [2, 3, 4, 1, 5, 0] rfl)
    · replace hw := hw.2 c_20
      refine lv_aload_n (pc := 154) hx hb dX11_planned_154 rfl (lv_at hl 1 rfl) ?_
      refine lv_iload_n (pc := 155) hx hb dX11_planned_155 rfl (lv_at hl 3 rfl) ?_
      refine lv_iload (pc := 156) hx hb dX11_planned_156 (lv_at hl 4 rfl) ?_
      refine lv_iload (pc := 158) hx hb dX11_planned_158 (lv_at hl 0 rfl) ?_
      refine hCallI (pc := 160) (wr := [aI K (q 28) 59049 m_fewest]) (wsf := fun (u : Unit) => [oX11 q m_kinds m_weighings m_spanLow m_spanHigh m_events m_days m_edges m_crew m_breakages, aI K (q 24) 4 m_plate, aI K (q 25) 4 m_plateFull, aI K (q 26) 4 m_wear, aI K (q 27) 4 m_least]) [0, 1, 2, 3, 4] [5] (va_runV (As := [.int x3, .int x5, .int y_18]) (rest := []) ⟨hx, hb, hml, hown, hts⟩ (c_X11_then l G K tb q H.size m_kinds m_weighings m_spanLow m_spanHigh m_events m_days m_edges m_crew m_breakages _ x3 x5 y_18 m_plate m_plateFull m_wear m_least hw) (cwV 3 hts gX11_planned_X11_then rfl rfl rfl (by decide +kernel) ⟨Nat.le_of_ble_eq_true rfl, Nat.le_of_ble_eq_true rfl⟩) (hPreV hE hP hK hD hS hA [0, 1, 2, 3, 4] (by decide) rfl rfl rfl rfl (q0 := 0) (ci := 11) rfl) rfl rfl hl.1 rfl (lv_room (Nat.le_of_ble_eq_true rfl)) dX11_planned_160 ⟨Nat.zero_le _, Nat.zero_le _⟩) hP hD hS hA rfl rfl (by decide) (by decide) (fun r_21 u H locs hw hP hD hS => ?_)
      have hP : va_P G vwCl [oX11 q m_kinds m_weighings m_spanLow m_spanHigh m_events m_days m_edges m_crew m_breakages, aI K (q 24) 4 m_plate, aI K (q 25) 4 m_plateFull, aI K (q 26) 4 m_wear, aI K (q 27) 4 m_least, aI K (q 28) 59049 m_fewest] H := hP.sub [1, 2, 3, 4, 5, 0] rfl
      have hD : va_D A [oX11 q m_kinds m_weighings m_spanLow m_spanHigh m_events m_days m_edges m_crew m_breakages, aI K (q 24) 4 m_plate, aI K (q 25) 4 m_plateFull, aI K (q 26) 4 m_wear, aI K (q 27) 4 m_least, aI K (q 28) 59049 m_fewest] := hD.sub [1, 2, 3, 4, 5, 0] (by decide) rfl
      refine lv_goto (pc := 163) (tgt := 168) hx hb dX11_planned_163 (by decide) ?_
      refine lv_istore (pc := 168) (lv' := [(6, .int r_21), (4, .int y_18), (0, .ref (q 0)), (2, .int p2), (3, .int x3), (5, .int x5)]) hx hb dX11_planned_168 hl (by decide) rfl (fun ls hl => ?_)
      refine lv_goto (pc := 170) (tgt := 92) hx hb dX11_planned_170 (by decide) ?_
      exact hw _ _ _ hP hD hS (lv_sub hl [2, 3, 4, 1, 5, 0] rfl))
  refine lv_iload_n (pc := 0) hx hb dX11_planned_0 rfl (lv_at hl 1 rfl) ?_
  refine lv_i2l (pc := 1) hx hb dX11_planned_1 rfl ?_
  refine lv_lconst (pc := 2) (v := (1 : Int64)) hx hb dX11_planned_2 (by decide) ?_
  refine lv_ldc2 (pc := 3) (v := (8 : Int64)) hx hb hown (hts _ (List.mem_of_getElem? (i := 1) rfl)) dX11_planned_3 ?_
  refine hCallI (pc := 6) (wr := [oX11 q m_kinds m_weighings m_spanLow m_spanHigh m_events m_days m_edges m_crew m_breakages, aI K (q 24) 4 m_plate, aI K (q 25) 4 m_plateFull, aI K (q 26) 4 m_wear, aI K (q 27) 4 m_least, aI K (q 28) 59049 m_fewest]) (wsf := fun (u : Unit) => []) [] [0, 1, 2, 3, 4, 5] (va_runS (As := [.long p1.toInt64, .long (1 : Int64), .long (8 : Int64)]) (rest := []) ⟨hx, hb, hml, hown, hts⟩ (c_X11_in l G K tb q s.heap.size _ p1.toInt64 (1 : Int64) (8 : Int64) hw) (va_cwS 3 hts gX11_planned_X11_in rfl rfl rfl (by decide +kernel) ⟨Nat.le_of_ble_eq_true rfl, Nat.le_of_ble_eq_true rfl⟩) (hPreS hE hP hK hD hS hA [] (by decide) rfl rfl) rfl rfl hl.1 rfl (lv_room (Nat.le_of_ble_eq_true rfl)) dX11_planned_6 ⟨Nat.zero_le _, Nat.zero_le _⟩) hP hD hS hA rfl rfl (by decide) (by decide) (fun r_1 u H locs hw hP hD hS => ?_)
  have hP : va_P G vwCl [oX11 q m_kinds m_weighings m_spanLow m_spanHigh m_events m_days m_edges m_crew m_breakages, aI K (q 24) 4 m_plate, aI K (q 25) 4 m_plateFull, aI K (q 26) 4 m_wear, aI K (q 27) 4 m_least, aI K (q 28) 59049 m_fewest] H := hP.sub [0, 1, 2, 3, 4, 5] rfl
  have hD : va_D A [oX11 q m_kinds m_weighings m_spanLow m_spanHigh m_events m_days m_edges m_crew m_breakages, aI K (q 24) 4 m_plate, aI K (q 25) 4 m_plateFull, aI K (q 26) 4 m_wear, aI K (q 27) 4 m_least, aI K (q 28) 59049 m_fewest] := hD.sub [0, 1, 2, 3, 4, 5] (by decide) rfl
  refine lv_if_eq (pc := 9) (tgt := 25) hx hb dX11_planned_9 (by decide) (fun c_2 => ?_) (fun c_2 => ?_)
  · replace hw := hw.1 c_2
    refine lv_bipush (pc := 25) (v := (-2 : Int32)) hx hb dX11_planned_25 (by decide) ?_
    exact hRetI (S := (Nat → Int32)) m_fewest hx hb hr hlocks hQ hw hP hK hD hS dX11_planned_27
  · replace hw := hw.2 c_2
    refine lv_iload_n (pc := 12) hx hb dX11_planned_12 rfl (lv_at hl 2 rfl) ?_
    refine lv_i2l (pc := 13) hx hb dX11_planned_13 rfl ?_
    refine lv_lconst (pc := 14) (v := (0 : Int64)) hx hb dX11_planned_14 (by decide) ?_
    refine lv_iload_n (pc := 15) hx hb dX11_planned_15 rfl (lv_at hl 1 rfl) ?_
    refine lv_iconst (pc := 16) (v := (1 : Int32)) hx hb dX11_planned_16 (by decide) ?_
    refine lv_isub (pc := 17) hx hb dX11_planned_17 ?_
    refine lv_i2l (pc := 18) hx hb dX11_planned_18 rfl ?_
    refine hCallI (pc := 19) (wr := [oX11 q m_kinds m_weighings m_spanLow m_spanHigh m_events m_days m_edges m_crew m_breakages, aI K (q 24) 4 m_plate, aI K (q 25) 4 m_plateFull, aI K (q 26) 4 m_wear, aI K (q 27) 4 m_least, aI K (q 28) 59049 m_fewest]) (wsf := fun (u : Unit) => []) [] [0, 1, 2, 3, 4, 5] (va_runS (As := [.long p2.toInt64, .long (0 : Int64), .long (p1 - (1 : Int32)).toInt64]) (rest := []) ⟨hx, hb, hml, hown, hts⟩ (c_X11_in l G K tb q H.size _ p2.toInt64 (0 : Int64) (p1 - (1 : Int32)).toInt64 hw) (va_cwS 3 hts gX11_planned_X11_in rfl rfl rfl (by decide +kernel) ⟨Nat.le_of_ble_eq_true rfl, Nat.le_of_ble_eq_true rfl⟩) (hPreS hE hP hK hD hS hA [] (by decide) rfl rfl) rfl rfl hl.1 rfl (lv_room (Nat.le_of_ble_eq_true rfl)) dX11_planned_19 ⟨Nat.zero_le _, Nat.zero_le _⟩) hP hD hS hA rfl rfl (by decide) (by decide) (fun r_3 u H locs hw hP hD hS => ?_)
    have hP : va_P G vwCl [oX11 q m_kinds m_weighings m_spanLow m_spanHigh m_events m_days m_edges m_crew m_breakages, aI K (q 24) 4 m_plate, aI K (q 25) 4 m_plateFull, aI K (q 26) 4 m_wear, aI K (q 27) 4 m_least, aI K (q 28) 59049 m_fewest] H := hP.sub [0, 1, 2, 3, 4, 5] rfl
    have hD : va_D A [oX11 q m_kinds m_weighings m_spanLow m_spanHigh m_events m_days m_edges m_crew m_breakages, aI K (q 24) 4 m_plate, aI K (q 25) 4 m_plateFull, aI K (q 26) 4 m_wear, aI K (q 27) 4 m_least, aI K (q 28) 59049 m_fewest] := hD.sub [0, 1, 2, 3, 4, 5] (by decide) rfl
    refine lv_if_ne (pc := 22) (tgt := 28) hx hb dX11_planned_22 (by decide) (fun c_4 => ?_) (fun c_4 => ?_)
    · replace hw := hw.2 c_4
      refine lv_aload_n (pc := 28) hx hb dX11_planned_28 rfl (lv_at hl 0 rfl) ?_
      refine lv_iload_n (pc := 29) hx hb dX11_planned_29 rfl (lv_at hl 1 rfl) ?_
      refine hCallV (pc := 30) (wr := []) (wsf := fun (u : (Nat → Int32)) => [oX11 q m_kinds m_weighings m_spanLow m_spanHigh m_events m_days m_edges m_crew m_breakages, aI K (q 24) 4 m_plate, aI K (q 25) 4 m_plateFull, aI K (q 26) 4 m_wear, aI K (q 27) 4 m_least, aI K (q 28) 59049 u]) [0, 1, 2, 3, 4, 5] [] (va_runV (As := [.int p1]) (rest := []) ⟨hx, hb, hml, hown, hts⟩ (c_X11_layPlan l G K tb q H.size m_kinds m_weighings m_spanLow m_spanHigh m_events m_days m_edges m_breakages _ p1 m_plate m_plateFull m_wear m_least m_crew m_fewest hw) (cwV 1 hts gX11_planned_X11_layPlan rfl rfl rfl (by decide +kernel) ⟨Nat.le_of_ble_eq_true rfl, Nat.le_of_ble_eq_true rfl⟩) (hPreV hE hP hK hD hS hA [0, 1, 2, 3, 4, 5] (by decide) rfl rfl rfl rfl (q0 := 0) (ci := 11) rfl) rfl rfl hl.1 rfl (lv_room (Nat.le_of_ble_eq_true rfl)) dX11_planned_30 ⟨Nat.zero_le _, Nat.zero_le _⟩) hP hD hS hA rfl rfl (by decide) (by decide) (fun u H locs hw hP hD hS => ?_)
      obtain ⟨m_fewest_5, rfl⟩ : ∃ z, z = u := ⟨_, rfl⟩
      have hP : va_P G vwCl [oX11 q m_kinds m_weighings m_spanLow m_spanHigh m_events m_days m_edges m_crew m_breakages, aI K (q 24) 4 m_plate, aI K (q 25) 4 m_plateFull, aI K (q 26) 4 m_wear, aI K (q 27) 4 m_least, aI K (q 28) 59049 m_fewest_5] H := hP.sub [0, 1, 2, 3, 4, 5] rfl
      have hD : va_D A [oX11 q m_kinds m_weighings m_spanLow m_spanHigh m_events m_days m_edges m_crew m_breakages, aI K (q 24) 4 m_plate, aI K (q 25) 4 m_plateFull, aI K (q 26) 4 m_wear, aI K (q 27) 4 m_least, aI K (q 28) 59049 m_fewest_5] := hD.sub [0, 1, 2, 3, 4, 5] (by decide) rfl
      refine lv_aload_n (pc := 33) hx hb dX11_planned_33 rfl (lv_at hl 0 rfl) ?_
      refine va_get (pc := 34) (D := G) (ci := 11) (v := .ref (q 28)) (C := RX11) (T := TX11) (N := 45) hx hb hts iw_X11_planned_X11 hown hK hP 0 rfl rfl 35 (by decide) (hts _ (List.mem_of_getElem? (i := 2) rfl)) (fun _ h9 => h9) rfl dX11_planned_34 ?_
      refine lv_iconst (pc := 37) (v := (0 : Int32)) hx hb dX11_planned_37 (by decide) ?_
      obtain ⟨h_6, hw⟩ := hw
      refine va_iald (pc := 38) hx hb hK hP 5 0 rfl rfl h_6 dX11_planned_38 ?_
      refine lv_ldc (pc := 39) (v := (1000000 : Int32)) hx hb hown (hts _ (List.mem_of_getElem? (i := 3) rfl)) dX11_planned_39 ?_
      refine lv_icmp_lt (pc := 41) (tgt := 47) hx hb dX11_planned_41 (by decide) (fun c_7 => ?_) (fun c_7 => ?_)
      · replace hw := hw.1 c_7
        refine lv_iconst (pc := 47) (v := (0 : Int32)) hx hb dX11_planned_47 (by decide) ?_
        refine lv_istore_n (pc := 48) (lv' := [(3, .int (0 : Int32)), (0, .ref (q 0)), (1, .int p1), (2, .int p2)]) hx hb dX11_planned_48 rfl hl (by decide) rfl (fun ls hl => ?_)
        refine lv_iconst (pc := 49) (v := (0 : Int32)) hx hb dX11_planned_49 (by decide) ?_
        refine lv_istore (pc := 50) (lv' := [(4, .int (0 : Int32)), (3, .int (0 : Int32)), (0, .ref (q 0)), (1, .int p1), (2, .int p2)]) hx hb dX11_planned_50 hl (by decide) rfl (fun ls hl => ?_)
        refine lv_iconst (pc := 52) (v := (0 : Int32)) hx hb dX11_planned_52 (by decide) ?_
        refine lv_istore (pc := 53) (lv' := [(5, .int (0 : Int32)), (4, .int (0 : Int32)), (3, .int (0 : Int32)), (0, .ref (q 0)), (1, .int p1), (2, .int p2)]) hx hb dX11_planned_53 hl (by decide) rfl (fun ls hl => ?_)
        exact hw _ _ _ hP hD hS (lv_sub hl [3, 5, 2, 1, 0] rfl)
      · replace hw := hw.2 c_7
        refine lv_bipush (pc := 44) (v := (-9 : Int32)) hx hb dX11_planned_44 (by decide) ?_
        exact hRetI (S := (Nat → Int32)) m_fewest_5 hx hb hr hlocks hQ hw hP hK hD hS dX11_planned_46
    · replace hw := hw.1 c_4
      refine lv_bipush (pc := 25) (v := (-2 : Int32)) hx hb dX11_planned_25 (by decide) ?_
      exact hRetI (S := (Nat → Int32)) m_fewest hx hb hr hlocks hQ hw hP hK hD hS dX11_planned_27
def P_X11_month (post : Int32 → (Nat → Int32) → Prop) (p1 : Int32) (m_plate : Nat → Int32) (m_plateFull : Nat → Int32) (m_wear : Nat → Int32) (m_least : Nat → Int32) (m_crew : Int32) : Prop :=
  ∀ (X33 : Int32 → Int32 → (Nat → Int32) → Prop),
  (∀ (x2 : Int32) (x3 : Int32) (m_plate : Nat → Int32), ((((4 : Int32) ≤ x3 → post x2 m_plate) ∧ (¬ (4 : Int32) ≤ x3 → ((((p1 >>> (x3 &&& 31)) &&& (1 : Int32)) = (1 : Int32) → (vp_in x3 4 ∧ True)) ∧ (¬ ((p1 >>> (x3 &&& 31)) &&& (1 : Int32)) = (1 : Int32) → (vp_in x3 4 ∧ True))) ∧ ∀ v_9 : Int32, v_9 = (if ((p1 >>> (x3 &&& 31)) &&& (1 : Int32)) = (1 : Int32) then (m_plateFull x3.toNatClampNeg) else (m_plate x3.toNatClampNeg)) → vp_in x3 4 ∧ ∀ y_11 : Int32, y_11 = (v_9 - (m_wear x3.toNatClampNeg)) → ∀ v_13 : Int32, v_13 = (if (0 : Int32) ≤ y_11 then y_11 else (0 : Int32)) → ∀ m_plate_14 : Nat → Int32, m_plate_14 = upd m_plate x3.toNatClampNeg v_13 → ∀ v_16 : Int32, v_16 = (if (m_least x3.toNatClampNeg) ≤ (m_plate_14 x3.toNatClampNeg) then (0 : Int32) else (1 : Int32)) → ∀ y_17 : Int32, y_17 = (x2 + v_16) → ∀ y_18 : Int32, y_18 = (x3 + (1 : Int32)) → X33 y_17 y_18 m_plate_14))) → X33 x2 x3 m_plate) →
  P_X11_in (fun r_1 => ((r_1 = (0 : Int32) → post (-2 : Int32) m_plate) ∧ (¬ r_1 = (0 : Int32) → P_X11_ones (fun r_3 => ((r_3 ≤ m_crew → X33 (0 : Int32) (0 : Int32) m_plate) ∧ (¬ r_3 ≤ m_crew → post (-3 : Int32) m_plate))) p1))) p1.toInt64 (0 : Int64) (15 : Int64)
abbrev rm_X11_month : Room := { frames := 1, cells := 0, slots := 0, locals := 25 }
theorem iw_X11_month_X11 : ∀ w ∈ wsX110, w ∈ wsX11_month := by decide +kernel
set_option maxHeartbeats 4000000 in
set_option maxRecDepth 100000 in
theorem c_X11_month (l : Launch) (G : va_G) (K : ClassId × ClassId × ClassId) (tb q : Nat → Nat) (sz : Nat) (m_kinds : Int32) (m_weighings : Int32) (m_spanLow : Int32) (m_spanHigh : Int32) (m_events : Int32) (m_days : Int32) (m_edges : Int32) (m_breakages : Int32) (post : Int32 → (Nat → Int32) → Prop) (p1 : Int32) (m_plate : Nat → Int32) (m_plateFull : Nat → Int32) (m_wear : Nat → Int32) (m_least : Nat → Int32) (m_crew : Int32) (hw : P_X11_month post p1 m_plate m_plateFull m_wear m_least m_crew) : Met l yX11_month wsX11_month rm_X11_month (va_Pc [.ref (q 0), .int p1] (hPre G K tb [oX11 q m_kinds m_weighings m_spanLow m_spanHigh m_events m_days m_edges m_crew m_breakages, aI K (q 24) 4 m_plate, aI K (q 25) 4 m_plateFull, aI K (q 26) 4 m_wear, aI K (q 27) 4 m_least] sz)) (va_Qi (fun (r : Int32) (u : (Nat → Int32)) => post r u) (fun u => hB G K (va_A [oX11 q m_kinds m_weighings m_spanLow m_spanHigh m_events m_days m_edges m_crew m_breakages, aI K (q 24) 4 m_plate, aI K (q 25) 4 m_plateFull, aI K (q 26) 4 m_wear, aI K (q 27) 4 m_least] sz) [oX11 q m_kinds m_weighings m_spanLow m_spanHigh m_events m_days m_edges m_crew m_breakages, aI K (q 24) 4 u, aI K (q 25) 4 m_plateFull, aI K (q 26) 4 m_wear, aI K (q 27) 4 m_least]) (va_A [oX11 q m_kinds m_weighings m_spanLow m_spanHigh m_events m_days m_edges m_crew m_breakages, aI K (q 24) 4 m_plate, aI K (q 25) 4 m_plateFull, aI K (q 26) 4 m_wear, aI K (q 27) 4 m_least] sz)) 0 0 (va_A [oX11 q m_kinds m_weighings m_spanLow m_spanHigh m_events m_days m_edges m_crew m_breakages, aI K (q 24) 4 m_plate, aI K (q 25) 4 m_plateFull, aI K (q 26) 4 m_wear, aI K (q 27) 4 m_least] sz) := by
  refine hMet (fun A => va_Qi (fun (r : Int32) (u : (Nat → Int32)) => post r u) (fun u => hB G K A [oX11 q m_kinds m_weighings m_spanLow m_spanHigh m_events m_days m_edges m_crew m_breakages, aI K (q 24) 4 u, aI K (q 25) 4 m_plateFull, aI K (q 26) 4 m_wear, aI K (q 27) 4 m_least]) A) (by decide) rfl (Nat.le_of_ble_eq_true rfl) ?_
  intro p e s m av below meth c A Q ls hx hb hr hml hts hown hlocks hnm hA hP hK hD hS hE hQ hl
  have hts : ∀ w ∈ wsX11_month, w.before av s = true := hts
  have hown : s.vm.findClass RX11 = some m.cls := hown
  have hl : lv_has ls 5 [(0, .ref (q 0)), (1, .int p1)] := hl
  unfold P_X11_month at hw
  replace hw := hw (fun (x2 : Int32) (x3 : Int32) (m_plate : Nat → Int32) => ∀ (H : Heap) (locs : List Loc) (ls : Array Slot), va_P G vwCl [oX11 q m_kinds m_weighings m_spanLow m_spanHigh m_events m_days m_edges m_crew m_breakages, aI K (q 24) 4 m_plate, aI K (q 25) 4 m_plateFull, aI K (q 26) 4 m_wear, aI K (q 27) 4 m_least] H → va_D A [oX11 q m_kinds m_weighings m_spanLow m_spanHigh m_events m_days m_edges m_crew m_breakages, aI K (q 24) 4 m_plate, aI K (q 25) 4 m_plateFull, aI K (q 26) 4 m_wear, aI K (q 27) 4 m_least] → va_S A s.heap H locs → lv_has ls 5 [(0, .ref (q 0)), (1, .int p1), (2, .int x2), (3, .int x3)] → W p l e rm_X11_month s m av below meth c H locs 0 0 Q (F0 m 33 ls []))
  replace hw := hw (by
    intro x2 x3 m_plate hw H locs ls hP hD hS hl
    refine lv_iload_n (pc := 33) hx hb dX11_month_33 rfl (lv_at hl 3 rfl) ?_
    refine lv_iconst (pc := 34) (v := (4 : Int32)) hx hb dX11_month_34 (by decide) ?_
    refine lv_icmp_ge (pc := 35) (tgt := 117) hx hb dX11_month_35 (by decide) (fun c_5 => ?_) (fun c_5 => ?_)
    · replace hw := hw.1 c_5
      refine lv_iload_n (pc := 117) hx hb dX11_month_117 rfl (lv_at hl 2 rfl) ?_
      exact hRetI (S := (Nat → Int32)) m_plate hx hb hr hlocks hQ hw hP hK hD hS dX11_month_118
    · replace hw := hw.2 c_5
      refine lv_iload_n (pc := 38) hx hb dX11_month_38 rfl (lv_at hl 1 rfl) ?_
      refine lv_iload_n (pc := 39) hx hb dX11_month_39 rfl (lv_at hl 3 rfl) ?_
      refine lv_ishr (pc := 40) hx hb dX11_month_40 ?_
      refine lv_iconst (pc := 41) (v := (1 : Int32)) hx hb dX11_month_41 (by decide) ?_
      refine lv_iand (pc := 42) hx hb dX11_month_42 ?_
      refine lv_iconst (pc := 43) (v := (1 : Int32)) hx hb dX11_month_43 (by decide) ?_
      obtain ⟨hsf, hw⟩ := hw
      have K_v_9 : ∀ v_9 : Int32, v_9 = (if ((p1 >>> (x3 &&& 31)) &&& (1 : Int32)) = (1 : Int32) then (m_plateFull x3.toNatClampNeg) else (m_plate x3.toNatClampNeg)) → W p l e rm_X11_month s m av below meth c H locs 0 0 Q (F0 m 62 ls [.int v_9]) := by
        intro v_9 ev_9
        replace hw := hw v_9 ev_9
        refine lv_aload_n (pc := 62) hx hb dX11_month_62 rfl (lv_at hl 0 rfl) ?_
        refine va_get (pc := 63) (D := G) (ci := 11) (v := .ref (q 26)) (C := RX11) (T := TX11) (N := 45) hx hb hts iw_X11_month_X11 hown hK hP 0 rfl rfl 32 (by decide) (hts _ (List.mem_of_getElem? (i := 5) rfl)) (fun _ h9 => h9) rfl dX11_month_63 ?_
        refine lv_iload_n (pc := 66) hx hb dX11_month_66 rfl (lv_at hl 3 rfl) ?_
        obtain ⟨h_10, hw⟩ := hw
        refine va_iald (pc := 67) hx hb hK hP 3 0 rfl rfl h_10 dX11_month_67 ?_
        refine lv_isub (pc := 68) hx hb dX11_month_68 ?_
        refine lv_topi (fun y_11 ey_11 => ?_)
        replace hw := hw y_11 ey_11
        refine lv_istore (pc := 69) (lv' := [(4, .int y_11), (0, .ref (q 0)), (1, .int p1), (2, .int x2), (3, .int x3)]) hx hb dX11_month_69 hl (by decide) rfl (fun ls hl => ?_)
        refine lv_aload_n (pc := 71) hx hb dX11_month_71 rfl (lv_at hl 1 rfl) ?_
        refine va_get (pc := 72) (D := G) (ci := 11) (v := .ref (q 24)) (C := RX11) (T := TX11) (N := 45) hx hb hts iw_X11_month_X11 hown hK hP 0 rfl rfl 30 (by decide) (hts _ (List.mem_of_getElem? (i := 4) rfl)) (fun _ h9 => h9) rfl dX11_month_72 ?_
        refine lv_iload_n (pc := 75) hx hb dX11_month_75 rfl (lv_at hl 4 rfl) ?_
        refine lv_iload (pc := 76) hx hb dX11_month_76 (lv_at hl 0 rfl) ?_
        have K_v_13 : ∀ v_13 : Int32, v_13 = (if (0 : Int32) ≤ y_11 then y_11 else (0 : Int32)) → W p l e rm_X11_month s m av below meth c H locs 0 0 Q (F0 m 87 ls [.int v_13, .int x3, .ref (q 24)]) := by
          intro v_13 ev_13
          replace hw := hw v_13 ev_13
          refine va_iast (pc := 87) hx hb hK hP hD hS 1 0 rfl rfl h_10 dX11_month_87 (fun H locs hP hD hS => ?_)
          obtain ⟨m_plate_14, em_plate_14⟩ : ∃ z : Nat → Int32, z = upd m_plate x3.toNatClampNeg v_13 := ⟨_, rfl⟩
          have hP : va_P G vwCl [oX11 q m_kinds m_weighings m_spanLow m_spanHigh m_events m_days m_edges m_crew m_breakages, aI K (q 24) 4 m_plate_14, aI K (q 25) 4 m_plateFull, aI K (q 26) 4 m_wear, aI K (q 27) 4 m_least] H := by rw [em_plate_14]; exact hP
          have hD : va_D A [oX11 q m_kinds m_weighings m_spanLow m_spanHigh m_events m_days m_edges m_crew m_breakages, aI K (q 24) 4 m_plate_14, aI K (q 25) 4 m_plateFull, aI K (q 26) 4 m_wear, aI K (q 27) 4 m_least] := by rw [em_plate_14]; exact hD
          replace hw := hw m_plate_14 em_plate_14
          refine lv_iload_n (pc := 88) hx hb dX11_month_88 rfl (lv_at hl 3 rfl) ?_
          refine lv_aload_n (pc := 89) hx hb dX11_month_89 rfl (lv_at hl 1 rfl) ?_
          refine va_get (pc := 90) (D := G) (ci := 11) (v := .ref (q 24)) (C := RX11) (T := TX11) (N := 45) hx hb hts iw_X11_month_X11 hown hK hP 0 rfl rfl 30 (by decide) (hts _ (List.mem_of_getElem? (i := 4) rfl)) (fun _ h9 => h9) rfl dX11_month_90 ?_
          refine lv_iload_n (pc := 93) hx hb dX11_month_93 rfl (lv_at hl 4 rfl) ?_
          refine va_iald (pc := 94) hx hb hK hP 1 0 rfl rfl h_10 dX11_month_94 ?_
          refine lv_aload_n (pc := 95) hx hb dX11_month_95 rfl (lv_at hl 1 rfl) ?_
          refine va_get (pc := 96) (D := G) (ci := 11) (v := .ref (q 27)) (C := RX11) (T := TX11) (N := 45) hx hb hts iw_X11_month_X11 hown hK hP 0 rfl rfl 33 (by decide) (hts _ (List.mem_of_getElem? (i := 6) rfl)) (fun _ h9 => h9) rfl dX11_month_96 ?_
          refine lv_iload_n (pc := 99) hx hb dX11_month_99 rfl (lv_at hl 4 rfl) ?_
          refine va_iald (pc := 100) hx hb hK hP 4 0 rfl rfl h_10 dX11_month_100 ?_
          have K_v_16 : ∀ v_16 : Int32, v_16 = (if (m_least x3.toNatClampNeg) ≤ (m_plate_14 x3.toNatClampNeg) then (0 : Int32) else (1 : Int32)) → W p l e rm_X11_month s m av below meth c H locs 0 0 Q (F0 m 109 ls [.int v_16, .int x2]) := by
            intro v_16 ev_16
            replace hw := hw v_16 ev_16
            refine lv_iadd (pc := 109) hx hb dX11_month_109 ?_
            refine lv_topi (fun y_17 ey_17 => ?_)
            replace hw := hw y_17 ey_17
            refine lv_istore_n (pc := 110) (lv' := [(2, .int y_17), (4, .int y_11), (0, .ref (q 0)), (1, .int p1), (3, .int x3)]) hx hb dX11_month_110 rfl hl (by decide) rfl (fun ls hl => ?_)
            obtain ⟨y_18, ey_18⟩ : ∃ z : Int32, z = (x3 + (1 : Int32)) := ⟨_, rfl⟩
            replace hw := hw y_18 ey_18
            refine lv_iinc (pc := 111) (v := y_18) (lv' := [(3, .int y_18), (2, .int y_17), (4, .int y_11), (0, .ref (q 0)), (1, .int p1)]) hx hb dX11_month_111 hl (k := 4) rfl (by rw [ey_18]; rfl) (by decide) rfl (fun ls hl => ?_)
            refine lv_goto (pc := 114) (tgt := 33) hx hb dX11_month_114 (by decide) ?_
            exact hw _ _ _ hP hD hS (lv_sub hl [3, 4, 1, 0] rfl)
          refine lv_icmp_ge (pc := 101) (tgt := 108) hx hb dX11_month_101 (by decide) (fun c_15 => ?_) (fun c_15 => ?_)
          · skip
            refine lv_iconst (pc := 108) (v := (0 : Int32)) hx hb dX11_month_108 (by decide) ?_
            exact K_v_16 _ (by rw [if_pos c_15])
          · skip
            refine lv_iconst (pc := 104) (v := (1 : Int32)) hx hb dX11_month_104 (by decide) ?_
            refine lv_goto (pc := 105) (tgt := 109) hx hb dX11_month_105 (by decide) ?_
            exact K_v_16 _ (by rw [if_neg c_15])
        refine lv_if_ge (pc := 78) (tgt := 85) hx hb dX11_month_78 (by decide) (fun c_12 => ?_) (fun c_12 => ?_)
        · skip
          refine lv_iload (pc := 85) hx hb dX11_month_85 (lv_at hl 0 rfl) ?_
          exact K_v_13 _ (by rw [if_pos c_12])
        · skip
          refine lv_iconst (pc := 81) (v := (0 : Int32)) hx hb dX11_month_81 (by decide) ?_
          refine lv_goto (pc := 82) (tgt := 87) hx hb dX11_month_82 (by decide) ?_
          exact K_v_13 _ (by rw [if_neg c_12])
      refine lv_icmp_ne (pc := 44) (tgt := 56) hx hb dX11_month_44 (by decide) (fun c_6 => ?_) (fun c_6 => ?_)
      · replace hsf := hsf.2 c_6
        refine lv_aload_n (pc := 56) hx hb dX11_month_56 rfl (lv_at hl 0 rfl) ?_
        refine va_get (pc := 57) (D := G) (ci := 11) (v := .ref (q 24)) (C := RX11) (T := TX11) (N := 45) hx hb hts iw_X11_month_X11 hown hK hP 0 rfl rfl 30 (by decide) (hts _ (List.mem_of_getElem? (i := 4) rfl)) (fun _ h9 => h9) rfl dX11_month_57 ?_
        refine lv_iload_n (pc := 60) hx hb dX11_month_60 rfl (lv_at hl 3 rfl) ?_
        obtain ⟨h_7, hsf⟩ := hsf
        refine va_iald (pc := 61) hx hb hK hP 1 0 rfl rfl h_7 dX11_month_61 ?_
        exact K_v_9 _ (by rw [if_neg c_6])
      · replace hsf := hsf.1 c_6
        refine lv_aload_n (pc := 47) hx hb dX11_month_47 rfl (lv_at hl 0 rfl) ?_
        refine va_get (pc := 48) (D := G) (ci := 11) (v := .ref (q 25)) (C := RX11) (T := TX11) (N := 45) hx hb hts iw_X11_month_X11 hown hK hP 0 rfl rfl 31 (by decide) (hts _ (List.mem_of_getElem? (i := 3) rfl)) (fun _ h9 => h9) rfl dX11_month_48 ?_
        refine lv_iload_n (pc := 51) hx hb dX11_month_51 rfl (lv_at hl 3 rfl) ?_
        obtain ⟨h_8, hsf⟩ := hsf
        refine va_iald (pc := 52) hx hb hK hP 2 0 rfl rfl h_8 dX11_month_52 ?_
        refine lv_goto (pc := 53) (tgt := 62) hx hb dX11_month_53 (by decide) ?_
        exact K_v_9 _ (by rw [if_pos c_6]))
  refine lv_iload_n (pc := 0) hx hb dX11_month_0 rfl (lv_at hl 1 rfl) ?_
  refine lv_i2l (pc := 1) hx hb dX11_month_1 rfl ?_
  refine lv_lconst (pc := 2) (v := (0 : Int64)) hx hb dX11_month_2 (by decide) ?_
  refine lv_ldc2 (pc := 3) (v := (15 : Int64)) hx hb hown (hts _ (List.mem_of_getElem? (i := 1) rfl)) dX11_month_3 ?_
  refine hCallI (pc := 6) (wr := [oX11 q m_kinds m_weighings m_spanLow m_spanHigh m_events m_days m_edges m_crew m_breakages, aI K (q 24) 4 m_plate, aI K (q 25) 4 m_plateFull, aI K (q 26) 4 m_wear, aI K (q 27) 4 m_least]) (wsf := fun (u : Unit) => []) [] [0, 1, 2, 3, 4] (va_runS (As := [.long p1.toInt64, .long (0 : Int64), .long (15 : Int64)]) (rest := []) ⟨hx, hb, hml, hown, hts⟩ (c_X11_in l G K tb q s.heap.size _ p1.toInt64 (0 : Int64) (15 : Int64) hw) (va_cwS 3 hts gX11_month_X11_in rfl rfl rfl (by decide +kernel) ⟨Nat.le_of_ble_eq_true rfl, Nat.le_of_ble_eq_true rfl⟩) (hPreS hE hP hK hD hS hA [] (by decide) rfl rfl) rfl rfl hl.1 rfl (lv_room (Nat.le_of_ble_eq_true rfl)) dX11_month_6 ⟨Nat.zero_le _, Nat.zero_le _⟩) hP hD hS hA rfl rfl (by decide) (by decide) (fun r_1 u H locs hw hP hD hS => ?_)
  have hP : va_P G vwCl [oX11 q m_kinds m_weighings m_spanLow m_spanHigh m_events m_days m_edges m_crew m_breakages, aI K (q 24) 4 m_plate, aI K (q 25) 4 m_plateFull, aI K (q 26) 4 m_wear, aI K (q 27) 4 m_least] H := hP.sub [0, 1, 2, 3, 4] rfl
  have hD : va_D A [oX11 q m_kinds m_weighings m_spanLow m_spanHigh m_events m_days m_edges m_crew m_breakages, aI K (q 24) 4 m_plate, aI K (q 25) 4 m_plateFull, aI K (q 26) 4 m_wear, aI K (q 27) 4 m_least] := hD.sub [0, 1, 2, 3, 4] (by decide) rfl
  refine lv_if_ne (pc := 9) (tgt := 15) hx hb dX11_month_9 (by decide) (fun c_2 => ?_) (fun c_2 => ?_)
  · replace hw := hw.2 c_2
    refine lv_iload_n (pc := 15) hx hb dX11_month_15 rfl (lv_at hl 1 rfl) ?_
    refine hCallI (pc := 16) (wr := [oX11 q m_kinds m_weighings m_spanLow m_spanHigh m_events m_days m_edges m_crew m_breakages, aI K (q 24) 4 m_plate, aI K (q 25) 4 m_plateFull, aI K (q 26) 4 m_wear, aI K (q 27) 4 m_least]) (wsf := fun (u : Unit) => []) [] [0, 1, 2, 3, 4] (va_runS (As := [.int p1]) (rest := []) ⟨hx, hb, hml, hown, hts⟩ (c_X11_ones l G K tb q H.size _ p1 hw) (va_cwS 1 hts gX11_month_X11_ones rfl rfl rfl (by decide +kernel) ⟨Nat.le_of_ble_eq_true rfl, Nat.le_of_ble_eq_true rfl⟩) (hPreS hE hP hK hD hS hA [] (by decide) rfl rfl) rfl rfl hl.1 rfl (lv_room (Nat.le_of_ble_eq_true rfl)) dX11_month_16 ⟨Nat.zero_le _, Nat.zero_le _⟩) hP hD hS hA rfl rfl (by decide) (by decide) (fun r_3 u H locs hw hP hD hS => ?_)
    have hP : va_P G vwCl [oX11 q m_kinds m_weighings m_spanLow m_spanHigh m_events m_days m_edges m_crew m_breakages, aI K (q 24) 4 m_plate, aI K (q 25) 4 m_plateFull, aI K (q 26) 4 m_wear, aI K (q 27) 4 m_least] H := hP.sub [0, 1, 2, 3, 4] rfl
    have hD : va_D A [oX11 q m_kinds m_weighings m_spanLow m_spanHigh m_events m_days m_edges m_crew m_breakages, aI K (q 24) 4 m_plate, aI K (q 25) 4 m_plateFull, aI K (q 26) 4 m_wear, aI K (q 27) 4 m_least] := hD.sub [0, 1, 2, 3, 4] (by decide) rfl
    refine lv_aload_n (pc := 19) hx hb dX11_month_19 rfl (lv_at hl 0 rfl) ?_
    refine va_get (pc := 20) (D := G) (ci := 11) (v := .int m_crew) (C := RX11) (T := TX11) (N := 45) hx hb hts iw_X11_month_X11 hown hK hP 0 rfl rfl 34 (by decide) (hts _ (List.mem_of_getElem? (i := 2) rfl)) (fun _ h9 => h9) rfl dX11_month_20 ?_
    refine lv_icmp_le (pc := 23) (tgt := 29) hx hb dX11_month_23 (by decide) (fun c_4 => ?_) (fun c_4 => ?_)
    · replace hw := hw.1 c_4
      refine lv_iconst (pc := 29) (v := (0 : Int32)) hx hb dX11_month_29 (by decide) ?_
      refine lv_istore_n (pc := 30) (lv' := [(2, .int (0 : Int32)), (0, .ref (q 0)), (1, .int p1)]) hx hb dX11_month_30 rfl hl (by decide) rfl (fun ls hl => ?_)
      refine lv_iconst (pc := 31) (v := (0 : Int32)) hx hb dX11_month_31 (by decide) ?_
      refine lv_istore_n (pc := 32) (lv' := [(3, .int (0 : Int32)), (2, .int (0 : Int32)), (0, .ref (q 0)), (1, .int p1)]) hx hb dX11_month_32 rfl hl (by decide) rfl (fun ls hl => ?_)
      exact hw _ _ _ hP hD hS (lv_sub hl [2, 3, 1, 0] rfl)
    · replace hw := hw.2 c_4
      refine lv_bipush (pc := 26) (v := (-3 : Int32)) hx hb dX11_month_26 (by decide) ?_
      exact hRetI (S := (Nat → Int32)) m_plate hx hb hr hlocks hQ hw hP hK hD hS dX11_month_28
  · replace hw := hw.1 c_2
    refine lv_bipush (pc := 12) (v := (-2 : Int32)) hx hb dX11_month_12 (by decide) ?_
    exact hRetI (S := (Nat → Int32)) m_plate hx hb hr hlocks hQ hw hP hK hD hS dX11_month_14
def P_X11_match (post : Int32 → Prop) (p1 : Int32) (p2 : Int32) (p3 : Int32) (m_plate : Nat → Int32) : Prop :=
  P_X11_isLot (fun r_1 => ((r_1 = (0 : Int32) → post (-1 : Int32)) ∧ (¬ r_1 = (0 : Int32) → P_X11_isLot (fun r_3 => ((r_3 = (0 : Int32) → post (-1 : Int32)) ∧ (¬ r_3 = (0 : Int32) → P_X11_in (fun r_5 => ((r_5 = (0 : Int32) → post (-2 : Int32)) ∧ (¬ r_5 = (0 : Int32) → vp_in p1 4 ∧ vp_in p2 4 ∧ ∀ y_9 : Int32, y_9 = ((m_plate p1.toNatClampNeg) - (m_plate p2.toNatClampNeg)) → ∀ v_12 : Int32, v_12 = (if p3 < y_9 then (0 : Int32) else (if p3 < (-y_9) then (0 : Int32) else (1 : Int32))) → post v_12))) p3.toInt64 (0 : Int64) (200 : Int64)))) p2))) p1
abbrev rm_X11_match : Room := { frames := 2, cells := 0, slots := 0, locals := 45 }
theorem iw_X11_match_X11 : ∀ w ∈ wsX110, w ∈ wsX11_match := by decide +kernel
set_option maxHeartbeats 4000000 in
set_option maxRecDepth 100000 in
theorem c_X11_match (l : Launch) (G : va_G) (K : ClassId × ClassId × ClassId) (tb q : Nat → Nat) (sz : Nat) (m_kinds : Int32) (m_weighings : Int32) (m_spanLow : Int32) (m_spanHigh : Int32) (m_events : Int32) (m_days : Int32) (m_edges : Int32) (m_crew : Int32) (m_breakages : Int32) (post : Int32 → Prop) (p1 : Int32) (p2 : Int32) (p3 : Int32) (m_plate : Nat → Int32) (hw : P_X11_match post p1 p2 p3 m_plate) : Met l yX11_match wsX11_match rm_X11_match (va_Pc [.ref (q 0), .int p1, .int p2, .int p3] (hPre G K tb [oX11 q m_kinds m_weighings m_spanLow m_spanHigh m_events m_days m_edges m_crew m_breakages, aI K (q 24) 4 m_plate] sz)) (va_Qi (fun (r : Int32) (u : Unit) => post r) (fun u => hB G K (va_A [oX11 q m_kinds m_weighings m_spanLow m_spanHigh m_events m_days m_edges m_crew m_breakages, aI K (q 24) 4 m_plate] sz) [oX11 q m_kinds m_weighings m_spanLow m_spanHigh m_events m_days m_edges m_crew m_breakages, aI K (q 24) 4 m_plate]) (va_A [oX11 q m_kinds m_weighings m_spanLow m_spanHigh m_events m_days m_edges m_crew m_breakages, aI K (q 24) 4 m_plate] sz)) 0 0 (va_A [oX11 q m_kinds m_weighings m_spanLow m_spanHigh m_events m_days m_edges m_crew m_breakages, aI K (q 24) 4 m_plate] sz) := by
  refine hMet (fun A => va_Qi (fun (r : Int32) (u : Unit) => post r) (fun u => hB G K A [oX11 q m_kinds m_weighings m_spanLow m_spanHigh m_events m_days m_edges m_crew m_breakages, aI K (q 24) 4 m_plate]) A) (by decide) rfl (Nat.le_of_ble_eq_true rfl) ?_
  intro p e s m av below meth c A Q ls hx hb hr hml hts hown hlocks hnm hA hP hK hD hS hE hQ hl
  have hts : ∀ w ∈ wsX11_match, w.before av s = true := hts
  have hown : s.vm.findClass RX11 = some m.cls := hown
  have hl : lv_has ls 5 [(0, .ref (q 0)), (1, .int p1), (2, .int p2), (3, .int p3)] := hl
  unfold P_X11_match at hw
  refine lv_iload_n (pc := 0) hx hb dX11_match_0 rfl (lv_at hl 1 rfl) ?_
  refine hCallI (pc := 1) (wr := [oX11 q m_kinds m_weighings m_spanLow m_spanHigh m_events m_days m_edges m_crew m_breakages, aI K (q 24) 4 m_plate]) (wsf := fun (u : Unit) => []) [] [0, 1] (va_runS (As := [.int p1]) (rest := []) ⟨hx, hb, hml, hown, hts⟩ (c_X11_isLot l G K tb q s.heap.size _ p1 hw) (va_cwS 1 hts gX11_match_X11_isLot rfl rfl rfl (by decide +kernel) ⟨Nat.le_of_ble_eq_true rfl, Nat.le_of_ble_eq_true rfl⟩) (hPreS hE hP hK hD hS hA [] (by decide) rfl rfl) rfl rfl hl.1 rfl (lv_room (Nat.le_of_ble_eq_true rfl)) dX11_match_1 ⟨Nat.zero_le _, Nat.zero_le _⟩) hP hD hS hA rfl rfl (by decide) (by decide) (fun r_1 u H locs hw hP hD hS => ?_)
  have hP : va_P G vwCl [oX11 q m_kinds m_weighings m_spanLow m_spanHigh m_events m_days m_edges m_crew m_breakages, aI K (q 24) 4 m_plate] H := hP.sub [0, 1] rfl
  have hD : va_D A [oX11 q m_kinds m_weighings m_spanLow m_spanHigh m_events m_days m_edges m_crew m_breakages, aI K (q 24) 4 m_plate] := hD.sub [0, 1] (by decide) rfl
  refine lv_if_eq (pc := 4) (tgt := 14) hx hb dX11_match_4 (by decide) (fun c_2 => ?_) (fun c_2 => ?_)
  · replace hw := hw.1 c_2
    refine lv_iconst (pc := 14) (v := (-1 : Int32)) hx hb dX11_match_14 (by decide) ?_
    exact hRetI (S := Unit) () hx hb hr hlocks hQ hw hP hK hD hS dX11_match_15
  · replace hw := hw.2 c_2
    refine lv_iload_n (pc := 7) hx hb dX11_match_7 rfl (lv_at hl 2 rfl) ?_
    refine hCallI (pc := 8) (wr := [oX11 q m_kinds m_weighings m_spanLow m_spanHigh m_events m_days m_edges m_crew m_breakages, aI K (q 24) 4 m_plate]) (wsf := fun (u : Unit) => []) [] [0, 1] (va_runS (As := [.int p2]) (rest := []) ⟨hx, hb, hml, hown, hts⟩ (c_X11_isLot l G K tb q H.size _ p2 hw) (va_cwS 1 hts gX11_match_X11_isLot rfl rfl rfl (by decide +kernel) ⟨Nat.le_of_ble_eq_true rfl, Nat.le_of_ble_eq_true rfl⟩) (hPreS hE hP hK hD hS hA [] (by decide) rfl rfl) rfl rfl hl.1 rfl (lv_room (Nat.le_of_ble_eq_true rfl)) dX11_match_8 ⟨Nat.zero_le _, Nat.zero_le _⟩) hP hD hS hA rfl rfl (by decide) (by decide) (fun r_3 u H locs hw hP hD hS => ?_)
    have hP : va_P G vwCl [oX11 q m_kinds m_weighings m_spanLow m_spanHigh m_events m_days m_edges m_crew m_breakages, aI K (q 24) 4 m_plate] H := hP.sub [0, 1] rfl
    have hD : va_D A [oX11 q m_kinds m_weighings m_spanLow m_spanHigh m_events m_days m_edges m_crew m_breakages, aI K (q 24) 4 m_plate] := hD.sub [0, 1] (by decide) rfl
    refine lv_if_ne (pc := 11) (tgt := 16) hx hb dX11_match_11 (by decide) (fun c_4 => ?_) (fun c_4 => ?_)
    · replace hw := hw.2 c_4
      refine lv_iload_n (pc := 16) hx hb dX11_match_16 rfl (lv_at hl 3 rfl) ?_
      refine lv_i2l (pc := 17) hx hb dX11_match_17 rfl ?_
      refine lv_lconst (pc := 18) (v := (0 : Int64)) hx hb dX11_match_18 (by decide) ?_
      refine lv_ldc2 (pc := 19) (v := (200 : Int64)) hx hb hown (hts _ (List.mem_of_getElem? (i := 1) rfl)) dX11_match_19 ?_
      refine hCallI (pc := 22) (wr := [oX11 q m_kinds m_weighings m_spanLow m_spanHigh m_events m_days m_edges m_crew m_breakages, aI K (q 24) 4 m_plate]) (wsf := fun (u : Unit) => []) [] [0, 1] (va_runS (As := [.long p3.toInt64, .long (0 : Int64), .long (200 : Int64)]) (rest := []) ⟨hx, hb, hml, hown, hts⟩ (c_X11_in l G K tb q H.size _ p3.toInt64 (0 : Int64) (200 : Int64) hw) (va_cwS 3 hts gX11_match_X11_in rfl rfl rfl (by decide +kernel) ⟨Nat.le_of_ble_eq_true rfl, Nat.le_of_ble_eq_true rfl⟩) (hPreS hE hP hK hD hS hA [] (by decide) rfl rfl) rfl rfl hl.1 rfl (lv_room (Nat.le_of_ble_eq_true rfl)) dX11_match_22 ⟨Nat.zero_le _, Nat.zero_le _⟩) hP hD hS hA rfl rfl (by decide) (by decide) (fun r_5 u H locs hw hP hD hS => ?_)
      have hP : va_P G vwCl [oX11 q m_kinds m_weighings m_spanLow m_spanHigh m_events m_days m_edges m_crew m_breakages, aI K (q 24) 4 m_plate] H := hP.sub [0, 1] rfl
      have hD : va_D A [oX11 q m_kinds m_weighings m_spanLow m_spanHigh m_events m_days m_edges m_crew m_breakages, aI K (q 24) 4 m_plate] := hD.sub [0, 1] (by decide) rfl
      refine lv_if_ne (pc := 25) (tgt := 31) hx hb dX11_match_25 (by decide) (fun c_6 => ?_) (fun c_6 => ?_)
      · replace hw := hw.2 c_6
        refine lv_aload_n (pc := 31) hx hb dX11_match_31 rfl (lv_at hl 0 rfl) ?_
        refine va_get (pc := 32) (D := G) (ci := 11) (v := .ref (q 24)) (C := RX11) (T := TX11) (N := 45) hx hb hts iw_X11_match_X11 hown hK hP 0 rfl rfl 30 (by decide) (hts _ (List.mem_of_getElem? (i := 2) rfl)) (fun _ h9 => h9) rfl dX11_match_32 ?_
        refine lv_iload_n (pc := 35) hx hb dX11_match_35 rfl (lv_at hl 1 rfl) ?_
        obtain ⟨h_7, hw⟩ := hw
        refine va_iald (pc := 36) hx hb hK hP 1 0 rfl rfl h_7 dX11_match_36 ?_
        refine lv_aload_n (pc := 37) hx hb dX11_match_37 rfl (lv_at hl 0 rfl) ?_
        refine va_get (pc := 38) (D := G) (ci := 11) (v := .ref (q 24)) (C := RX11) (T := TX11) (N := 45) hx hb hts iw_X11_match_X11 hown hK hP 0 rfl rfl 30 (by decide) (hts _ (List.mem_of_getElem? (i := 2) rfl)) (fun _ h9 => h9) rfl dX11_match_38 ?_
        refine lv_iload_n (pc := 41) hx hb dX11_match_41 rfl (lv_at hl 2 rfl) ?_
        obtain ⟨h_8, hw⟩ := hw
        refine va_iald (pc := 42) hx hb hK hP 1 0 rfl rfl h_8 dX11_match_42 ?_
        refine lv_isub (pc := 43) hx hb dX11_match_43 ?_
        refine lv_topi (fun y_9 ey_9 => ?_)
        replace hw := hw y_9 ey_9
        refine lv_istore (pc := 44) (lv' := [(4, .int y_9), (0, .ref (q 0)), (1, .int p1), (2, .int p2), (3, .int p3)]) hx hb dX11_match_44 hl (by decide) rfl (fun ls hl => ?_)
        refine lv_iload (pc := 46) hx hb dX11_match_46 (lv_at hl 0 rfl) ?_
        refine lv_iload_n (pc := 48) hx hb dX11_match_48 rfl (lv_at hl 4 rfl) ?_
        have K_v_12 : ∀ v_12 : Int32, v_12 = (if p3 < y_9 then (0 : Int32) else (if p3 < (-y_9) then (0 : Int32) else (1 : Int32))) → W p l e rm_X11_match s m av below meth c H locs 0 0 Q (F0 m 64 ls [.int v_12]) := by
          intro v_12 ev_12
          replace hw := hw v_12 ev_12
          exact hRetI (S := Unit) () hx hb hr hlocks hQ hw hP hK hD hS dX11_match_64
        refine lv_icmp_gt (pc := 49) (tgt := 63) hx hb dX11_match_49 (by decide) (fun c_10 => ?_) (fun c_10 => ?_)
        · skip
          refine lv_iconst (pc := 63) (v := (0 : Int32)) hx hb dX11_match_63 (by decide) ?_
          exact K_v_12 _ (by rw [if_pos c_10])
        · skip
          refine lv_iload (pc := 52) hx hb dX11_match_52 (lv_at hl 0 rfl) ?_
          refine lv_ineg (pc := 54) hx hb dX11_match_54 ?_
          refine lv_iload_n (pc := 55) hx hb dX11_match_55 rfl (lv_at hl 4 rfl) ?_
          refine lv_icmp_gt (pc := 56) (tgt := 63) hx hb dX11_match_56 (by decide) (fun c_11 => ?_) (fun c_11 => ?_)
          · skip
            refine lv_iconst (pc := 63) (v := (0 : Int32)) hx hb dX11_match_63 (by decide) ?_
            exact K_v_12 _ (by rw [if_neg c_10, if_pos c_11])
          · skip
            refine lv_iconst (pc := 59) (v := (1 : Int32)) hx hb dX11_match_59 (by decide) ?_
            refine lv_goto (pc := 60) (tgt := 64) hx hb dX11_match_60 (by decide) ?_
            exact K_v_12 _ (by rw [if_neg c_10, if_neg c_11])
      · replace hw := hw.1 c_6
        refine lv_bipush (pc := 28) (v := (-2 : Int32)) hx hb dX11_match_28 (by decide) ?_
        exact hRetI (S := Unit) () hx hb hr hlocks hQ hw hP hK hD hS dX11_match_30
    · replace hw := hw.1 c_4
      refine lv_iconst (pc := 14) (v := (-1 : Int32)) hx hb dX11_match_14 (by decide) ?_
      exact hRetI (S := Unit) () hx hb hr hlocks hQ hw hP hK hD hS dX11_match_15
def P_X11_isSign (post : Int32 → Prop) (p0 : Int32) : Prop :=
  ((p0 = (-9 : Int32) → post (1 : Int32)) ∧ (¬ p0 = (-9 : Int32) → P_X11_in (fun r_2 => ∀ v_4 : Int32, v_4 = (if r_2 = (0 : Int32) then (0 : Int32) else (1 : Int32)) → post v_4) p0.toInt64 (0 : Int64) (9 : Int64)))
abbrev rm_X11_isSign : Room := { frames := 1, cells := 0, slots := 0, locals := 25 }
set_option maxHeartbeats 4000000 in
set_option maxRecDepth 100000 in
theorem c_X11_isSign (l : Launch) (G : va_G) (K : ClassId × ClassId × ClassId) (tb q : Nat → Nat) (sz : Nat) (post : Int32 → Prop) (p0 : Int32) (hw : P_X11_isSign post p0) : Met l yX11_isSign wsX11_isSign rm_X11_isSign (va_Pc [.int p0] (hPre G K tb [] sz)) (va_Qi (fun (r : Int32) (u : Unit) => post r) (fun u => hB G K (va_A [] sz) []) (va_A [] sz)) 0 0 (va_A [] sz) := by
  refine hMet (fun A => va_Qi (fun (r : Int32) (u : Unit) => post r) (fun u => hB G K A []) A) (by decide) rfl (Nat.le_of_ble_eq_true rfl) ?_
  intro p e s m av below meth c A Q ls hx hb hr hml hts hown hlocks hnm hA hP hK hD hS hE hQ hl
  have hts : ∀ w ∈ wsX11_isSign, w.before av s = true := hts
  have hown : s.vm.findClass RX11 = some m.cls := hown
  have hl : lv_has ls 1 [(0, .int p0)] := hl
  unfold P_X11_isSign at hw
  refine lv_iload_n (pc := 0) hx hb dX11_isSign_0 rfl (lv_at hl 0 rfl) ?_
  refine lv_bipush (pc := 1) (v := (-9 : Int32)) hx hb dX11_isSign_1 (by decide) ?_
  refine lv_icmp_eq (pc := 3) (tgt := 18) hx hb dX11_isSign_3 (by decide) (fun c_1 => ?_) (fun c_1 => ?_)
  · replace hw := hw.1 c_1
    refine lv_iconst (pc := 18) (v := (1 : Int32)) hx hb dX11_isSign_18 (by decide) ?_
    refine lv_goto (pc := 19) (tgt := 23) hx hb dX11_isSign_19 (by decide) ?_
    exact hRetZ (S := Unit) () hx hb hr hlocks hQ (Or.inr rfl) hw hP hK hD hS dX11_isSign_23
  · replace hw := hw.2 c_1
    refine lv_iload_n (pc := 6) hx hb dX11_isSign_6 rfl (lv_at hl 0 rfl) ?_
    refine lv_i2l (pc := 7) hx hb dX11_isSign_7 rfl ?_
    refine lv_lconst (pc := 8) (v := (0 : Int64)) hx hb dX11_isSign_8 (by decide) ?_
    refine lv_ldc2 (pc := 9) (v := (9 : Int64)) hx hb hown (hts _ (List.mem_of_getElem? (i := 1) rfl)) dX11_isSign_9 ?_
    refine hCallI (pc := 12) (wr := []) (wsf := fun (u : Unit) => []) [] [] (va_runS (As := [.long p0.toInt64, .long (0 : Int64), .long (9 : Int64)]) (rest := []) ⟨hx, hb, hml, hown, hts⟩ (c_X11_in l G K tb q s.heap.size _ p0.toInt64 (0 : Int64) (9 : Int64) hw) (va_cwS 3 hts gX11_isSign_X11_in rfl rfl rfl (by decide +kernel) ⟨Nat.le_of_ble_eq_true rfl, Nat.le_of_ble_eq_true rfl⟩) (hPreS hE hP hK hD hS hA [] (by decide) rfl rfl) rfl rfl hl.1 rfl (lv_room (Nat.le_of_ble_eq_true rfl)) dX11_isSign_12 ⟨Nat.zero_le _, Nat.zero_le _⟩) hP hD hS hA rfl rfl (by decide) (by decide) (fun r_2 u H locs hw hP hD hS => ?_)
    have hP : va_P G vwCl [] H := hP.sub [] rfl
    have hD : va_D A [] := hD.sub [] (by decide) rfl
    have K_v_4 : ∀ v_4 : Int32, v_4 = (if r_2 = (0 : Int32) then (0 : Int32) else (1 : Int32)) → W p l e rm_X11_isSign s m av below meth c H locs 0 0 Q (F0 m 23 ls [.int v_4]) := by
      intro v_4 ev_4
      replace hw := hw v_4 ev_4
      exact hRetZ (S := Unit) () hx hb hr hlocks hQ (by rw [ev_4]; (repeat' split) <;> first | exact Or.inl rfl | exact Or.inr rfl) hw hP hK hD hS dX11_isSign_23
    refine lv_if_eq (pc := 15) (tgt := 22) hx hb dX11_isSign_15 (by decide) (fun c_3 => ?_) (fun c_3 => ?_)
    · skip
      refine lv_iconst (pc := 22) (v := (0 : Int32)) hx hb dX11_isSign_22 (by decide) ?_
      exact K_v_4 _ (by rw [if_pos c_3])
    · skip
      refine lv_iconst (pc := 18) (v := (1 : Int32)) hx hb dX11_isSign_18 (by decide) ?_
      refine lv_goto (pc := 19) (tgt := 23) hx hb dX11_isSign_19 (by decide) ?_
      exact K_v_4 _ (by rw [if_neg c_3])
def P_X11_mark (post : Int32 → (Nat → Int32) → (Nat → Int32) → (Nat → Int32) → Prop) (p1 : Int32) (p2 : Int32) (p3 : Int32) (p4 : Int32) (p5 : Int32) (m_marked : Nat → Int32) (m_signs : Nat → Int32) (m_weights : Nat → Int32) : Prop :=
  P_X11_isSign (fun r_1 => ((r_1 = (0 : Int32) → post (-2 : Int32) m_marked m_signs m_weights) ∧ (¬ r_1 = (0 : Int32) → P_X11_isSign (fun r_3 => ((r_3 = (0 : Int32) → post (-2 : Int32) m_marked m_signs m_weights) ∧ (¬ r_3 = (0 : Int32) → P_X11_isSign (fun r_5 => ((r_5 = (0 : Int32) → post (-2 : Int32) m_marked m_signs m_weights) ∧ (¬ r_5 = (0 : Int32) → P_X11_in (fun r_7 => ((r_7 = (0 : Int32) → post (-2 : Int32) m_marked m_signs m_weights) ∧ (¬ r_7 = (0 : Int32) → ∀ v_10 : Int32, v_10 = (if p1 = (0 : Int32) then (0 : Int32) else (1 : Int32)) → vp_in v_10 2 ∧ (((m_marked v_10.toNatClampNeg) = (8 : Int32) → post (-4 : Int32) m_marked m_signs m_weights) ∧ (¬ (m_marked v_10.toNatClampNeg) = (8 : Int32) → ∀ y_13 : Int32, y_13 = (((8 : Int32) * v_10) + (m_marked v_10.toNatClampNeg)) → vp_in ((3 : Int32) * y_13) 48 ∧ ∀ m_signs_15 : Nat → Int32, m_signs_15 = upd m_signs ((3 : Int32) * y_13).toNatClampNeg p2 → vp_in (((3 : Int32) * y_13) + (1 : Int32)) 48 ∧ ∀ m_signs_17 : Nat → Int32, m_signs_17 = upd m_signs_15 (((3 : Int32) * y_13) + (1 : Int32)).toNatClampNeg p3 → vp_in (((3 : Int32) * y_13) + (2 : Int32)) 48 ∧ ∀ m_signs_19 : Nat → Int32, m_signs_19 = upd m_signs_17 (((3 : Int32) * y_13) + (2 : Int32)).toNatClampNeg p4 → vp_in y_13 16 ∧ ∀ m_weights_21 : Nat → Int32, m_weights_21 = upd m_weights y_13.toNatClampNeg p5 → ∀ m_marked_22 : Nat → Int32, m_marked_22 = upd m_marked v_10.toNatClampNeg ((m_marked v_10.toNatClampNeg) + (1 : Int32)) → post ((m_marked_22 v_10.toNatClampNeg) - (1 : Int32)) m_marked_22 m_signs_19 m_weights_21))))) p5.toInt64 (1 : Int64) (2000 : Int64)))) p4))) p3))) p2
abbrev rm_X11_mark : Room := { frames := 2, cells := 0, slots := 0, locals := 45 }
theorem iw_X11_mark_X11 : ∀ w ∈ wsX110, w ∈ wsX11_mark := by decide +kernel
set_option maxHeartbeats 4000000 in
set_option maxRecDepth 100000 in
theorem c_X11_mark (l : Launch) (G : va_G) (K : ClassId × ClassId × ClassId) (tb q : Nat → Nat) (sz : Nat) (m_kinds : Int32) (m_weighings : Int32) (m_spanLow : Int32) (m_spanHigh : Int32) (m_events : Int32) (m_days : Int32) (m_edges : Int32) (m_crew : Int32) (m_breakages : Int32) (post : Int32 → (Nat → Int32) → (Nat → Int32) → (Nat → Int32) → Prop) (p1 : Int32) (p2 : Int32) (p3 : Int32) (p4 : Int32) (p5 : Int32) (m_marked : Nat → Int32) (m_signs : Nat → Int32) (m_weights : Nat → Int32) (hw : P_X11_mark post p1 p2 p3 p4 p5 m_marked m_signs m_weights) : Met l yX11_mark wsX11_mark rm_X11_mark (va_Pc [.ref (q 0), .int p1, .int p2, .int p3, .int p4, .int p5] (hPre G K tb [oX11 q m_kinds m_weighings m_spanLow m_spanHigh m_events m_days m_edges m_crew m_breakages, aI K (q 29) 2 m_marked, aI K (q 30) 48 m_signs, aI K (q 31) 16 m_weights] sz)) (va_Qi (fun (r : Int32) (u : (Nat → Int32) × (Nat → Int32) × (Nat → Int32)) => post r u.1 u.2.1 u.2.2) (fun u => hB G K (va_A [oX11 q m_kinds m_weighings m_spanLow m_spanHigh m_events m_days m_edges m_crew m_breakages, aI K (q 29) 2 m_marked, aI K (q 30) 48 m_signs, aI K (q 31) 16 m_weights] sz) [oX11 q m_kinds m_weighings m_spanLow m_spanHigh m_events m_days m_edges m_crew m_breakages, aI K (q 29) 2 u.1, aI K (q 30) 48 u.2.1, aI K (q 31) 16 u.2.2]) (va_A [oX11 q m_kinds m_weighings m_spanLow m_spanHigh m_events m_days m_edges m_crew m_breakages, aI K (q 29) 2 m_marked, aI K (q 30) 48 m_signs, aI K (q 31) 16 m_weights] sz)) 0 0 (va_A [oX11 q m_kinds m_weighings m_spanLow m_spanHigh m_events m_days m_edges m_crew m_breakages, aI K (q 29) 2 m_marked, aI K (q 30) 48 m_signs, aI K (q 31) 16 m_weights] sz) := by
  refine hMet (fun A => va_Qi (fun (r : Int32) (u : (Nat → Int32) × (Nat → Int32) × (Nat → Int32)) => post r u.1 u.2.1 u.2.2) (fun u => hB G K A [oX11 q m_kinds m_weighings m_spanLow m_spanHigh m_events m_days m_edges m_crew m_breakages, aI K (q 29) 2 u.1, aI K (q 30) 48 u.2.1, aI K (q 31) 16 u.2.2]) A) (by decide) rfl (Nat.le_of_ble_eq_true rfl) ?_
  intro p e s m av below meth c A Q ls hx hb hr hml hts hown hlocks hnm hA hP hK hD hS hE hQ hl
  have hts : ∀ w ∈ wsX11_mark, w.before av s = true := hts
  have hown : s.vm.findClass RX11 = some m.cls := hown
  have hl : lv_has ls 8 [(0, .ref (q 0)), (1, .int p1), (2, .int p2), (3, .int p3), (4, .int p4), (5, .int p5)] := hl
  unfold P_X11_mark at hw
  refine lv_iload_n (pc := 0) hx hb dX11_mark_0 rfl (lv_at hl 2 rfl) ?_
  refine hCallI (pc := 1) (wr := [oX11 q m_kinds m_weighings m_spanLow m_spanHigh m_events m_days m_edges m_crew m_breakages, aI K (q 29) 2 m_marked, aI K (q 30) 48 m_signs, aI K (q 31) 16 m_weights]) (wsf := fun (u : Unit) => []) [] [0, 1, 2, 3] (va_runS (As := [.int p2]) (rest := []) ⟨hx, hb, hml, hown, hts⟩ (c_X11_isSign l G K tb q s.heap.size _ p2 hw) (va_cwS 1 hts gX11_mark_X11_isSign rfl rfl rfl (by decide +kernel) ⟨Nat.le_of_ble_eq_true rfl, Nat.le_of_ble_eq_true rfl⟩) (hPreS hE hP hK hD hS hA [] (by decide) rfl rfl) rfl rfl hl.1 rfl (lv_room (Nat.le_of_ble_eq_true rfl)) dX11_mark_1 ⟨Nat.zero_le _, Nat.zero_le _⟩) hP hD hS hA rfl rfl (by decide) (by decide) (fun r_1 u H locs hw hP hD hS => ?_)
  have hP : va_P G vwCl [oX11 q m_kinds m_weighings m_spanLow m_spanHigh m_events m_days m_edges m_crew m_breakages, aI K (q 29) 2 m_marked, aI K (q 30) 48 m_signs, aI K (q 31) 16 m_weights] H := hP.sub [0, 1, 2, 3] rfl
  have hD : va_D A [oX11 q m_kinds m_weighings m_spanLow m_spanHigh m_events m_days m_edges m_crew m_breakages, aI K (q 29) 2 m_marked, aI K (q 30) 48 m_signs, aI K (q 31) 16 m_weights] := hD.sub [0, 1, 2, 3] (by decide) rfl
  refine lv_if_eq (pc := 4) (tgt := 35) hx hb dX11_mark_4 (by decide) (fun c_2 => ?_) (fun c_2 => ?_)
  · replace hw := hw.1 c_2
    refine lv_bipush (pc := 35) (v := (-2 : Int32)) hx hb dX11_mark_35 (by decide) ?_
    exact hRetI (S := (Nat → Int32) × (Nat → Int32) × (Nat → Int32)) (m_marked, m_signs, m_weights) hx hb hr hlocks hQ hw hP hK hD hS dX11_mark_37
  · replace hw := hw.2 c_2
    refine lv_iload_n (pc := 7) hx hb dX11_mark_7 rfl (lv_at hl 3 rfl) ?_
    refine hCallI (pc := 8) (wr := [oX11 q m_kinds m_weighings m_spanLow m_spanHigh m_events m_days m_edges m_crew m_breakages, aI K (q 29) 2 m_marked, aI K (q 30) 48 m_signs, aI K (q 31) 16 m_weights]) (wsf := fun (u : Unit) => []) [] [0, 1, 2, 3] (va_runS (As := [.int p3]) (rest := []) ⟨hx, hb, hml, hown, hts⟩ (c_X11_isSign l G K tb q H.size _ p3 hw) (va_cwS 1 hts gX11_mark_X11_isSign rfl rfl rfl (by decide +kernel) ⟨Nat.le_of_ble_eq_true rfl, Nat.le_of_ble_eq_true rfl⟩) (hPreS hE hP hK hD hS hA [] (by decide) rfl rfl) rfl rfl hl.1 rfl (lv_room (Nat.le_of_ble_eq_true rfl)) dX11_mark_8 ⟨Nat.zero_le _, Nat.zero_le _⟩) hP hD hS hA rfl rfl (by decide) (by decide) (fun r_3 u H locs hw hP hD hS => ?_)
    have hP : va_P G vwCl [oX11 q m_kinds m_weighings m_spanLow m_spanHigh m_events m_days m_edges m_crew m_breakages, aI K (q 29) 2 m_marked, aI K (q 30) 48 m_signs, aI K (q 31) 16 m_weights] H := hP.sub [0, 1, 2, 3] rfl
    have hD : va_D A [oX11 q m_kinds m_weighings m_spanLow m_spanHigh m_events m_days m_edges m_crew m_breakages, aI K (q 29) 2 m_marked, aI K (q 30) 48 m_signs, aI K (q 31) 16 m_weights] := hD.sub [0, 1, 2, 3] (by decide) rfl
    refine lv_if_eq (pc := 11) (tgt := 35) hx hb dX11_mark_11 (by decide) (fun c_4 => ?_) (fun c_4 => ?_)
    · replace hw := hw.1 c_4
      refine lv_bipush (pc := 35) (v := (-2 : Int32)) hx hb dX11_mark_35 (by decide) ?_
      exact hRetI (S := (Nat → Int32) × (Nat → Int32) × (Nat → Int32)) (m_marked, m_signs, m_weights) hx hb hr hlocks hQ hw hP hK hD hS dX11_mark_37
    · replace hw := hw.2 c_4
      refine lv_iload (pc := 14) hx hb dX11_mark_14 (lv_at hl 4 rfl) ?_
      refine hCallI (pc := 16) (wr := [oX11 q m_kinds m_weighings m_spanLow m_spanHigh m_events m_days m_edges m_crew m_breakages, aI K (q 29) 2 m_marked, aI K (q 30) 48 m_signs, aI K (q 31) 16 m_weights]) (wsf := fun (u : Unit) => []) [] [0, 1, 2, 3] (va_runS (As := [.int p4]) (rest := []) ⟨hx, hb, hml, hown, hts⟩ (c_X11_isSign l G K tb q H.size _ p4 hw) (va_cwS 1 hts gX11_mark_X11_isSign rfl rfl rfl (by decide +kernel) ⟨Nat.le_of_ble_eq_true rfl, Nat.le_of_ble_eq_true rfl⟩) (hPreS hE hP hK hD hS hA [] (by decide) rfl rfl) rfl rfl hl.1 rfl (lv_room (Nat.le_of_ble_eq_true rfl)) dX11_mark_16 ⟨Nat.zero_le _, Nat.zero_le _⟩) hP hD hS hA rfl rfl (by decide) (by decide) (fun r_5 u H locs hw hP hD hS => ?_)
      have hP : va_P G vwCl [oX11 q m_kinds m_weighings m_spanLow m_spanHigh m_events m_days m_edges m_crew m_breakages, aI K (q 29) 2 m_marked, aI K (q 30) 48 m_signs, aI K (q 31) 16 m_weights] H := hP.sub [0, 1, 2, 3] rfl
      have hD : va_D A [oX11 q m_kinds m_weighings m_spanLow m_spanHigh m_events m_days m_edges m_crew m_breakages, aI K (q 29) 2 m_marked, aI K (q 30) 48 m_signs, aI K (q 31) 16 m_weights] := hD.sub [0, 1, 2, 3] (by decide) rfl
      refine lv_if_eq (pc := 19) (tgt := 35) hx hb dX11_mark_19 (by decide) (fun c_6 => ?_) (fun c_6 => ?_)
      · replace hw := hw.1 c_6
        refine lv_bipush (pc := 35) (v := (-2 : Int32)) hx hb dX11_mark_35 (by decide) ?_
        exact hRetI (S := (Nat → Int32) × (Nat → Int32) × (Nat → Int32)) (m_marked, m_signs, m_weights) hx hb hr hlocks hQ hw hP hK hD hS dX11_mark_37
      · replace hw := hw.2 c_6
        refine lv_iload (pc := 22) hx hb dX11_mark_22 (lv_at hl 5 rfl) ?_
        refine lv_i2l (pc := 24) hx hb dX11_mark_24 rfl ?_
        refine lv_lconst (pc := 25) (v := (1 : Int64)) hx hb dX11_mark_25 (by decide) ?_
        refine lv_ldc2 (pc := 26) (v := (2000 : Int64)) hx hb hown (hts _ (List.mem_of_getElem? (i := 1) rfl)) dX11_mark_26 ?_
        refine hCallI (pc := 29) (wr := [oX11 q m_kinds m_weighings m_spanLow m_spanHigh m_events m_days m_edges m_crew m_breakages, aI K (q 29) 2 m_marked, aI K (q 30) 48 m_signs, aI K (q 31) 16 m_weights]) (wsf := fun (u : Unit) => []) [] [0, 1, 2, 3] (va_runS (As := [.long p5.toInt64, .long (1 : Int64), .long (2000 : Int64)]) (rest := []) ⟨hx, hb, hml, hown, hts⟩ (c_X11_in l G K tb q H.size _ p5.toInt64 (1 : Int64) (2000 : Int64) hw) (va_cwS 3 hts gX11_mark_X11_in rfl rfl rfl (by decide +kernel) ⟨Nat.le_of_ble_eq_true rfl, Nat.le_of_ble_eq_true rfl⟩) (hPreS hE hP hK hD hS hA [] (by decide) rfl rfl) rfl rfl hl.1 rfl (lv_room (Nat.le_of_ble_eq_true rfl)) dX11_mark_29 ⟨Nat.zero_le _, Nat.zero_le _⟩) hP hD hS hA rfl rfl (by decide) (by decide) (fun r_7 u H locs hw hP hD hS => ?_)
        have hP : va_P G vwCl [oX11 q m_kinds m_weighings m_spanLow m_spanHigh m_events m_days m_edges m_crew m_breakages, aI K (q 29) 2 m_marked, aI K (q 30) 48 m_signs, aI K (q 31) 16 m_weights] H := hP.sub [0, 1, 2, 3] rfl
        have hD : va_D A [oX11 q m_kinds m_weighings m_spanLow m_spanHigh m_events m_days m_edges m_crew m_breakages, aI K (q 29) 2 m_marked, aI K (q 30) 48 m_signs, aI K (q 31) 16 m_weights] := hD.sub [0, 1, 2, 3] (by decide) rfl
        refine lv_if_ne (pc := 32) (tgt := 38) hx hb dX11_mark_32 (by decide) (fun c_8 => ?_) (fun c_8 => ?_)
        · replace hw := hw.2 c_8
          refine lv_iload_n (pc := 38) hx hb dX11_mark_38 rfl (lv_at hl 1 rfl) ?_
          have K_v_10 : ∀ v_10 : Int32, v_10 = (if p1 = (0 : Int32) then (0 : Int32) else (1 : Int32)) → W p l e rm_X11_mark s m av below meth c H locs 0 0 Q (F0 m 47 ls [.int v_10]) := by
            intro v_10 ev_10
            replace hw := hw v_10 ev_10
            refine lv_istore (pc := 47) (lv' := [(6, .int v_10), (0, .ref (q 0)), (1, .int p1), (2, .int p2), (3, .int p3), (4, .int p4), (5, .int p5)]) hx hb dX11_mark_47 hl (by decide) rfl (fun ls hl => ?_)
            refine lv_aload_n (pc := 49) hx hb dX11_mark_49 rfl (lv_at hl 1 rfl) ?_
            refine va_get (pc := 50) (D := G) (ci := 11) (v := .ref (q 29)) (C := RX11) (T := TX11) (N := 45) hx hb hts iw_X11_mark_X11 hown hK hP 0 rfl rfl 36 (by decide) (hts _ (List.mem_of_getElem? (i := 2) rfl)) (fun _ h9 => h9) rfl dX11_mark_50 ?_
            refine lv_iload (pc := 53) hx hb dX11_mark_53 (lv_at hl 0 rfl) ?_
            obtain ⟨h_11, hw⟩ := hw
            refine va_iald (pc := 55) hx hb hK hP 1 0 rfl rfl h_11 dX11_mark_55 ?_
            refine lv_bipush (pc := 56) (v := (8 : Int32)) hx hb dX11_mark_56 (by decide) ?_
            refine lv_icmp_ne (pc := 58) (tgt := 64) hx hb dX11_mark_58 (by decide) (fun c_12 => ?_) (fun c_12 => ?_)
            · replace hw := hw.2 c_12
              refine lv_bipush (pc := 64) (v := (8 : Int32)) hx hb dX11_mark_64 (by decide) ?_
              refine lv_iload (pc := 66) hx hb dX11_mark_66 (lv_at hl 0 rfl) ?_
              refine lv_imul (pc := 68) hx hb dX11_mark_68 ?_
              refine lv_aload_n (pc := 69) hx hb dX11_mark_69 rfl (lv_at hl 1 rfl) ?_
              refine va_get (pc := 70) (D := G) (ci := 11) (v := .ref (q 29)) (C := RX11) (T := TX11) (N := 45) hx hb hts iw_X11_mark_X11 hown hK hP 0 rfl rfl 36 (by decide) (hts _ (List.mem_of_getElem? (i := 2) rfl)) (fun _ h9 => h9) rfl dX11_mark_70 ?_
              refine lv_iload (pc := 73) hx hb dX11_mark_73 (lv_at hl 0 rfl) ?_
              refine va_iald (pc := 75) hx hb hK hP 1 0 rfl rfl h_11 dX11_mark_75 ?_
              refine lv_iadd (pc := 76) hx hb dX11_mark_76 ?_
              refine lv_topi (fun y_13 ey_13 => ?_)
              replace hw := hw y_13 ey_13
              refine lv_istore (pc := 77) (lv' := [(7, .int y_13), (6, .int v_10), (0, .ref (q 0)), (1, .int p1), (2, .int p2), (3, .int p3), (4, .int p4), (5, .int p5)]) hx hb dX11_mark_77 hl (by decide) rfl (fun ls hl => ?_)
              refine lv_aload_n (pc := 79) hx hb dX11_mark_79 rfl (lv_at hl 2 rfl) ?_
              refine va_get (pc := 80) (D := G) (ci := 11) (v := .ref (q 30)) (C := RX11) (T := TX11) (N := 45) hx hb hts iw_X11_mark_X11 hown hK hP 0 rfl rfl 37 (by decide) (hts _ (List.mem_of_getElem? (i := 3) rfl)) (fun _ h9 => h9) rfl dX11_mark_80 ?_
              refine lv_iconst (pc := 83) (v := (3 : Int32)) hx hb dX11_mark_83 (by decide) ?_
              refine lv_iload (pc := 84) hx hb dX11_mark_84 (lv_at hl 0 rfl) ?_
              refine lv_imul (pc := 86) hx hb dX11_mark_86 ?_
              refine lv_iload_n (pc := 87) hx hb dX11_mark_87 rfl (lv_at hl 4 rfl) ?_
              obtain ⟨h_14, hw⟩ := hw
              refine va_iast (pc := 88) hx hb hK hP hD hS 2 0 rfl rfl h_14 dX11_mark_88 (fun H locs hP hD hS => ?_)
              obtain ⟨m_signs_15, em_signs_15⟩ : ∃ z : Nat → Int32, z = upd m_signs ((3 : Int32) * y_13).toNatClampNeg p2 := ⟨_, rfl⟩
              have hP : va_P G vwCl [oX11 q m_kinds m_weighings m_spanLow m_spanHigh m_events m_days m_edges m_crew m_breakages, aI K (q 29) 2 m_marked, aI K (q 30) 48 m_signs_15, aI K (q 31) 16 m_weights] H := by rw [em_signs_15]; exact hP
              have hD : va_D A [oX11 q m_kinds m_weighings m_spanLow m_spanHigh m_events m_days m_edges m_crew m_breakages, aI K (q 29) 2 m_marked, aI K (q 30) 48 m_signs_15, aI K (q 31) 16 m_weights] := by rw [em_signs_15]; exact hD
              replace hw := hw m_signs_15 em_signs_15
              refine lv_aload_n (pc := 89) hx hb dX11_mark_89 rfl (lv_at hl 2 rfl) ?_
              refine va_get (pc := 90) (D := G) (ci := 11) (v := .ref (q 30)) (C := RX11) (T := TX11) (N := 45) hx hb hts iw_X11_mark_X11 hown hK hP 0 rfl rfl 37 (by decide) (hts _ (List.mem_of_getElem? (i := 3) rfl)) (fun _ h9 => h9) rfl dX11_mark_90 ?_
              refine lv_iconst (pc := 93) (v := (3 : Int32)) hx hb dX11_mark_93 (by decide) ?_
              refine lv_iload (pc := 94) hx hb dX11_mark_94 (lv_at hl 0 rfl) ?_
              refine lv_imul (pc := 96) hx hb dX11_mark_96 ?_
              refine lv_iconst (pc := 97) (v := (1 : Int32)) hx hb dX11_mark_97 (by decide) ?_
              refine lv_iadd (pc := 98) hx hb dX11_mark_98 ?_
              refine lv_iload_n (pc := 99) hx hb dX11_mark_99 rfl (lv_at hl 5 rfl) ?_
              obtain ⟨h_16, hw⟩ := hw
              refine va_iast (pc := 100) hx hb hK hP hD hS 2 0 rfl rfl h_16 dX11_mark_100 (fun H locs hP hD hS => ?_)
              obtain ⟨m_signs_17, em_signs_17⟩ : ∃ z : Nat → Int32, z = upd m_signs_15 (((3 : Int32) * y_13) + (1 : Int32)).toNatClampNeg p3 := ⟨_, rfl⟩
              have hP : va_P G vwCl [oX11 q m_kinds m_weighings m_spanLow m_spanHigh m_events m_days m_edges m_crew m_breakages, aI K (q 29) 2 m_marked, aI K (q 30) 48 m_signs_17, aI K (q 31) 16 m_weights] H := by rw [em_signs_17]; exact hP
              have hD : va_D A [oX11 q m_kinds m_weighings m_spanLow m_spanHigh m_events m_days m_edges m_crew m_breakages, aI K (q 29) 2 m_marked, aI K (q 30) 48 m_signs_17, aI K (q 31) 16 m_weights] := by rw [em_signs_17]; exact hD
              replace hw := hw m_signs_17 em_signs_17
              refine lv_aload_n (pc := 101) hx hb dX11_mark_101 rfl (lv_at hl 2 rfl) ?_
              refine va_get (pc := 102) (D := G) (ci := 11) (v := .ref (q 30)) (C := RX11) (T := TX11) (N := 45) hx hb hts iw_X11_mark_X11 hown hK hP 0 rfl rfl 37 (by decide) (hts _ (List.mem_of_getElem? (i := 3) rfl)) (fun _ h9 => h9) rfl dX11_mark_102 ?_
              refine lv_iconst (pc := 105) (v := (3 : Int32)) hx hb dX11_mark_105 (by decide) ?_
              refine lv_iload (pc := 106) hx hb dX11_mark_106 (lv_at hl 0 rfl) ?_
              refine lv_imul (pc := 108) hx hb dX11_mark_108 ?_
              refine lv_iconst (pc := 109) (v := (2 : Int32)) hx hb dX11_mark_109 (by decide) ?_
              refine lv_iadd (pc := 110) hx hb dX11_mark_110 ?_
              refine lv_iload (pc := 111) hx hb dX11_mark_111 (lv_at hl 6 rfl) ?_
              obtain ⟨h_18, hw⟩ := hw
              refine va_iast (pc := 113) hx hb hK hP hD hS 2 0 rfl rfl h_18 dX11_mark_113 (fun H locs hP hD hS => ?_)
              obtain ⟨m_signs_19, em_signs_19⟩ : ∃ z : Nat → Int32, z = upd m_signs_17 (((3 : Int32) * y_13) + (2 : Int32)).toNatClampNeg p4 := ⟨_, rfl⟩
              have hP : va_P G vwCl [oX11 q m_kinds m_weighings m_spanLow m_spanHigh m_events m_days m_edges m_crew m_breakages, aI K (q 29) 2 m_marked, aI K (q 30) 48 m_signs_19, aI K (q 31) 16 m_weights] H := by rw [em_signs_19]; exact hP
              have hD : va_D A [oX11 q m_kinds m_weighings m_spanLow m_spanHigh m_events m_days m_edges m_crew m_breakages, aI K (q 29) 2 m_marked, aI K (q 30) 48 m_signs_19, aI K (q 31) 16 m_weights] := by rw [em_signs_19]; exact hD
              replace hw := hw m_signs_19 em_signs_19
              refine lv_aload_n (pc := 114) hx hb dX11_mark_114 rfl (lv_at hl 2 rfl) ?_
              refine va_get (pc := 115) (D := G) (ci := 11) (v := .ref (q 31)) (C := RX11) (T := TX11) (N := 45) hx hb hts iw_X11_mark_X11 hown hK hP 0 rfl rfl 38 (by decide) (hts _ (List.mem_of_getElem? (i := 4) rfl)) (fun _ h9 => h9) rfl dX11_mark_115 ?_
              refine lv_iload (pc := 118) hx hb dX11_mark_118 (lv_at hl 0 rfl) ?_
              refine lv_iload (pc := 120) hx hb dX11_mark_120 (lv_at hl 7 rfl) ?_
              obtain ⟨h_20, hw⟩ := hw
              refine va_iast (pc := 122) hx hb hK hP hD hS 3 0 rfl rfl h_20 dX11_mark_122 (fun H locs hP hD hS => ?_)
              obtain ⟨m_weights_21, em_weights_21⟩ : ∃ z : Nat → Int32, z = upd m_weights y_13.toNatClampNeg p5 := ⟨_, rfl⟩
              have hP : va_P G vwCl [oX11 q m_kinds m_weighings m_spanLow m_spanHigh m_events m_days m_edges m_crew m_breakages, aI K (q 29) 2 m_marked, aI K (q 30) 48 m_signs_19, aI K (q 31) 16 m_weights_21] H := by rw [em_weights_21]; exact hP
              have hD : va_D A [oX11 q m_kinds m_weighings m_spanLow m_spanHigh m_events m_days m_edges m_crew m_breakages, aI K (q 29) 2 m_marked, aI K (q 30) 48 m_signs_19, aI K (q 31) 16 m_weights_21] := by rw [em_weights_21]; exact hD
              replace hw := hw m_weights_21 em_weights_21
              refine lv_aload_n (pc := 123) hx hb dX11_mark_123 rfl (lv_at hl 2 rfl) ?_
              refine va_get (pc := 124) (D := G) (ci := 11) (v := .ref (q 29)) (C := RX11) (T := TX11) (N := 45) hx hb hts iw_X11_mark_X11 hown hK hP 0 rfl rfl 36 (by decide) (hts _ (List.mem_of_getElem? (i := 2) rfl)) (fun _ h9 => h9) rfl dX11_mark_124 ?_
              refine lv_iload (pc := 127) hx hb dX11_mark_127 (lv_at hl 1 rfl) ?_
              refine lv_dup2_11 (pc := 129) hx hb dX11_mark_129 rfl rfl ?_
              refine va_iald (pc := 130) hx hb hK hP 1 0 rfl rfl h_11 dX11_mark_130 ?_
              refine lv_iconst (pc := 131) (v := (1 : Int32)) hx hb dX11_mark_131 (by decide) ?_
              refine lv_iadd (pc := 132) hx hb dX11_mark_132 ?_
              refine va_iast (pc := 133) hx hb hK hP hD hS 1 0 rfl rfl h_11 dX11_mark_133 (fun H locs hP hD hS => ?_)
              obtain ⟨m_marked_22, em_marked_22⟩ : ∃ z : Nat → Int32, z = upd m_marked v_10.toNatClampNeg ((m_marked v_10.toNatClampNeg) + (1 : Int32)) := ⟨_, rfl⟩
              have hP : va_P G vwCl [oX11 q m_kinds m_weighings m_spanLow m_spanHigh m_events m_days m_edges m_crew m_breakages, aI K (q 29) 2 m_marked_22, aI K (q 30) 48 m_signs_19, aI K (q 31) 16 m_weights_21] H := by rw [em_marked_22]; exact hP
              have hD : va_D A [oX11 q m_kinds m_weighings m_spanLow m_spanHigh m_events m_days m_edges m_crew m_breakages, aI K (q 29) 2 m_marked_22, aI K (q 30) 48 m_signs_19, aI K (q 31) 16 m_weights_21] := by rw [em_marked_22]; exact hD
              replace hw := hw m_marked_22 em_marked_22
              refine lv_aload_n (pc := 134) hx hb dX11_mark_134 rfl (lv_at hl 2 rfl) ?_
              refine va_get (pc := 135) (D := G) (ci := 11) (v := .ref (q 29)) (C := RX11) (T := TX11) (N := 45) hx hb hts iw_X11_mark_X11 hown hK hP 0 rfl rfl 36 (by decide) (hts _ (List.mem_of_getElem? (i := 2) rfl)) (fun _ h9 => h9) rfl dX11_mark_135 ?_
              refine lv_iload (pc := 138) hx hb dX11_mark_138 (lv_at hl 1 rfl) ?_
              refine va_iald (pc := 140) hx hb hK hP 1 0 rfl rfl h_11 dX11_mark_140 ?_
              refine lv_iconst (pc := 141) (v := (1 : Int32)) hx hb dX11_mark_141 (by decide) ?_
              refine lv_isub (pc := 142) hx hb dX11_mark_142 ?_
              exact hRetI (S := (Nat → Int32) × (Nat → Int32) × (Nat → Int32)) (m_marked_22, m_signs_19, m_weights_21) hx hb hr hlocks hQ hw hP hK hD hS dX11_mark_143
            · replace hw := hw.1 c_12
              refine lv_bipush (pc := 61) (v := (-4 : Int32)) hx hb dX11_mark_61 (by decide) ?_
              exact hRetI (S := (Nat → Int32) × (Nat → Int32) × (Nat → Int32)) (m_marked, m_signs, m_weights) hx hb hr hlocks hQ hw hP hK hD hS dX11_mark_63
          refine lv_if_eq (pc := 39) (tgt := 46) hx hb dX11_mark_39 (by decide) (fun c_9 => ?_) (fun c_9 => ?_)
          · skip
            refine lv_iconst (pc := 46) (v := (0 : Int32)) hx hb dX11_mark_46 (by decide) ?_
            exact K_v_10 _ (by rw [if_pos c_9])
          · skip
            refine lv_iconst (pc := 42) (v := (1 : Int32)) hx hb dX11_mark_42 (by decide) ?_
            refine lv_goto (pc := 43) (tgt := 47) hx hb dX11_mark_43 (by decide) ?_
            exact K_v_10 _ (by rw [if_neg c_9])
        · replace hw := hw.1 c_8
          refine lv_bipush (pc := 35) (v := (-2 : Int32)) hx hb dX11_mark_35 (by decide) ?_
          exact hRetI (S := (Nat → Int32) × (Nat → Int32) × (Nat → Int32)) (m_marked, m_signs, m_weights) hx hb hr hlocks hQ hw hP hK hD hS dX11_mark_37
def P_X11_clear (post : Int32 → (Nat → Int32) → Prop) (m_marked : Nat → Int32) : Prop :=
  vp_in (0 : Int32) 2 ∧ vp_in (1 : Int32) 2 ∧ ∀ y_3 : Int32, y_3 = ((m_marked (0 : Int32).toNatClampNeg) + (m_marked (1 : Int32).toNatClampNeg)) → ∀ m_marked_4 : Nat → Int32, m_marked_4 = upd m_marked (0 : Int32).toNatClampNeg (0 : Int32) → ∀ m_marked_5 : Nat → Int32, m_marked_5 = upd m_marked_4 (1 : Int32).toNatClampNeg (0 : Int32) → post y_3 m_marked_5
abbrev rm_X11_clear : Room := { frames := 0, cells := 0, slots := 0, locals := 0 }
theorem iw_X11_clear_X11 : ∀ w ∈ wsX110, w ∈ wsX11_clear := by decide +kernel
set_option maxHeartbeats 4000000 in
set_option maxRecDepth 100000 in
theorem c_X11_clear (l : Launch) (G : va_G) (K : ClassId × ClassId × ClassId) (tb q : Nat → Nat) (sz : Nat) (m_kinds : Int32) (m_weighings : Int32) (m_spanLow : Int32) (m_spanHigh : Int32) (m_events : Int32) (m_days : Int32) (m_edges : Int32) (m_crew : Int32) (m_breakages : Int32) (post : Int32 → (Nat → Int32) → Prop) (m_marked : Nat → Int32) (hw : P_X11_clear post m_marked) : Met l yX11_clear wsX11_clear rm_X11_clear (va_Pc [.ref (q 0)] (hPre G K tb [oX11 q m_kinds m_weighings m_spanLow m_spanHigh m_events m_days m_edges m_crew m_breakages, aI K (q 29) 2 m_marked] sz)) (va_Qi (fun (r : Int32) (u : (Nat → Int32)) => post r u) (fun u => hB G K (va_A [oX11 q m_kinds m_weighings m_spanLow m_spanHigh m_events m_days m_edges m_crew m_breakages, aI K (q 29) 2 m_marked] sz) [oX11 q m_kinds m_weighings m_spanLow m_spanHigh m_events m_days m_edges m_crew m_breakages, aI K (q 29) 2 u]) (va_A [oX11 q m_kinds m_weighings m_spanLow m_spanHigh m_events m_days m_edges m_crew m_breakages, aI K (q 29) 2 m_marked] sz)) 0 0 (va_A [oX11 q m_kinds m_weighings m_spanLow m_spanHigh m_events m_days m_edges m_crew m_breakages, aI K (q 29) 2 m_marked] sz) := by
  refine hMet (fun A => va_Qi (fun (r : Int32) (u : (Nat → Int32)) => post r u) (fun u => hB G K A [oX11 q m_kinds m_weighings m_spanLow m_spanHigh m_events m_days m_edges m_crew m_breakages, aI K (q 29) 2 u]) A) (by decide) rfl (Nat.le_of_ble_eq_true rfl) ?_
  intro p e s m av below meth c A Q ls hx hb hr hml hts hown hlocks hnm hA hP hK hD hS hE hQ hl
  have hts : ∀ w ∈ wsX11_clear, w.before av s = true := hts
  have hown : s.vm.findClass RX11 = some m.cls := hown
  have hl : lv_has ls 2 [(0, .ref (q 0))] := hl
  unfold P_X11_clear at hw
  refine lv_aload_n (pc := 0) hx hb dX11_clear_0 rfl (lv_at hl 0 rfl) ?_
  refine va_get (pc := 1) (D := G) (ci := 11) (v := .ref (q 29)) (C := RX11) (T := TX11) (N := 45) hx hb hts iw_X11_clear_X11 hown hK hP 0 rfl rfl 36 (by decide) (hts _ (List.mem_of_getElem? (i := 1) rfl)) (fun _ h9 => h9) rfl dX11_clear_1 ?_
  refine lv_iconst (pc := 4) (v := (0 : Int32)) hx hb dX11_clear_4 (by decide) ?_
  obtain ⟨h_1, hw⟩ := hw
  refine va_iald (pc := 5) hx hb hK hP 1 0 rfl rfl h_1 dX11_clear_5 ?_
  refine lv_aload_n (pc := 6) hx hb dX11_clear_6 rfl (lv_at hl 0 rfl) ?_
  refine va_get (pc := 7) (D := G) (ci := 11) (v := .ref (q 29)) (C := RX11) (T := TX11) (N := 45) hx hb hts iw_X11_clear_X11 hown hK hP 0 rfl rfl 36 (by decide) (hts _ (List.mem_of_getElem? (i := 1) rfl)) (fun _ h9 => h9) rfl dX11_clear_7 ?_
  refine lv_iconst (pc := 10) (v := (1 : Int32)) hx hb dX11_clear_10 (by decide) ?_
  obtain ⟨h_2, hw⟩ := hw
  refine va_iald (pc := 11) hx hb hK hP 1 0 rfl rfl h_2 dX11_clear_11 ?_
  refine lv_iadd (pc := 12) hx hb dX11_clear_12 ?_
  refine lv_topi (fun y_3 ey_3 => ?_)
  replace hw := hw y_3 ey_3
  refine lv_istore_n (pc := 13) (lv' := [(1, .int y_3), (0, .ref (q 0))]) hx hb dX11_clear_13 rfl hl (by decide) rfl (fun ls hl => ?_)
  refine lv_aload_n (pc := 14) hx hb dX11_clear_14 rfl (lv_at hl 1 rfl) ?_
  refine va_get (pc := 15) (D := G) (ci := 11) (v := .ref (q 29)) (C := RX11) (T := TX11) (N := 45) hx hb hts iw_X11_clear_X11 hown hK hP 0 rfl rfl 36 (by decide) (hts _ (List.mem_of_getElem? (i := 1) rfl)) (fun _ h9 => h9) rfl dX11_clear_15 ?_
  refine lv_iconst (pc := 18) (v := (0 : Int32)) hx hb dX11_clear_18 (by decide) ?_
  refine lv_iconst (pc := 19) (v := (0 : Int32)) hx hb dX11_clear_19 (by decide) ?_
  refine va_iast (pc := 20) hx hb hK hP hD hS 1 0 rfl rfl h_1 dX11_clear_20 (fun H locs hP hD hS => ?_)
  obtain ⟨m_marked_4, em_marked_4⟩ : ∃ z : Nat → Int32, z = upd m_marked (0 : Int32).toNatClampNeg (0 : Int32) := ⟨_, rfl⟩
  have hP : va_P G vwCl [oX11 q m_kinds m_weighings m_spanLow m_spanHigh m_events m_days m_edges m_crew m_breakages, aI K (q 29) 2 m_marked_4] H := by rw [em_marked_4]; exact hP
  have hD : va_D A [oX11 q m_kinds m_weighings m_spanLow m_spanHigh m_events m_days m_edges m_crew m_breakages, aI K (q 29) 2 m_marked_4] := by rw [em_marked_4]; exact hD
  replace hw := hw m_marked_4 em_marked_4
  refine lv_aload_n (pc := 21) hx hb dX11_clear_21 rfl (lv_at hl 1 rfl) ?_
  refine va_get (pc := 22) (D := G) (ci := 11) (v := .ref (q 29)) (C := RX11) (T := TX11) (N := 45) hx hb hts iw_X11_clear_X11 hown hK hP 0 rfl rfl 36 (by decide) (hts _ (List.mem_of_getElem? (i := 1) rfl)) (fun _ h9 => h9) rfl dX11_clear_22 ?_
  refine lv_iconst (pc := 25) (v := (1 : Int32)) hx hb dX11_clear_25 (by decide) ?_
  refine lv_iconst (pc := 26) (v := (0 : Int32)) hx hb dX11_clear_26 (by decide) ?_
  refine va_iast (pc := 27) hx hb hK hP hD hS 1 0 rfl rfl h_2 dX11_clear_27 (fun H locs hP hD hS => ?_)
  obtain ⟨m_marked_5, em_marked_5⟩ : ∃ z : Nat → Int32, z = upd m_marked_4 (1 : Int32).toNatClampNeg (0 : Int32) := ⟨_, rfl⟩
  have hP : va_P G vwCl [oX11 q m_kinds m_weighings m_spanLow m_spanHigh m_events m_days m_edges m_crew m_breakages, aI K (q 29) 2 m_marked_5] H := by rw [em_marked_5]; exact hP
  have hD : va_D A [oX11 q m_kinds m_weighings m_spanLow m_spanHigh m_events m_days m_edges m_crew m_breakages, aI K (q 29) 2 m_marked_5] := by rw [em_marked_5]; exact hD
  replace hw := hw m_marked_5 em_marked_5
  refine lv_iload_n (pc := 28) hx hb dX11_clear_28 rfl (lv_at hl 0 rfl) ?_
  exact hRetI (S := (Nat → Int32)) m_marked_5 hx hb hr hlocks hQ hw hP hK hD hS dX11_clear_29
def P_X11_costOf (post : Int32 → Prop) (p1 : Int32) (p2 : Int32) (m_signs : Nat → Int32) (m_weights : Nat → Int32) : Prop :=
  ∀ (X42 : Int32 → Int32 → Prop),
  (∀ (x4 : Int32) (x5 : Int32), ((((3 : Int32) ≤ x5 → post x4) ∧ (¬ (3 : Int32) ≤ x5 → vp_in (((3 : Int32) * p1) + x5) 48 ∧ ∀ y_9 : Int32, y_9 = (m_signs (((3 : Int32) * p1) + x5).toNatClampNeg) → vp_in (((24 : Int32) + ((3 : Int32) * p2)) + x5) 48 ∧ ∀ y_11 : Int32, y_11 = (m_signs (((24 : Int32) + ((3 : Int32) * p2)) + x5).toNatClampNeg) → ((y_9 = (-9 : Int32) → ∀ y_13 : Int32, y_13 = (x4 + (10 : Int32)) → ∀ y_14 : Int32, y_14 = (x5 + (1 : Int32)) → X42 y_13 y_14) ∧ (¬ y_9 = (-9 : Int32) → ((y_11 = (-9 : Int32) → ∀ y_18 : Int32, y_18 = (x4 + (10 : Int32)) → ∀ y_19 : Int32, y_19 = (x5 + (1 : Int32)) → X42 y_18 y_19) ∧ (¬ y_11 = (-9 : Int32) → ((y_9 = y_11 → ∀ y_17 : Int32, y_17 = (x5 + (1 : Int32)) → X42 x4 y_17) ∧ (¬ y_9 = y_11 → post (-9 : Int32)))))))))) → X42 x4 x5) →
  vp_in p1 16 ∧ vp_in ((8 : Int32) + p2) 16 ∧ ∀ y_3 : Int32, y_3 = ((m_weights p1.toNatClampNeg) - (m_weights ((8 : Int32) + p2).toNatClampNeg)) → ∀ v_5 : Int32, v_5 = (if (0 : Int32) ≤ y_3 then y_3 else (-y_3)) → ((v_5 ≤ (20 : Int32) → X42 v_5 (0 : Int32)) ∧ (¬ v_5 ≤ (20 : Int32) → post (-9 : Int32)))
abbrev rm_X11_costOf : Room := { frames := 0, cells := 0, slots := 0, locals := 0 }
theorem iw_X11_costOf_X11 : ∀ w ∈ wsX110, w ∈ wsX11_costOf := by decide +kernel
set_option maxHeartbeats 4000000 in
set_option maxRecDepth 100000 in
theorem c_X11_costOf (l : Launch) (G : va_G) (K : ClassId × ClassId × ClassId) (tb q : Nat → Nat) (sz : Nat) (m_kinds : Int32) (m_weighings : Int32) (m_spanLow : Int32) (m_spanHigh : Int32) (m_events : Int32) (m_days : Int32) (m_edges : Int32) (m_crew : Int32) (m_breakages : Int32) (post : Int32 → Prop) (p1 : Int32) (p2 : Int32) (m_signs : Nat → Int32) (m_weights : Nat → Int32) (hw : P_X11_costOf post p1 p2 m_signs m_weights) : Met l yX11_costOf wsX11_costOf rm_X11_costOf (va_Pc [.ref (q 0), .int p1, .int p2] (hPre G K tb [oX11 q m_kinds m_weighings m_spanLow m_spanHigh m_events m_days m_edges m_crew m_breakages, aI K (q 30) 48 m_signs, aI K (q 31) 16 m_weights] sz)) (va_Qi (fun (r : Int32) (u : Unit) => post r) (fun u => hB G K (va_A [oX11 q m_kinds m_weighings m_spanLow m_spanHigh m_events m_days m_edges m_crew m_breakages, aI K (q 30) 48 m_signs, aI K (q 31) 16 m_weights] sz) [oX11 q m_kinds m_weighings m_spanLow m_spanHigh m_events m_days m_edges m_crew m_breakages, aI K (q 30) 48 m_signs, aI K (q 31) 16 m_weights]) (va_A [oX11 q m_kinds m_weighings m_spanLow m_spanHigh m_events m_days m_edges m_crew m_breakages, aI K (q 30) 48 m_signs, aI K (q 31) 16 m_weights] sz)) 0 0 (va_A [oX11 q m_kinds m_weighings m_spanLow m_spanHigh m_events m_days m_edges m_crew m_breakages, aI K (q 30) 48 m_signs, aI K (q 31) 16 m_weights] sz) := by
  refine hMet (fun A => va_Qi (fun (r : Int32) (u : Unit) => post r) (fun u => hB G K A [oX11 q m_kinds m_weighings m_spanLow m_spanHigh m_events m_days m_edges m_crew m_breakages, aI K (q 30) 48 m_signs, aI K (q 31) 16 m_weights]) A) (by decide) rfl (Nat.le_of_ble_eq_true rfl) ?_
  intro p e s m av below meth c A Q ls hx hb hr hml hts hown hlocks hnm hA hP hK hD hS hE hQ hl
  have hts : ∀ w ∈ wsX11_costOf, w.before av s = true := hts
  have hown : s.vm.findClass RX11 = some m.cls := hown
  have hl : lv_has ls 8 [(0, .ref (q 0)), (1, .int p1), (2, .int p2)] := hl
  unfold P_X11_costOf at hw
  replace hw := hw (fun (x4 : Int32) (x5 : Int32) => ∀ (H : Heap) (locs : List Loc) (ls : Array Slot), va_P G vwCl [oX11 q m_kinds m_weighings m_spanLow m_spanHigh m_events m_days m_edges m_crew m_breakages, aI K (q 30) 48 m_signs, aI K (q 31) 16 m_weights] H → va_D A [oX11 q m_kinds m_weighings m_spanLow m_spanHigh m_events m_days m_edges m_crew m_breakages, aI K (q 30) 48 m_signs, aI K (q 31) 16 m_weights] → va_S A s.heap H locs → lv_has ls 8 [(0, .ref (q 0)), (1, .int p1), (2, .int p2), (4, .int x4), (5, .int x5)] → W p l e rm_X11_costOf s m av below meth c H locs 0 0 Q (F0 m 42 ls []))
  replace hw := hw (by
    intro x4 x5 hw H locs ls hP hD hS hl
    refine lv_iload (pc := 42) hx hb dX11_costOf_42 (lv_at hl 4 rfl) ?_
    refine lv_iconst (pc := 44) (v := (3 : Int32)) hx hb dX11_costOf_44 (by decide) ?_
    refine lv_icmp_ge (pc := 45) (tgt := 113) hx hb dX11_costOf_45 (by decide) (fun c_7 => ?_) (fun c_7 => ?_)
    · replace hw := hw.1 c_7
      refine lv_iload (pc := 113) hx hb dX11_costOf_113 (lv_at hl 3 rfl) ?_
      exact hRetI (S := Unit) () hx hb hr hlocks hQ hw hP hK hD hS dX11_costOf_115
    · replace hw := hw.2 c_7
      refine lv_aload_n (pc := 48) hx hb dX11_costOf_48 rfl (lv_at hl 0 rfl) ?_
      refine va_get (pc := 49) (D := G) (ci := 11) (v := .ref (q 30)) (C := RX11) (T := TX11) (N := 45) hx hb hts iw_X11_costOf_X11 hown hK hP 0 rfl rfl 37 (by decide) (hts _ (List.mem_of_getElem? (i := 2) rfl)) (fun _ h9 => h9) rfl dX11_costOf_49 ?_
      refine lv_iconst (pc := 52) (v := (3 : Int32)) hx hb dX11_costOf_52 (by decide) ?_
      refine lv_iload_n (pc := 53) hx hb dX11_costOf_53 rfl (lv_at hl 1 rfl) ?_
      refine lv_imul (pc := 54) hx hb dX11_costOf_54 ?_
      refine lv_iload (pc := 55) hx hb dX11_costOf_55 (lv_at hl 4 rfl) ?_
      refine lv_iadd (pc := 57) hx hb dX11_costOf_57 ?_
      obtain ⟨h_8, hw⟩ := hw
      refine va_iald (pc := 58) hx hb hK hP 1 0 rfl rfl h_8 dX11_costOf_58 ?_
      refine lv_topi (fun y_9 ey_9 => ?_)
      replace hw := hw y_9 ey_9
      refine lv_istore (pc := 59) (lv' := [(6, .int y_9), (0, .ref (q 0)), (1, .int p1), (2, .int p2), (4, .int x4), (5, .int x5)]) hx hb dX11_costOf_59 hl (by decide) rfl (fun ls hl => ?_)
      refine lv_aload_n (pc := 61) hx hb dX11_costOf_61 rfl (lv_at hl 1 rfl) ?_
      refine va_get (pc := 62) (D := G) (ci := 11) (v := .ref (q 30)) (C := RX11) (T := TX11) (N := 45) hx hb hts iw_X11_costOf_X11 hown hK hP 0 rfl rfl 37 (by decide) (hts _ (List.mem_of_getElem? (i := 2) rfl)) (fun _ h9 => h9) rfl dX11_costOf_62 ?_
      refine lv_bipush (pc := 65) (v := (24 : Int32)) hx hb dX11_costOf_65 (by decide) ?_
      refine lv_iconst (pc := 67) (v := (3 : Int32)) hx hb dX11_costOf_67 (by decide) ?_
      refine lv_iload_n (pc := 68) hx hb dX11_costOf_68 rfl (lv_at hl 3 rfl) ?_
      refine lv_imul (pc := 69) hx hb dX11_costOf_69 ?_
      refine lv_iadd (pc := 70) hx hb dX11_costOf_70 ?_
      refine lv_iload (pc := 71) hx hb dX11_costOf_71 (lv_at hl 5 rfl) ?_
      refine lv_iadd (pc := 73) hx hb dX11_costOf_73 ?_
      obtain ⟨h_10, hw⟩ := hw
      refine va_iald (pc := 74) hx hb hK hP 1 0 rfl rfl h_10 dX11_costOf_74 ?_
      refine lv_topi (fun y_11 ey_11 => ?_)
      replace hw := hw y_11 ey_11
      refine lv_istore (pc := 75) (lv' := [(7, .int y_11), (6, .int y_9), (0, .ref (q 0)), (1, .int p1), (2, .int p2), (4, .int x4), (5, .int x5)]) hx hb dX11_costOf_75 hl (by decide) rfl (fun ls hl => ?_)
      refine lv_iload (pc := 77) hx hb dX11_costOf_77 (lv_at hl 1 rfl) ?_
      refine lv_bipush (pc := 79) (v := (-9 : Int32)) hx hb dX11_costOf_79 (by decide) ?_
      refine lv_icmp_eq (pc := 81) (tgt := 91) hx hb dX11_costOf_81 (by decide) (fun c_12 => ?_) (fun c_12 => ?_)
      · replace hw := hw.1 c_12
        obtain ⟨y_13, ey_13⟩ : ∃ z : Int32, z = (x4 + (10 : Int32)) := ⟨_, rfl⟩
        replace hw := hw y_13 ey_13
        refine lv_iinc (pc := 91) (v := y_13) (lv' := [(4, .int y_13), (7, .int y_11), (6, .int y_9), (0, .ref (q 0)), (1, .int p1), (2, .int p2), (5, .int x5)]) hx hb dX11_costOf_91 hl (k := 5) rfl (by rw [ey_13]; rfl) (by decide) rfl (fun ls hl => ?_)
        refine lv_goto (pc := 94) (tgt := 107) hx hb dX11_costOf_94 (by decide) ?_
        obtain ⟨y_14, ey_14⟩ : ∃ z : Int32, z = (x5 + (1 : Int32)) := ⟨_, rfl⟩
        replace hw := hw y_14 ey_14
        refine lv_iinc (pc := 107) (v := y_14) (lv' := [(5, .int y_14), (4, .int y_13), (7, .int y_11), (6, .int y_9), (0, .ref (q 0)), (1, .int p1), (2, .int p2)]) hx hb dX11_costOf_107 hl (k := 6) rfl (by rw [ey_14]; rfl) (by decide) rfl (fun ls hl => ?_)
        refine lv_goto (pc := 110) (tgt := 42) hx hb dX11_costOf_110 (by decide) ?_
        exact hw _ _ _ hP hD hS (lv_sub hl [4, 5, 6, 1, 0] rfl)
      · replace hw := hw.2 c_12
        refine lv_iload (pc := 84) hx hb dX11_costOf_84 (lv_at hl 0 rfl) ?_
        refine lv_bipush (pc := 86) (v := (-9 : Int32)) hx hb dX11_costOf_86 (by decide) ?_
        refine lv_icmp_ne (pc := 88) (tgt := 97) hx hb dX11_costOf_88 (by decide) (fun c_15 => ?_) (fun c_15 => ?_)
        · replace hw := hw.2 c_15
          refine lv_iload (pc := 97) hx hb dX11_costOf_97 (lv_at hl 1 rfl) ?_
          refine lv_iload (pc := 99) hx hb dX11_costOf_99 (lv_at hl 0 rfl) ?_
          refine lv_icmp_eq (pc := 101) (tgt := 107) hx hb dX11_costOf_101 (by decide) (fun c_16 => ?_) (fun c_16 => ?_)
          · replace hw := hw.1 c_16
            obtain ⟨y_17, ey_17⟩ : ∃ z : Int32, z = (x5 + (1 : Int32)) := ⟨_, rfl⟩
            replace hw := hw y_17 ey_17
            refine lv_iinc (pc := 107) (v := y_17) (lv' := [(5, .int y_17), (7, .int y_11), (6, .int y_9), (0, .ref (q 0)), (1, .int p1), (2, .int p2), (4, .int x4)]) hx hb dX11_costOf_107 hl (k := 6) rfl (by rw [ey_17]; rfl) (by decide) rfl (fun ls hl => ?_)
            refine lv_goto (pc := 110) (tgt := 42) hx hb dX11_costOf_110 (by decide) ?_
            exact hw _ _ _ hP hD hS (lv_sub hl [3, 4, 5, 6, 0] rfl)
          · replace hw := hw.2 c_16
            refine lv_bipush (pc := 104) (v := (-9 : Int32)) hx hb dX11_costOf_104 (by decide) ?_
            exact hRetI (S := Unit) () hx hb hr hlocks hQ hw hP hK hD hS dX11_costOf_106
        · replace hw := hw.1 c_15
          obtain ⟨y_18, ey_18⟩ : ∃ z : Int32, z = (x4 + (10 : Int32)) := ⟨_, rfl⟩
          replace hw := hw y_18 ey_18
          refine lv_iinc (pc := 91) (v := y_18) (lv' := [(4, .int y_18), (7, .int y_11), (6, .int y_9), (0, .ref (q 0)), (1, .int p1), (2, .int p2), (5, .int x5)]) hx hb dX11_costOf_91 hl (k := 5) rfl (by rw [ey_18]; rfl) (by decide) rfl (fun ls hl => ?_)
          refine lv_goto (pc := 94) (tgt := 107) hx hb dX11_costOf_94 (by decide) ?_
          obtain ⟨y_19, ey_19⟩ : ∃ z : Int32, z = (x5 + (1 : Int32)) := ⟨_, rfl⟩
          replace hw := hw y_19 ey_19
          refine lv_iinc (pc := 107) (v := y_19) (lv' := [(5, .int y_19), (4, .int y_18), (7, .int y_11), (6, .int y_9), (0, .ref (q 0)), (1, .int p1), (2, .int p2)]) hx hb dX11_costOf_107 hl (k := 6) rfl (by rw [ey_19]; rfl) (by decide) rfl (fun ls hl => ?_)
          refine lv_goto (pc := 110) (tgt := 42) hx hb dX11_costOf_110 (by decide) ?_
          exact hw _ _ _ hP hD hS (lv_sub hl [4, 5, 6, 1, 0] rfl))
  refine lv_aload_n (pc := 0) hx hb dX11_costOf_0 rfl (lv_at hl 0 rfl) ?_
  refine va_get (pc := 1) (D := G) (ci := 11) (v := .ref (q 31)) (C := RX11) (T := TX11) (N := 45) hx hb hts iw_X11_costOf_X11 hown hK hP 0 rfl rfl 38 (by decide) (hts _ (List.mem_of_getElem? (i := 1) rfl)) (fun _ h9 => h9) rfl dX11_costOf_1 ?_
  refine lv_iload_n (pc := 4) hx hb dX11_costOf_4 rfl (lv_at hl 1 rfl) ?_
  obtain ⟨h_1, hw⟩ := hw
  refine va_iald (pc := 5) hx hb hK hP 2 0 rfl rfl h_1 dX11_costOf_5 ?_
  refine lv_aload_n (pc := 6) hx hb dX11_costOf_6 rfl (lv_at hl 0 rfl) ?_
  refine va_get (pc := 7) (D := G) (ci := 11) (v := .ref (q 31)) (C := RX11) (T := TX11) (N := 45) hx hb hts iw_X11_costOf_X11 hown hK hP 0 rfl rfl 38 (by decide) (hts _ (List.mem_of_getElem? (i := 1) rfl)) (fun _ h9 => h9) rfl dX11_costOf_7 ?_
  refine lv_bipush (pc := 10) (v := (8 : Int32)) hx hb dX11_costOf_10 (by decide) ?_
  refine lv_iload_n (pc := 12) hx hb dX11_costOf_12 rfl (lv_at hl 2 rfl) ?_
  refine lv_iadd (pc := 13) hx hb dX11_costOf_13 ?_
  obtain ⟨h_2, hw⟩ := hw
  refine va_iald (pc := 14) hx hb hK hP 2 0 rfl rfl h_2 dX11_costOf_14 ?_
  refine lv_isub (pc := 15) hx hb dX11_costOf_15 ?_
  refine lv_topi (fun y_3 ey_3 => ?_)
  replace hw := hw y_3 ey_3
  refine lv_istore_n (pc := 16) (lv' := [(3, .int y_3), (0, .ref (q 0)), (1, .int p1), (2, .int p2)]) hx hb dX11_costOf_16 rfl hl (by decide) rfl (fun ls hl => ?_)
  refine lv_iload_n (pc := 17) hx hb dX11_costOf_17 rfl (lv_at hl 0 rfl) ?_
  have K_v_5 : ∀ v_5 : Int32, v_5 = (if (0 : Int32) ≤ y_3 then y_3 else (-y_3)) → W p l e rm_X11_costOf s m av below meth c s.heap [] 0 0 Q (F0 m 27 ls [.int v_5]) := by
    intro v_5 ev_5
    replace hw := hw v_5 ev_5
    refine lv_istore (pc := 27) (lv' := [(4, .int v_5), (3, .int y_3), (0, .ref (q 0)), (1, .int p1), (2, .int p2)]) hx hb dX11_costOf_27 hl (by decide) rfl (fun ls hl => ?_)
    refine lv_iload (pc := 29) hx hb dX11_costOf_29 (lv_at hl 0 rfl) ?_
    refine lv_bipush (pc := 31) (v := (20 : Int32)) hx hb dX11_costOf_31 (by decide) ?_
    refine lv_icmp_le (pc := 33) (tgt := 39) hx hb dX11_costOf_33 (by decide) (fun c_6 => ?_) (fun c_6 => ?_)
    · replace hw := hw.1 c_6
      refine lv_iconst (pc := 39) (v := (0 : Int32)) hx hb dX11_costOf_39 (by decide) ?_
      refine lv_istore (pc := 40) (lv' := [(5, .int (0 : Int32)), (4, .int v_5), (3, .int y_3), (0, .ref (q 0)), (1, .int p1), (2, .int p2)]) hx hb dX11_costOf_40 hl (by decide) rfl (fun ls hl => ?_)
      exact hw _ _ _ hP hD hS (lv_sub hl [3, 4, 5, 1, 0] rfl)
    · replace hw := hw.2 c_6
      refine lv_bipush (pc := 36) (v := (-9 : Int32)) hx hb dX11_costOf_36 (by decide) ?_
      exact hRetI (S := Unit) () hx hb hr hlocks hQ hw hP hK hD hS dX11_costOf_38
  refine lv_if_ge (pc := 18) (tgt := 26) hx hb dX11_costOf_18 (by decide) (fun c_4 => ?_) (fun c_4 => ?_)
  · skip
    refine lv_iload_n (pc := 26) hx hb dX11_costOf_26 rfl (lv_at hl 0 rfl) ?_
    exact K_v_5 _ (by rw [if_pos c_4])
  · skip
    refine lv_iload_n (pc := 21) hx hb dX11_costOf_21 rfl (lv_at hl 0 rfl) ?_
    refine lv_ineg (pc := 22) hx hb dX11_costOf_22 ?_
    refine lv_goto (pc := 23) (tgt := 27) hx hb dX11_costOf_23 (by decide) ?_
    exact K_v_5 _ (by rw [if_neg c_4])
def P_X11_cost (post : Int32 → Prop) (p1 : Int32) (p2 : Int32) (m_marked : Nat → Int32) (m_signs : Nat → Int32) (m_weights : Nat → Int32) : Prop :=
  vp_in (0 : Int32) 2 ∧ P_X11_in (fun r_2 => ((r_2 = (0 : Int32) → post (-1 : Int32)) ∧ (¬ r_2 = (0 : Int32) → vp_in (1 : Int32) 2 ∧ P_X11_in (fun r_5 => ((r_5 = (0 : Int32) → post (-1 : Int32)) ∧ (¬ r_5 = (0 : Int32) → P_X11_costOf (fun r_7 => post r_7) p1 p2 m_signs m_weights))) p2.toInt64 (0 : Int64) ((m_marked (1 : Int32).toNatClampNeg) - (1 : Int32)).toInt64))) p1.toInt64 (0 : Int64) ((m_marked (0 : Int32).toNatClampNeg) - (1 : Int32)).toInt64
abbrev rm_X11_cost : Room := { frames := 1, cells := 0, slots := 0, locals := 27 }
theorem iw_X11_cost_X11 : ∀ w ∈ wsX110, w ∈ wsX11_cost := by decide +kernel
set_option maxHeartbeats 4000000 in
set_option maxRecDepth 100000 in
theorem c_X11_cost (l : Launch) (G : va_G) (K : ClassId × ClassId × ClassId) (tb q : Nat → Nat) (sz : Nat) (m_kinds : Int32) (m_weighings : Int32) (m_spanLow : Int32) (m_spanHigh : Int32) (m_events : Int32) (m_days : Int32) (m_edges : Int32) (m_crew : Int32) (m_breakages : Int32) (post : Int32 → Prop) (p1 : Int32) (p2 : Int32) (m_marked : Nat → Int32) (m_signs : Nat → Int32) (m_weights : Nat → Int32) (hw : P_X11_cost post p1 p2 m_marked m_signs m_weights) : Met l yX11_cost wsX11_cost rm_X11_cost (va_Pc [.ref (q 0), .int p1, .int p2] (hPre G K tb [oX11 q m_kinds m_weighings m_spanLow m_spanHigh m_events m_days m_edges m_crew m_breakages, aI K (q 29) 2 m_marked, aI K (q 30) 48 m_signs, aI K (q 31) 16 m_weights] sz)) (va_Qi (fun (r : Int32) (u : Unit) => post r) (fun u => hB G K (va_A [oX11 q m_kinds m_weighings m_spanLow m_spanHigh m_events m_days m_edges m_crew m_breakages, aI K (q 29) 2 m_marked, aI K (q 30) 48 m_signs, aI K (q 31) 16 m_weights] sz) [oX11 q m_kinds m_weighings m_spanLow m_spanHigh m_events m_days m_edges m_crew m_breakages, aI K (q 29) 2 m_marked, aI K (q 30) 48 m_signs, aI K (q 31) 16 m_weights]) (va_A [oX11 q m_kinds m_weighings m_spanLow m_spanHigh m_events m_days m_edges m_crew m_breakages, aI K (q 29) 2 m_marked, aI K (q 30) 48 m_signs, aI K (q 31) 16 m_weights] sz)) 0 0 (va_A [oX11 q m_kinds m_weighings m_spanLow m_spanHigh m_events m_days m_edges m_crew m_breakages, aI K (q 29) 2 m_marked, aI K (q 30) 48 m_signs, aI K (q 31) 16 m_weights] sz) := by
  refine hMet (fun A => va_Qi (fun (r : Int32) (u : Unit) => post r) (fun u => hB G K A [oX11 q m_kinds m_weighings m_spanLow m_spanHigh m_events m_days m_edges m_crew m_breakages, aI K (q 29) 2 m_marked, aI K (q 30) 48 m_signs, aI K (q 31) 16 m_weights]) A) (by decide) rfl (Nat.le_of_ble_eq_true rfl) ?_
  intro p e s m av below meth c A Q ls hx hb hr hml hts hown hlocks hnm hA hP hK hD hS hE hQ hl
  have hts : ∀ w ∈ wsX11_cost, w.before av s = true := hts
  have hown : s.vm.findClass RX11 = some m.cls := hown
  have hl : lv_has ls 3 [(0, .ref (q 0)), (1, .int p1), (2, .int p2)] := hl
  unfold P_X11_cost at hw
  refine lv_iload_n (pc := 0) hx hb dX11_cost_0 rfl (lv_at hl 1 rfl) ?_
  refine lv_i2l (pc := 1) hx hb dX11_cost_1 rfl ?_
  refine lv_lconst (pc := 2) (v := (0 : Int64)) hx hb dX11_cost_2 (by decide) ?_
  refine lv_aload_n (pc := 3) hx hb dX11_cost_3 rfl (lv_at hl 0 rfl) ?_
  refine va_get (pc := 4) (D := G) (ci := 11) (v := .ref (q 29)) (C := RX11) (T := TX11) (N := 45) hx hb hts iw_X11_cost_X11 hown hK hP 0 rfl rfl 36 (by decide) (hts _ (List.mem_of_getElem? (i := 1) rfl)) (fun _ h9 => h9) rfl dX11_cost_4 ?_
  refine lv_iconst (pc := 7) (v := (0 : Int32)) hx hb dX11_cost_7 (by decide) ?_
  obtain ⟨h_1, hw⟩ := hw
  refine va_iald (pc := 8) hx hb hK hP 1 0 rfl rfl h_1 dX11_cost_8 ?_
  refine lv_iconst (pc := 9) (v := (1 : Int32)) hx hb dX11_cost_9 (by decide) ?_
  refine lv_isub (pc := 10) hx hb dX11_cost_10 ?_
  refine lv_i2l (pc := 11) hx hb dX11_cost_11 rfl ?_
  refine hCallI (pc := 12) (wr := [oX11 q m_kinds m_weighings m_spanLow m_spanHigh m_events m_days m_edges m_crew m_breakages, aI K (q 29) 2 m_marked, aI K (q 30) 48 m_signs, aI K (q 31) 16 m_weights]) (wsf := fun (u : Unit) => []) [] [0, 1, 2, 3] (va_runS (As := [.long p1.toInt64, .long (0 : Int64), .long ((m_marked (0 : Int32).toNatClampNeg) - (1 : Int32)).toInt64]) (rest := []) ⟨hx, hb, hml, hown, hts⟩ (c_X11_in l G K tb q s.heap.size _ p1.toInt64 (0 : Int64) ((m_marked (0 : Int32).toNatClampNeg) - (1 : Int32)).toInt64 hw) (va_cwS 3 hts gX11_cost_X11_in rfl rfl rfl (by decide +kernel) ⟨Nat.le_of_ble_eq_true rfl, Nat.le_of_ble_eq_true rfl⟩) (hPreS hE hP hK hD hS hA [] (by decide) rfl rfl) rfl rfl hl.1 rfl (lv_room (Nat.le_of_ble_eq_true rfl)) dX11_cost_12 ⟨Nat.zero_le _, Nat.zero_le _⟩) hP hD hS hA rfl rfl (by decide) (by decide) (fun r_2 u H locs hw hP hD hS => ?_)
  have hP : va_P G vwCl [oX11 q m_kinds m_weighings m_spanLow m_spanHigh m_events m_days m_edges m_crew m_breakages, aI K (q 29) 2 m_marked, aI K (q 30) 48 m_signs, aI K (q 31) 16 m_weights] H := hP.sub [0, 1, 2, 3] rfl
  have hD : va_D A [oX11 q m_kinds m_weighings m_spanLow m_spanHigh m_events m_days m_edges m_crew m_breakages, aI K (q 29) 2 m_marked, aI K (q 30) 48 m_signs, aI K (q 31) 16 m_weights] := hD.sub [0, 1, 2, 3] (by decide) rfl
  refine lv_if_eq (pc := 15) (tgt := 45) hx hb dX11_cost_15 (by decide) (fun c_3 => ?_) (fun c_3 => ?_)
  · replace hw := hw.1 c_3
    refine lv_iconst (pc := 45) (v := (-1 : Int32)) hx hb dX11_cost_45 (by decide) ?_
    exact hRetI (S := Unit) () hx hb hr hlocks hQ hw hP hK hD hS dX11_cost_46
  · replace hw := hw.2 c_3
    refine lv_iload_n (pc := 18) hx hb dX11_cost_18 rfl (lv_at hl 2 rfl) ?_
    refine lv_i2l (pc := 19) hx hb dX11_cost_19 rfl ?_
    refine lv_lconst (pc := 20) (v := (0 : Int64)) hx hb dX11_cost_20 (by decide) ?_
    refine lv_aload_n (pc := 21) hx hb dX11_cost_21 rfl (lv_at hl 0 rfl) ?_
    refine va_get (pc := 22) (D := G) (ci := 11) (v := .ref (q 29)) (C := RX11) (T := TX11) (N := 45) hx hb hts iw_X11_cost_X11 hown hK hP 0 rfl rfl 36 (by decide) (hts _ (List.mem_of_getElem? (i := 1) rfl)) (fun _ h9 => h9) rfl dX11_cost_22 ?_
    refine lv_iconst (pc := 25) (v := (1 : Int32)) hx hb dX11_cost_25 (by decide) ?_
    obtain ⟨h_4, hw⟩ := hw
    refine va_iald (pc := 26) hx hb hK hP 1 0 rfl rfl h_4 dX11_cost_26 ?_
    refine lv_iconst (pc := 27) (v := (1 : Int32)) hx hb dX11_cost_27 (by decide) ?_
    refine lv_isub (pc := 28) hx hb dX11_cost_28 ?_
    refine lv_i2l (pc := 29) hx hb dX11_cost_29 rfl ?_
    refine hCallI (pc := 30) (wr := [oX11 q m_kinds m_weighings m_spanLow m_spanHigh m_events m_days m_edges m_crew m_breakages, aI K (q 29) 2 m_marked, aI K (q 30) 48 m_signs, aI K (q 31) 16 m_weights]) (wsf := fun (u : Unit) => []) [] [0, 1, 2, 3] (va_runS (As := [.long p2.toInt64, .long (0 : Int64), .long ((m_marked (1 : Int32).toNatClampNeg) - (1 : Int32)).toInt64]) (rest := []) ⟨hx, hb, hml, hown, hts⟩ (c_X11_in l G K tb q H.size _ p2.toInt64 (0 : Int64) ((m_marked (1 : Int32).toNatClampNeg) - (1 : Int32)).toInt64 hw) (va_cwS 3 hts gX11_cost_X11_in rfl rfl rfl (by decide +kernel) ⟨Nat.le_of_ble_eq_true rfl, Nat.le_of_ble_eq_true rfl⟩) (hPreS hE hP hK hD hS hA [] (by decide) rfl rfl) rfl rfl hl.1 rfl (lv_room (Nat.le_of_ble_eq_true rfl)) dX11_cost_30 ⟨Nat.zero_le _, Nat.zero_le _⟩) hP hD hS hA rfl rfl (by decide) (by decide) (fun r_5 u H locs hw hP hD hS => ?_)
    have hP : va_P G vwCl [oX11 q m_kinds m_weighings m_spanLow m_spanHigh m_events m_days m_edges m_crew m_breakages, aI K (q 29) 2 m_marked, aI K (q 30) 48 m_signs, aI K (q 31) 16 m_weights] H := hP.sub [0, 1, 2, 3] rfl
    have hD : va_D A [oX11 q m_kinds m_weighings m_spanLow m_spanHigh m_events m_days m_edges m_crew m_breakages, aI K (q 29) 2 m_marked, aI K (q 30) 48 m_signs, aI K (q 31) 16 m_weights] := hD.sub [0, 1, 2, 3] (by decide) rfl
    refine lv_if_eq (pc := 33) (tgt := 45) hx hb dX11_cost_33 (by decide) (fun c_6 => ?_) (fun c_6 => ?_)
    · replace hw := hw.1 c_6
      refine lv_iconst (pc := 45) (v := (-1 : Int32)) hx hb dX11_cost_45 (by decide) ?_
      exact hRetI (S := Unit) () hx hb hr hlocks hQ hw hP hK hD hS dX11_cost_46
    · replace hw := hw.2 c_6
      refine lv_aload_n (pc := 36) hx hb dX11_cost_36 rfl (lv_at hl 0 rfl) ?_
      refine lv_iload_n (pc := 37) hx hb dX11_cost_37 rfl (lv_at hl 1 rfl) ?_
      refine lv_iload_n (pc := 38) hx hb dX11_cost_38 rfl (lv_at hl 2 rfl) ?_
      refine hCallI (pc := 39) (wr := [aI K (q 29) 2 m_marked]) (wsf := fun (u : Unit) => [oX11 q m_kinds m_weighings m_spanLow m_spanHigh m_events m_days m_edges m_crew m_breakages, aI K (q 30) 48 m_signs, aI K (q 31) 16 m_weights]) [0, 2, 3] [1] (va_runV (As := [.int p1, .int p2]) (rest := []) ⟨hx, hb, hml, hown, hts⟩ (c_X11_costOf l G K tb q H.size m_kinds m_weighings m_spanLow m_spanHigh m_events m_days m_edges m_crew m_breakages _ p1 p2 m_signs m_weights hw) (cwV 2 hts gX11_cost_X11_costOf rfl rfl rfl (by decide +kernel) ⟨Nat.le_of_ble_eq_true rfl, Nat.le_of_ble_eq_true rfl⟩) (hPreV hE hP hK hD hS hA [0, 2, 3] (by decide) rfl rfl rfl rfl (q0 := 0) (ci := 11) rfl) rfl rfl hl.1 rfl (lv_room (Nat.le_of_ble_eq_true rfl)) dX11_cost_39 ⟨Nat.zero_le _, Nat.zero_le _⟩) hP hD hS hA rfl rfl (by decide) (by decide) (fun r_7 u H locs hw hP hD hS => ?_)
      have hP : va_P G vwCl [oX11 q m_kinds m_weighings m_spanLow m_spanHigh m_events m_days m_edges m_crew m_breakages, aI K (q 29) 2 m_marked, aI K (q 30) 48 m_signs, aI K (q 31) 16 m_weights] H := hP.sub [1, 0, 2, 3] rfl
      have hD : va_D A [oX11 q m_kinds m_weighings m_spanLow m_spanHigh m_events m_days m_edges m_crew m_breakages, aI K (q 29) 2 m_marked, aI K (q 30) 48 m_signs, aI K (q 31) 16 m_weights] := hD.sub [1, 0, 2, 3] (by decide) rfl
      refine lv_goto (pc := 42) (tgt := 46) hx hb dX11_cost_42 (by decide) ?_
      exact hRetI (S := Unit) () hx hb hr hlocks hQ hw hP hK hD hS dX11_cost_46
