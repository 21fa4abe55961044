def P_X10_isCell (post : Int32 → Prop) (p1 : Int32) (p2 : Int32) (kd_size : Int32) : Prop :=
  P_X10_isHouse (fun r_1 => ((r_1 = (0 : Int32) → post (0 : Int32)) ∧ (¬ r_1 = (0 : Int32) → P_X4_has (fun r_3 => ∀ v_5 : Int32, v_5 = (if r_3 = (0 : Int32) then (0 : Int32) else (1 : Int32)) → post v_5) p2 kd_size))) p1
abbrev rm_X10_isCell : Room := { frames := 2, cells := 0, slots := 0, locals := 43 }
theorem iw_X10_isCell_X10 : ∀ w ∈ wsX100, w ∈ wsX10_isCell := by decide +kernel
set_option maxHeartbeats 4000000 in
set_option maxRecDepth 100000 in
theorem c_X10_isCell (l : Launch) (G : va_G) (K : ClassId × ClassId × ClassId) (tb q : Nat → Nat) (sz : Nat) (post : Int32 → Prop) (p1 : Int32) (p2 : Int32) (kd_size : Int32) (hw : P_X10_isCell post p1 p2 kd_size) : Met l yX10_isCell wsX10_isCell rm_X10_isCell (va_Pc [.ref (q 0), .int p1, .int p2] (hPre G K tb [oX10 q, oX4 q kd_size] sz)) (va_Qi (fun (r : Int32) (u : Unit) => post r) (fun u => hB G K (va_A [oX10 q, oX4 q kd_size] sz) [oX10 q, oX4 q kd_size]) (va_A [oX10 q, oX4 q kd_size] sz)) 0 0 (va_A [oX10 q, oX4 q kd_size] sz) := by
  refine hMet (fun A => va_Qi (fun (r : Int32) (u : Unit) => post r) (fun u => hB G K A [oX10 q, oX4 q kd_size]) A) (by decide) rfl (Nat.le_of_ble_eq_true rfl) ?_
  intro p e s m av below meth c A Q ls hx hb hr hml hts hown hlocks hnm hA hP hK hD hS hE hQ hl
  have hts : ∀ w ∈ wsX10_isCell, w.before av s = true := hts
  have hown : s.vm.findClass RX10 = some m.cls := hown
  have hl : lv_has ls 3 [(0, .ref (q 0)), (1, .int p1), (2, .int p2)] := hl
  unfold P_X10_isCell at hw
  refine lv_iload_n (pc := 0) hx hb dX10_isCell_0 rfl (lv_at hl 1 rfl) ?_
  refine hCallI (pc := 1) (wr := [oX10 q, oX4 q kd_size]) (wsf := fun (u : Unit) => []) [] [0, 1] (va_runS (As := [.int p1]) (rest := []) ⟨hx, hb, hml, hown, hts⟩ (c_X10_isHouse l G K tb q s.heap.size _ p1 hw) (va_cwS 1 hts gX10_isCell_X10_isHouse rfl rfl rfl (by decide +kernel) ⟨Nat.le_of_ble_eq_true rfl, Nat.le_of_ble_eq_true rfl⟩) (hPreS hE hP hK hD hS hA [] (by decide) rfl rfl) rfl rfl hl.1 rfl (lv_room (Nat.le_of_ble_eq_true rfl)) dX10_isCell_1 ⟨Nat.zero_le _, Nat.zero_le _⟩) hP hD hS hA rfl rfl (by decide) (by decide) (fun r_1 u H locs hw hP hD hS => ?_)
  have hP : va_P G vwCl [oX10 q, oX4 q kd_size] H := hP.sub [0, 1] rfl
  have hD : va_D A [oX10 q, oX4 q kd_size] := hD.sub [0, 1] (by decide) rfl
  refine lv_if_eq (pc := 4) (tgt := 22) hx hb dX10_isCell_4 (by decide) (fun c_2 => ?_) (fun c_2 => ?_)
  · replace hw := hw.1 c_2
    refine lv_iconst (pc := 22) (v := (0 : Int32)) hx hb dX10_isCell_22 (by decide) ?_
    exact hRetZ (S := Unit) () hx hb hr hlocks hQ (Or.inl rfl) hw hP hK hD hS dX10_isCell_23
  · replace hw := hw.2 c_2
    refine lv_aload_n (pc := 7) hx hb dX10_isCell_7 rfl (lv_at hl 0 rfl) ?_
    refine va_get (pc := 8) (D := G) (ci := 10) (v := .ref (q 1)) (C := RX10) (T := TX10) (N := 10) hx hb hts iw_X10_isCell_X10 hown hK hP 0 rfl rfl 0 (by decide) (hts _ (List.mem_of_getElem? (i := 1) rfl)) (fun _ h9 => h9) rfl dX10_isCell_8 ?_
    refine lv_iload_n (pc := 11) hx hb dX10_isCell_11 rfl (lv_at hl 2 rfl) ?_
    refine hCallI (pc := 12) (wr := [oX10 q]) (wsf := fun (u : Unit) => [oX4 q kd_size]) [1] [0] (va_runVN (As := [.int p2]) (rest := []) ⟨hx, hb, hml, hown, hts⟩ (c_X4_has l G K tb q H.size _ p2 kd_size hw) ⟨va_cnB 1 hts gX10_isCell_X4_has_n159 rfl rfl rfl (hE.nw 29 rfl) (hts _ (List.mem_of_getElem? (i := 10) rfl)) (by decide +kernel) ⟨Nat.le_of_ble_eq_true rfl, Nat.le_of_ble_eq_true rfl⟩, (hts _ (List.mem_of_getElem? (i := 9) rfl)), (hts _ (List.mem_of_getElem? (i := 11) rfl))⟩ (hPreV hE hP hK hD hS hA [1] (by decide) rfl rfl rfl rfl (q0 := 1) (ci := 4) rfl) rfl rfl hl.1 rfl (lv_room (Nat.le_of_ble_eq_true rfl)) dX10_isCell_12 ⟨Nat.zero_le _, Nat.zero_le _⟩) hP hD hS hA rfl rfl (by decide) (by decide) (fun r_3 u H locs hw hP hD hS => ?_)
    have hP : va_P G vwCl [oX10 q, oX4 q kd_size] H := hP.sub [0, 1] rfl
    have hD : va_D A [oX10 q, oX4 q kd_size] := hD.sub [0, 1] (by decide) rfl
    have K_v_5 : ∀ v_5 : Int32, v_5 = (if r_3 = (0 : Int32) then (0 : Int32) else (1 : Int32)) → W p l e rm_X10_isCell s m av below meth c H locs 0 0 Q (F0 m 23 ls [.int v_5]) := by
      intro v_5 ev_5
      replace hw := hw v_5 ev_5
      exact hRetZ (S := Unit) () hx hb hr hlocks hQ (by rw [ev_5]; (repeat' split) <;> first | exact Or.inl rfl | exact Or.inr rfl) hw hP hK hD hS dX10_isCell_23
    refine lv_if_eq (pc := 15) (tgt := 22) hx hb dX10_isCell_15 (by decide) (fun c_4 => ?_) (fun c_4 => ?_)
    · skip
      refine lv_iconst (pc := 22) (v := (0 : Int32)) hx hb dX10_isCell_22 (by decide) ?_
      exact K_v_5 _ (by rw [if_pos c_4])
    · skip
      refine lv_iconst (pc := 18) (v := (1 : Int32)) hx hb dX10_isCell_18 (by decide) ?_
      refine lv_goto (pc := 19) (tgt := 23) hx hb dX10_isCell_19 (by decide) ?_
      exact K_v_5 _ (by rw [if_neg c_4])
def P_X10_book (post : Int32 → (Nat → Int32) → Prop) (p1 : Int32) (p2 : Int32) (p3 : Int32) (kd_size : Int32) (st_booked : Nat → Int32) : Prop :=
  P_X10_isCell (fun r_1 => ((r_1 = (0 : Int32) → post (-1 : Int32) st_booked) ∧ (¬ r_1 = (0 : Int32) → P_X10_within (fun r_3 => ((r_3 = (0 : Int32) → post (-2 : Int32) st_booked) ∧ (¬ r_3 = (0 : Int32) → P_X10_cell (fun r_5 => P_X8_setBooked (fun r_6 st_booked_7 => post r_6 st_booked_7) r_5 p3 st_booked) p1 p2))) p3 (0 : Int32) (999 : Int32)))) p1 p2 kd_size
abbrev rm_X10_book : Room := { frames := 3, cells := 0, slots := 0, locals := 65 }
theorem iw_X10_book_X10 : ∀ w ∈ wsX100, w ∈ wsX10_book := by decide +kernel
set_option maxHeartbeats 4000000 in
set_option maxRecDepth 100000 in
theorem c_X10_book (l : Launch) (G : va_G) (K : ClassId × ClassId × ClassId) (tb q : Nat → Nat) (sz : Nat) (post : Int32 → (Nat → Int32) → Prop) (p1 : Int32) (p2 : Int32) (p3 : Int32) (kd_size : Int32) (st_booked : Nat → Int32) (hw : P_X10_book post p1 p2 p3 kd_size st_booked) : Met l yX10_book wsX10_book rm_X10_book (va_Pc [.ref (q 0), .int p1, .int p2, .int p3] (hPre G K tb [oX10 q, oX4 q kd_size, oX8 q, aI K (q 5) 30 st_booked] sz)) (va_Qi (fun (r : Int32) (u : (Nat → Int32)) => post r u) (fun u => hB G K (va_A [oX10 q, oX4 q kd_size, oX8 q, aI K (q 5) 30 st_booked] sz) [oX10 q, oX4 q kd_size, oX8 q, aI K (q 5) 30 u]) (va_A [oX10 q, oX4 q kd_size, oX8 q, aI K (q 5) 30 st_booked] sz)) 0 0 (va_A [oX10 q, oX4 q kd_size, oX8 q, aI K (q 5) 30 st_booked] sz) := by
  refine hMet (fun A => va_Qi (fun (r : Int32) (u : (Nat → Int32)) => post r u) (fun u => hB G K A [oX10 q, oX4 q kd_size, oX8 q, aI K (q 5) 30 u]) A) (by decide) rfl (Nat.le_of_ble_eq_true rfl) ?_
  intro p e s m av below meth c A Q ls hx hb hr hml hts hown hlocks hnm hA hP hK hD hS hE hQ hl
  have hts : ∀ w ∈ wsX10_book, w.before av s = true := hts
  have hown : s.vm.findClass RX10 = some m.cls := hown
  have hl : lv_has ls 4 [(0, .ref (q 0)), (1, .int p1), (2, .int p2), (3, .int p3)] := hl
  unfold P_X10_book at hw
  refine lv_aload_n (pc := 0) hx hb dX10_book_0 rfl (lv_at hl 0 rfl) ?_
  refine lv_iload_n (pc := 1) hx hb dX10_book_1 rfl (lv_at hl 1 rfl) ?_
  refine lv_iload_n (pc := 2) hx hb dX10_book_2 rfl (lv_at hl 2 rfl) ?_
  refine hCallI (pc := 3) (wr := [oX8 q, aI K (q 5) 30 st_booked]) (wsf := fun (u : Unit) => [oX10 q, oX4 q kd_size]) [0, 1] [2, 3] (va_runV (As := [.int p1, .int p2]) (rest := []) ⟨hx, hb, hml, hown, hts⟩ (c_X10_isCell l G K tb q s.heap.size _ p1 p2 kd_size hw) (cwV 2 hts gX10_book_X10_isCell rfl rfl rfl (by decide +kernel) ⟨Nat.le_of_ble_eq_true rfl, Nat.le_of_ble_eq_true rfl⟩) (hPreV hE hP hK hD hS hA [0, 1] (by decide) rfl rfl rfl rfl (q0 := 0) (ci := 10) rfl) rfl rfl hl.1 rfl (lv_room (Nat.le_of_ble_eq_true rfl)) dX10_book_3 ⟨Nat.zero_le _, Nat.zero_le _⟩) hP hD hS hA rfl rfl (by decide) (by decide) (fun r_1 u H locs hw hP hD hS => ?_)
  have hP : va_P G vwCl [oX10 q, oX4 q kd_size, oX8 q, aI K (q 5) 30 st_booked] H := hP.sub [2, 3, 0, 1] rfl
  have hD : va_D A [oX10 q, oX4 q kd_size, oX8 q, aI K (q 5) 30 st_booked] := hD.sub [2, 3, 0, 1] (by decide) rfl
  refine lv_if_ne (pc := 6) (tgt := 11) hx hb dX10_book_6 (by decide) (fun c_2 => ?_) (fun c_2 => ?_)
  · replace hw := hw.2 c_2
    refine lv_iload_n (pc := 11) hx hb dX10_book_11 rfl (lv_at hl 3 rfl) ?_
    refine lv_iconst (pc := 12) (v := (0 : Int32)) hx hb dX10_book_12 (by decide) ?_
    refine lv_sipush (pc := 13) (v := (999 : Int32)) hx hb dX10_book_13 (by decide) ?_
    refine hCallI (pc := 16) (wr := [oX10 q, oX4 q kd_size, oX8 q, aI K (q 5) 30 st_booked]) (wsf := fun (u : Unit) => []) [] [0, 1, 2, 3] (va_runS (As := [.int p3, .int (0 : Int32), .int (999 : Int32)]) (rest := []) ⟨hx, hb, hml, hown, hts⟩ (c_X10_within l G K tb q H.size _ p3 (0 : Int32) (999 : Int32) hw) (va_cwS 3 hts gX10_book_X10_within rfl rfl rfl (by decide +kernel) ⟨Nat.le_of_ble_eq_true rfl, Nat.le_of_ble_eq_true rfl⟩) (hPreS hE hP hK hD hS hA [] (by decide) rfl rfl) rfl rfl hl.1 rfl (lv_room (Nat.le_of_ble_eq_true rfl)) dX10_book_16 ⟨Nat.zero_le _, Nat.zero_le _⟩) hP hD hS hA rfl rfl (by decide) (by decide) (fun r_3 u H locs hw hP hD hS => ?_)
    have hP : va_P G vwCl [oX10 q, oX4 q kd_size, oX8 q, aI K (q 5) 30 st_booked] H := hP.sub [0, 1, 2, 3] rfl
    have hD : va_D A [oX10 q, oX4 q kd_size, oX8 q, aI K (q 5) 30 st_booked] := hD.sub [0, 1, 2, 3] (by decide) rfl
    refine lv_if_eq (pc := 19) (tgt := 38) hx hb dX10_book_19 (by decide) (fun c_4 => ?_) (fun c_4 => ?_)
    · replace hw := hw.1 c_4
      refine lv_bipush (pc := 38) (v := (-2 : Int32)) hx hb dX10_book_38 (by decide) ?_
      exact hRetI (S := (Nat → Int32)) st_booked hx hb hr hlocks hQ hw hP hK hD hS dX10_book_40
    · replace hw := hw.2 c_4
      refine lv_aload_n (pc := 22) hx hb dX10_book_22 rfl (lv_at hl 0 rfl) ?_
      refine va_get (pc := 23) (D := G) (ci := 10) (v := .ref (q 4)) (C := RX10) (T := TX10) (N := 10) hx hb hts iw_X10_book_X10 hown hK hP 0 rfl rfl 1 (by decide) (hts _ (List.mem_of_getElem? (i := 1) rfl)) (fun _ h9 => h9) rfl dX10_book_23 ?_
      refine lv_iload_n (pc := 26) hx hb dX10_book_26 rfl (lv_at hl 1 rfl) ?_
      refine lv_iload_n (pc := 27) hx hb dX10_book_27 rfl (lv_at hl 2 rfl) ?_
      refine hCallI (pc := 28) (wr := [oX10 q, oX4 q kd_size, oX8 q, aI K (q 5) 30 st_booked]) (wsf := fun (u : Unit) => []) [] [0, 1, 2, 3] (va_runS (As := [.int p1, .int p2]) (rest := [.ref (q 4)]) ⟨hx, hb, hml, hown, hts⟩ (c_X10_cell l G K tb q H.size _ p1 p2 hw) (va_cwS 2 hts gX10_book_X10_cell rfl rfl rfl (by decide +kernel) ⟨Nat.le_of_ble_eq_true rfl, Nat.le_of_ble_eq_true rfl⟩) (hPreS hE hP hK hD hS hA [] (by decide) rfl rfl) rfl rfl hl.1 rfl (lv_room (Nat.le_of_ble_eq_true rfl)) dX10_book_28 ⟨Nat.zero_le _, Nat.zero_le _⟩) hP hD hS hA rfl rfl (by decide) (by decide) (fun r_5 u H locs hw hP hD hS => ?_)
      have hP : va_P G vwCl [oX10 q, oX4 q kd_size, oX8 q, aI K (q 5) 30 st_booked] H := hP.sub [0, 1, 2, 3] rfl
      have hD : va_D A [oX10 q, oX4 q kd_size, oX8 q, aI K (q 5) 30 st_booked] := hD.sub [0, 1, 2, 3] (by decide) rfl
      refine lv_iload_n (pc := 31) hx hb dX10_book_31 rfl (lv_at hl 3 rfl) ?_
      refine hCallI (pc := 32) (wr := [oX10 q, oX4 q kd_size]) (wsf := fun (u : (Nat → Int32)) => [oX8 q, aI K (q 5) 30 u]) [2, 3] [0, 1] (va_runVN (As := [.int r_5, .int p3]) (rest := []) ⟨hx, hb, hml, hown, hts⟩ (c_X8_setBooked l G K tb q H.size _ r_5 p3 st_booked hw) ⟨va_cnB 2 hts gX10_book_X8_setBooked_n98 rfl rfl rfl (hE.nw 31 rfl) (hts _ (List.mem_of_getElem? (i := 23) rfl)) (by decide +kernel) ⟨Nat.le_of_ble_eq_true rfl, Nat.le_of_ble_eq_true rfl⟩, (hts _ (List.mem_of_getElem? (i := 22) rfl)), (hts _ (List.mem_of_getElem? (i := 24) rfl))⟩ (hPreV hE hP hK hD hS hA [2, 3] (by decide) rfl rfl rfl rfl (q0 := 2) (ci := 8) rfl) rfl rfl hl.1 rfl (lv_room (Nat.le_of_ble_eq_true rfl)) dX10_book_32 ⟨Nat.zero_le _, Nat.zero_le _⟩) hP hD hS hA rfl rfl (by decide) (by decide) (fun r_6 u H locs hw hP hD hS => ?_)
      obtain ⟨st_booked_7, rfl⟩ : ∃ z, z = u := ⟨_, rfl⟩
      have hP : va_P G vwCl [oX10 q, oX4 q kd_size, oX8 q, aI K (q 5) 30 st_booked_7] H := hP.sub [0, 1, 2, 3] rfl
      have hD : va_D A [oX10 q, oX4 q kd_size, oX8 q, aI K (q 5) 30 st_booked_7] := hD.sub [0, 1, 2, 3] (by decide) rfl
      refine lv_goto (pc := 35) (tgt := 40) hx hb dX10_book_35 (by decide) ?_
      exact hRetI (S := (Nat → Int32)) st_booked_7 hx hb hr hlocks hQ hw hP hK hD hS dX10_book_40
  · replace hw := hw.1 c_2
    refine lv_iconst (pc := 9) (v := (-1 : Int32)) hx hb dX10_book_9 (by decide) ?_
    exact hRetI (S := (Nat → Int32)) st_booked hx hb hr hlocks hQ hw hP hK hD hS dX10_book_10
def P_X10_bound (post : Int32 → (Nat → Int64) → (Nat → Int64) → Prop) (p1 : Int32) (p2 : Int32) (p3 : Int32) (p4 : Int32) (bg_fromHolding : Nat → Int64) (bg_fromOthers : Nat → Int64) : Prop :=
  P_X10_isDraw (fun r_1 => ((r_1 = (0 : Int32) → post (-2 : Int32) bg_fromHolding bg_fromOthers) ∧ (¬ r_1 = (0 : Int32) → ((p4 = (0 : Int32) → P_X0_leastKept (fun r_4 bg_fromHolding_5 bg_fromOthers_6 => post r_4 bg_fromHolding_5 bg_fromOthers_6) p1 p2 p3 bg_fromHolding bg_fromOthers) ∧ (¬ p4 = (0 : Int32) → P_X0_greatestKept (fun r_7 bg_fromHolding_8 bg_fromOthers_9 => post r_7 bg_fromHolding_8 bg_fromOthers_9) p1 p2 p3 bg_fromHolding bg_fromOthers))))) p1 p2 p3
abbrev rm_X10_bound : Room := { frames := 3, cells := 0, slots := 0, locals := 79 }
theorem iw_X10_bound_X10 : ∀ w ∈ wsX100, w ∈ wsX10_bound := by decide +kernel
set_option maxHeartbeats 4000000 in
set_option maxRecDepth 100000 in
theorem c_X10_bound (l : Launch) (G : va_G) (K : ClassId × ClassId × ClassId) (tb q : Nat → Nat) (sz : Nat) (post : Int32 → (Nat → Int64) → (Nat → Int64) → Prop) (p1 : Int32) (p2 : Int32) (p3 : Int32) (p4 : Int32) (bg_fromHolding : Nat → Int64) (bg_fromOthers : Nat → Int64) (hw : P_X10_bound post p1 p2 p3 p4 bg_fromHolding bg_fromOthers) : Met l yX10_bound wsX10_bound rm_X10_bound (va_Pc [.ref (q 0), .int p1, .int p2, .int p3, .int p4] (hPre G K tb [oX10 q, oX0 q, aJ K (q 42) 61 bg_fromHolding, aJ K (q 43) 61 bg_fromOthers] sz)) (va_Qi (fun (r : Int32) (u : (Nat → Int64) × (Nat → Int64)) => post r u.1 u.2) (fun u => hB G K (va_A [oX10 q, oX0 q, aJ K (q 42) 61 bg_fromHolding, aJ K (q 43) 61 bg_fromOthers] sz) [oX10 q, oX0 q, aJ K (q 42) 61 u.1, aJ K (q 43) 61 u.2]) (va_A [oX10 q, oX0 q, aJ K (q 42) 61 bg_fromHolding, aJ K (q 43) 61 bg_fromOthers] sz)) 0 0 (va_A [oX10 q, oX0 q, aJ K (q 42) 61 bg_fromHolding, aJ K (q 43) 61 bg_fromOthers] sz) := by
  refine hMet (fun A => va_Qi (fun (r : Int32) (u : (Nat → Int64) × (Nat → Int64)) => post r u.1 u.2) (fun u => hB G K A [oX10 q, oX0 q, aJ K (q 42) 61 u.1, aJ K (q 43) 61 u.2]) A) (by decide) rfl (Nat.le_of_ble_eq_true rfl) ?_
  intro p e s m av below meth c A Q ls hx hb hr hml hts hown hlocks hnm hA hP hK hD hS hE hQ hl
  have hts : ∀ w ∈ wsX10_bound, w.before av s = true := hts
  have hown : s.vm.findClass RX10 = some m.cls := hown
  have hl : lv_has ls 5 [(0, .ref (q 0)), (1, .int p1), (2, .int p2), (3, .int p3), (4, .int p4)] := hl
  unfold P_X10_bound at hw
  refine lv_iload_n (pc := 0) hx hb dX10_bound_0 rfl (lv_at hl 1 rfl) ?_
  refine lv_iload_n (pc := 1) hx hb dX10_bound_1 rfl (lv_at hl 2 rfl) ?_
  refine lv_iload_n (pc := 2) hx hb dX10_bound_2 rfl (lv_at hl 3 rfl) ?_
  refine hCallI (pc := 3) (wr := [oX10 q, oX0 q, aJ K (q 42) 61 bg_fromHolding, aJ K (q 43) 61 bg_fromOthers]) (wsf := fun (u : Unit) => []) [] [0, 1, 2, 3] (va_runS (As := [.int p1, .int p2, .int p3]) (rest := []) ⟨hx, hb, hml, hown, hts⟩ (c_X10_isDraw l G K tb q s.heap.size _ p1 p2 p3 hw) (va_cwS 3 hts gX10_bound_X10_isDraw rfl rfl rfl (by decide +kernel) ⟨Nat.le_of_ble_eq_true rfl, Nat.le_of_ble_eq_true rfl⟩) (hPreS hE hP hK hD hS hA [] (by decide) rfl rfl) rfl rfl hl.1 rfl (lv_room (Nat.le_of_ble_eq_true rfl)) dX10_bound_3 ⟨Nat.zero_le _, Nat.zero_le _⟩) hP hD hS hA rfl rfl (by decide) (by decide) (fun r_1 u H locs hw hP hD hS => ?_)
  have hP : va_P G vwCl [oX10 q, oX0 q, aJ K (q 42) 61 bg_fromHolding, aJ K (q 43) 61 bg_fromOthers] H := hP.sub [0, 1, 2, 3] rfl
  have hD : va_D A [oX10 q, oX0 q, aJ K (q 42) 61 bg_fromHolding, aJ K (q 43) 61 bg_fromOthers] := hD.sub [0, 1, 2, 3] (by decide) rfl
  refine lv_if_ne (pc := 6) (tgt := 12) hx hb dX10_bound_6 (by decide) (fun c_2 => ?_) (fun c_2 => ?_)
  · replace hw := hw.2 c_2
    refine lv_iload (pc := 12) hx hb dX10_bound_12 (lv_at hl 4 rfl) ?_
    refine lv_if_eq (pc := 14) (tgt := 30) hx hb dX10_bound_14 (by decide) (fun c_3 => ?_) (fun c_3 => ?_)
    · replace hw := hw.1 c_3
      refine lv_aload_n (pc := 30) hx hb dX10_bound_30 rfl (lv_at hl 0 rfl) ?_
      refine va_get (pc := 31) (D := G) (ci := 10) (v := .ref (q 41)) (C := RX10) (T := TX10) (N := 10) hx hb hts iw_X10_bound_X10 hown hK hP 0 rfl rfl 8 (by decide) (hts _ (List.mem_of_getElem? (i := 1) rfl)) (fun _ h9 => h9) rfl dX10_bound_31 ?_
      refine lv_iload_n (pc := 34) hx hb dX10_bound_34 rfl (lv_at hl 1 rfl) ?_
      refine lv_iload_n (pc := 35) hx hb dX10_bound_35 rfl (lv_at hl 2 rfl) ?_
      refine lv_iload_n (pc := 36) hx hb dX10_bound_36 rfl (lv_at hl 3 rfl) ?_
      refine hCallI (pc := 37) (wr := [oX10 q]) (wsf := fun (u : (Nat → Int64) × (Nat → Int64)) => [oX0 q, aJ K (q 42) 61 u.1, aJ K (q 43) 61 u.2]) [1, 2, 3] [0] (va_runVN (As := [.int p1, .int p2, .int p3]) (rest := []) ⟨hx, hb, hml, hown, hts⟩ (c_X0_leastKept l G K tb q H.size _ p1 p2 p3 bg_fromHolding bg_fromOthers hw) ⟨va_cnB 3 hts gX10_bound_X0_leastKept_n257 rfl rfl rfl (hE.nw 70 rfl) (hts _ (List.mem_of_getElem? (i := 10) rfl)) (by decide +kernel) ⟨Nat.le_of_ble_eq_true rfl, Nat.le_of_ble_eq_true rfl⟩, (hts _ (List.mem_of_getElem? (i := 23) rfl)), (hts _ (List.mem_of_getElem? (i := 24) rfl))⟩ (hPreV hE hP hK hD hS hA [1, 2, 3] (by decide) rfl rfl rfl rfl (q0 := 1) (ci := 0) rfl) rfl rfl hl.1 rfl (lv_room (Nat.le_of_ble_eq_true rfl)) dX10_bound_37 ⟨Nat.zero_le _, Nat.zero_le _⟩) hP hD hS hA rfl rfl (by decide) (by decide) (fun r_4 u H locs hw hP hD hS => ?_)
      obtain ⟨bg_fromHolding_5, bg_fromOthers_6⟩ := u
      have hP : va_P G vwCl [oX10 q, oX0 q, aJ K (q 42) 61 bg_fromHolding_5, aJ K (q 43) 61 bg_fromOthers_6] H := hP.sub [0, 1, 2, 3] rfl
      have hD : va_D A [oX10 q, oX0 q, aJ K (q 42) 61 bg_fromHolding_5, aJ K (q 43) 61 bg_fromOthers_6] := hD.sub [0, 1, 2, 3] (by decide) rfl
      exact hRetI (S := (Nat → Int64) × (Nat → Int64)) (bg_fromHolding_5, bg_fromOthers_6) hx hb hr hlocks hQ hw hP hK hD hS dX10_bound_40
    · replace hw := hw.2 c_3
      refine lv_aload_n (pc := 17) hx hb dX10_bound_17 rfl (lv_at hl 0 rfl) ?_
      refine va_get (pc := 18) (D := G) (ci := 10) (v := .ref (q 41)) (C := RX10) (T := TX10) (N := 10) hx hb hts iw_X10_bound_X10 hown hK hP 0 rfl rfl 8 (by decide) (hts _ (List.mem_of_getElem? (i := 1) rfl)) (fun _ h9 => h9) rfl dX10_bound_18 ?_
      refine lv_iload_n (pc := 21) hx hb dX10_bound_21 rfl (lv_at hl 1 rfl) ?_
      refine lv_iload_n (pc := 22) hx hb dX10_bound_22 rfl (lv_at hl 2 rfl) ?_
      refine lv_iload_n (pc := 23) hx hb dX10_bound_23 rfl (lv_at hl 3 rfl) ?_
      refine hCallI (pc := 24) (wr := [oX10 q]) (wsf := fun (u : (Nat → Int64) × (Nat → Int64)) => [oX0 q, aJ K (q 42) 61 u.1, aJ K (q 43) 61 u.2]) [1, 2, 3] [0] (va_runVN (As := [.int p1, .int p2, .int p3]) (rest := []) ⟨hx, hb, hml, hown, hts⟩ (c_X0_greatestKept l G K tb q H.size _ p1 p2 p3 bg_fromHolding bg_fromOthers hw) ⟨va_cnB 3 hts gX10_bound_X0_greatestKept_n254 rfl rfl rfl (hE.nw 69 rfl) (hts _ (List.mem_of_getElem? (i := 10) rfl)) (by decide +kernel) ⟨Nat.le_of_ble_eq_true rfl, Nat.le_of_ble_eq_true rfl⟩, (hts _ (List.mem_of_getElem? (i := 9) rfl)), (hts _ (List.mem_of_getElem? (i := 11) rfl))⟩ (hPreV hE hP hK hD hS hA [1, 2, 3] (by decide) rfl rfl rfl rfl (q0 := 1) (ci := 0) rfl) rfl rfl hl.1 rfl (lv_room (Nat.le_of_ble_eq_true rfl)) dX10_bound_24 ⟨Nat.zero_le _, Nat.zero_le _⟩) hP hD hS hA rfl rfl (by decide) (by decide) (fun r_7 u H locs hw hP hD hS => ?_)
      obtain ⟨bg_fromHolding_8, bg_fromOthers_9⟩ := u
      have hP : va_P G vwCl [oX10 q, oX0 q, aJ K (q 42) 61 bg_fromHolding_8, aJ K (q 43) 61 bg_fromOthers_9] H := hP.sub [0, 1, 2, 3] rfl
      have hD : va_D A [oX10 q, oX0 q, aJ K (q 42) 61 bg_fromHolding_8, aJ K (q 43) 61 bg_fromOthers_9] := hD.sub [0, 1, 2, 3] (by decide) rfl
      refine lv_goto (pc := 27) (tgt := 40) hx hb dX10_bound_27 (by decide) ?_
      exact hRetI (S := (Nat → Int64) × (Nat → Int64)) (bg_fromHolding_8, bg_fromOthers_9) hx hb hr hlocks hQ hw hP hK hD hS dX10_bound_40
  · replace hw := hw.1 c_2
    refine lv_bipush (pc := 9) (v := (-2 : Int32)) hx hb dX10_bound_9 (by decide) ?_
    exact hRetI (S := (Nat → Int64) × (Nat → Int64)) (bg_fromHolding, bg_fromOthers) hx hb hr hlocks hQ hw hP hK hD hS dX10_bound_11
def P_X10_broke (post : Int32 → (Nat → Int32) → (Nat → Int32) → (Nat → Int32) → Int32 → Prop) (p1 : Int32) (p2 : Int32) (p3 : Int32) (br_night : Nat → Int32) (br_shift : Nat → Int32) (br_pieces : Nat → Int32) (br_size : Int32) : Prop :=
  P_X10_within (fun r_1 => ((r_1 = (0 : Int32) → post (-2 : Int32) br_night br_shift br_pieces br_size) ∧ (¬ r_1 = (0 : Int32) → P_X10_isShift (fun r_3 => ((r_3 = (0 : Int32) → post (-2 : Int32) br_night br_shift br_pieces br_size) ∧ (¬ r_3 = (0 : Int32) → P_X10_within (fun r_5 => ((r_5 = (0 : Int32) → post (-2 : Int32) br_night br_shift br_pieces br_size) ∧ (¬ r_5 = (0 : Int32) → ((br_size < (60 : Int32) → P_X1_add (fun r_8 br_night_9 br_shift_10 br_pieces_11 br_size_12 => post r_8 br_night_9 br_shift_10 br_pieces_11 br_size_12) p1 p2 p3 br_night br_shift br_pieces br_size) ∧ (¬ br_size < (60 : Int32) → post (-4 : Int32) br_night br_shift br_pieces br_size))))) p3 (1 : Int32) (99 : Int32)))) p2))) p1 (0 : Int32) (999 : Int32)
abbrev rm_X10_broke : Room := { frames := 2, cells := 0, slots := 0, locals := 42 }
theorem iw_X10_broke_X1 : ∀ w ∈ wsX10, w ∈ wsX10_broke := by decide +kernel
theorem iw_X10_broke_X10 : ∀ w ∈ wsX100, w ∈ wsX10_broke := by decide +kernel
set_option maxHeartbeats 4000000 in
set_option maxRecDepth 100000 in
theorem c_X10_broke (l : Launch) (G : va_G) (K : ClassId × ClassId × ClassId) (tb q : Nat → Nat) (sz : Nat) (post : Int32 → (Nat → Int32) → (Nat → Int32) → (Nat → Int32) → Int32 → Prop) (p1 : Int32) (p2 : Int32) (p3 : Int32) (br_night : Nat → Int32) (br_shift : Nat → Int32) (br_pieces : Nat → Int32) (br_size : Int32) (hw : P_X10_broke post p1 p2 p3 br_night br_shift br_pieces br_size) : Met l yX10_broke wsX10_broke rm_X10_broke (va_Pc [.ref (q 0), .int p1, .int p2, .int p3] (hPre G K tb [oX10 q, oX1 q br_size, aI K (q 45) 60 br_night, aI K (q 46) 60 br_shift, aI K (q 47) 60 br_pieces] sz)) (va_Qi (fun (r : Int32) (u : (Nat → Int32) × (Nat → Int32) × (Nat → Int32) × Int32) => post r u.1 u.2.1 u.2.2.1 u.2.2.2) (fun u => hB G K (va_A [oX10 q, oX1 q br_size, aI K (q 45) 60 br_night, aI K (q 46) 60 br_shift, aI K (q 47) 60 br_pieces] sz) [oX10 q, oX1 q u.2.2.2, aI K (q 45) 60 u.1, aI K (q 46) 60 u.2.1, aI K (q 47) 60 u.2.2.1]) (va_A [oX10 q, oX1 q br_size, aI K (q 45) 60 br_night, aI K (q 46) 60 br_shift, aI K (q 47) 60 br_pieces] sz)) 0 0 (va_A [oX10 q, oX1 q br_size, aI K (q 45) 60 br_night, aI K (q 46) 60 br_shift, aI K (q 47) 60 br_pieces] sz) := by
  refine hMet (fun A => va_Qi (fun (r : Int32) (u : (Nat → Int32) × (Nat → Int32) × (Nat → Int32) × Int32) => post r u.1 u.2.1 u.2.2.1 u.2.2.2) (fun u => hB G K A [oX10 q, oX1 q u.2.2.2, aI K (q 45) 60 u.1, aI K (q 46) 60 u.2.1, aI K (q 47) 60 u.2.2.1]) A) (by decide) rfl (Nat.le_of_ble_eq_true rfl) ?_
  intro p e s m av below meth c A Q ls hx hb hr hml hts hown hlocks hnm hA hP hK hD hS hE hQ hl
  have hts : ∀ w ∈ wsX10_broke, w.before av s = true := hts
  have hown : s.vm.findClass RX10 = some m.cls := hown
  have hl : lv_has ls 4 [(0, .ref (q 0)), (1, .int p1), (2, .int p2), (3, .int p3)] := hl
  unfold P_X10_broke at hw
  refine lv_iload_n (pc := 0) hx hb dX10_broke_0 rfl (lv_at hl 1 rfl) ?_
  refine lv_iconst (pc := 1) (v := (0 : Int32)) hx hb dX10_broke_1 (by decide) ?_
  refine lv_sipush (pc := 2) (v := (999 : Int32)) hx hb dX10_broke_2 (by decide) ?_
  refine hCallI (pc := 5) (wr := [oX10 q, oX1 q br_size, aI K (q 45) 60 br_night, aI K (q 46) 60 br_shift, aI K (q 47) 60 br_pieces]) (wsf := fun (u : Unit) => []) [] [0, 1, 2, 3, 4] (va_runS (As := [.int p1, .int (0 : Int32), .int (999 : Int32)]) (rest := []) ⟨hx, hb, hml, hown, hts⟩ (c_X10_within l G K tb q s.heap.size _ p1 (0 : Int32) (999 : Int32) hw) (va_cwS 3 hts gX10_broke_X10_within rfl rfl rfl (by decide +kernel) ⟨Nat.le_of_ble_eq_true rfl, Nat.le_of_ble_eq_true rfl⟩) (hPreS hE hP hK hD hS hA [] (by decide) rfl rfl) rfl rfl hl.1 rfl (lv_room (Nat.le_of_ble_eq_true rfl)) dX10_broke_5 ⟨Nat.zero_le _, Nat.zero_le _⟩) hP hD hS hA rfl rfl (by decide) (by decide) (fun r_1 u H locs hw hP hD hS => ?_)
  have hP : va_P G vwCl [oX10 q, oX1 q br_size, aI K (q 45) 60 br_night, aI K (q 46) 60 br_shift, aI K (q 47) 60 br_pieces] H := hP.sub [0, 1, 2, 3, 4] rfl
  have hD : va_D A [oX10 q, oX1 q br_size, aI K (q 45) 60 br_night, aI K (q 46) 60 br_shift, aI K (q 47) 60 br_pieces] := hD.sub [0, 1, 2, 3, 4] (by decide) rfl
  refine lv_if_eq (pc := 8) (tgt := 28) hx hb dX10_broke_8 (by decide) (fun c_2 => ?_) (fun c_2 => ?_)
  · replace hw := hw.1 c_2
    refine lv_bipush (pc := 28) (v := (-2 : Int32)) hx hb dX10_broke_28 (by decide) ?_
    exact hRetI (S := (Nat → Int32) × (Nat → Int32) × (Nat → Int32) × Int32) (br_night, br_shift, br_pieces, br_size) hx hb hr hlocks hQ hw hP hK hD hS dX10_broke_30
  · replace hw := hw.2 c_2
    refine lv_iload_n (pc := 11) hx hb dX10_broke_11 rfl (lv_at hl 2 rfl) ?_
    refine hCallI (pc := 12) (wr := [oX10 q, oX1 q br_size, aI K (q 45) 60 br_night, aI K (q 46) 60 br_shift, aI K (q 47) 60 br_pieces]) (wsf := fun (u : Unit) => []) [] [0, 1, 2, 3, 4] (va_runS (As := [.int p2]) (rest := []) ⟨hx, hb, hml, hown, hts⟩ (c_X10_isShift l G K tb q H.size _ p2 hw) (va_cwS 1 hts gX10_broke_X10_isShift rfl rfl rfl (by decide +kernel) ⟨Nat.le_of_ble_eq_true rfl, Nat.le_of_ble_eq_true rfl⟩) (hPreS hE hP hK hD hS hA [] (by decide) rfl rfl) rfl rfl hl.1 rfl (lv_room (Nat.le_of_ble_eq_true rfl)) dX10_broke_12 ⟨Nat.zero_le _, Nat.zero_le _⟩) hP hD hS hA rfl rfl (by decide) (by decide) (fun r_3 u H locs hw hP hD hS => ?_)
    have hP : va_P G vwCl [oX10 q, oX1 q br_size, aI K (q 45) 60 br_night, aI K (q 46) 60 br_shift, aI K (q 47) 60 br_pieces] H := hP.sub [0, 1, 2, 3, 4] rfl
    have hD : va_D A [oX10 q, oX1 q br_size, aI K (q 45) 60 br_night, aI K (q 46) 60 br_shift, aI K (q 47) 60 br_pieces] := hD.sub [0, 1, 2, 3, 4] (by decide) rfl
    refine lv_if_eq (pc := 15) (tgt := 28) hx hb dX10_broke_15 (by decide) (fun c_4 => ?_) (fun c_4 => ?_)
    · replace hw := hw.1 c_4
      refine lv_bipush (pc := 28) (v := (-2 : Int32)) hx hb dX10_broke_28 (by decide) ?_
      exact hRetI (S := (Nat → Int32) × (Nat → Int32) × (Nat → Int32) × Int32) (br_night, br_shift, br_pieces, br_size) hx hb hr hlocks hQ hw hP hK hD hS dX10_broke_30
    · replace hw := hw.2 c_4
      refine lv_iload_n (pc := 18) hx hb dX10_broke_18 rfl (lv_at hl 3 rfl) ?_
      refine lv_iconst (pc := 19) (v := (1 : Int32)) hx hb dX10_broke_19 (by decide) ?_
      refine lv_bipush (pc := 20) (v := (99 : Int32)) hx hb dX10_broke_20 (by decide) ?_
      refine hCallI (pc := 22) (wr := [oX10 q, oX1 q br_size, aI K (q 45) 60 br_night, aI K (q 46) 60 br_shift, aI K (q 47) 60 br_pieces]) (wsf := fun (u : Unit) => []) [] [0, 1, 2, 3, 4] (va_runS (As := [.int p3, .int (1 : Int32), .int (99 : Int32)]) (rest := []) ⟨hx, hb, hml, hown, hts⟩ (c_X10_within l G K tb q H.size _ p3 (1 : Int32) (99 : Int32) hw) (va_cwS 3 hts gX10_broke_X10_within rfl rfl rfl (by decide +kernel) ⟨Nat.le_of_ble_eq_true rfl, Nat.le_of_ble_eq_true rfl⟩) (hPreS hE hP hK hD hS hA [] (by decide) rfl rfl) rfl rfl hl.1 rfl (lv_room (Nat.le_of_ble_eq_true rfl)) dX10_broke_22 ⟨Nat.zero_le _, Nat.zero_le _⟩) hP hD hS hA rfl rfl (by decide) (by decide) (fun r_5 u H locs hw hP hD hS => ?_)
      have hP : va_P G vwCl [oX10 q, oX1 q br_size, aI K (q 45) 60 br_night, aI K (q 46) 60 br_shift, aI K (q 47) 60 br_pieces] H := hP.sub [0, 1, 2, 3, 4] rfl
      have hD : va_D A [oX10 q, oX1 q br_size, aI K (q 45) 60 br_night, aI K (q 46) 60 br_shift, aI K (q 47) 60 br_pieces] := hD.sub [0, 1, 2, 3, 4] (by decide) rfl
      refine lv_if_ne (pc := 25) (tgt := 31) hx hb dX10_broke_25 (by decide) (fun c_6 => ?_) (fun c_6 => ?_)
      · replace hw := hw.2 c_6
        refine lv_aload_n (pc := 31) hx hb dX10_broke_31 rfl (lv_at hl 0 rfl) ?_
        refine va_get (pc := 32) (D := G) (ci := 10) (v := .ref (q 44)) (C := RX10) (T := TX10) (N := 10) hx hb hts iw_X10_broke_X10 hown hK hP 0 rfl rfl 9 (by decide) (hts _ (List.mem_of_getElem? (i := 1) rfl)) (fun _ h9 => h9) rfl dX10_broke_32 ?_
        refine va_getN (pc := 35) (D := G) (host := RX10) (ci := 1) (v := .int br_size) (C := RX1) (T := TX1) (N := 4) hx hb hts iw_X10_broke_X1 hown hK hP 1 rfl rfl 3 (by decide) (hE.use 27 rfl) (fun _ h9 => h9) rfl dX10_broke_35 ?_
        refine lv_bipush (pc := 38) (v := (60 : Int32)) hx hb dX10_broke_38 (by decide) ?_
        refine lv_icmp_lt (pc := 40) (tgt := 48) hx hb dX10_broke_40 (by decide) (fun c_7 => ?_) (fun c_7 => ?_)
        · replace hw := hw.1 c_7
          refine lv_aload_n (pc := 48) hx hb dX10_broke_48 rfl (lv_at hl 0 rfl) ?_
          refine va_get (pc := 49) (D := G) (ci := 10) (v := .ref (q 44)) (C := RX10) (T := TX10) (N := 10) hx hb hts iw_X10_broke_X10 hown hK hP 0 rfl rfl 9 (by decide) (hts _ (List.mem_of_getElem? (i := 1) rfl)) (fun _ h9 => h9) rfl dX10_broke_49 ?_
          refine lv_iload_n (pc := 52) hx hb dX10_broke_52 rfl (lv_at hl 1 rfl) ?_
          refine lv_iload_n (pc := 53) hx hb dX10_broke_53 rfl (lv_at hl 2 rfl) ?_
          refine lv_iload_n (pc := 54) hx hb dX10_broke_54 rfl (lv_at hl 3 rfl) ?_
          refine hCallI (pc := 55) (wr := [oX10 q]) (wsf := fun (u : (Nat → Int32) × (Nat → Int32) × (Nat → Int32) × Int32) => [oX1 q u.2.2.2, aI K (q 45) 60 u.1, aI K (q 46) 60 u.2.1, aI K (q 47) 60 u.2.2.1]) [1, 2, 3, 4] [0] (va_runVN (As := [.int p1, .int p2, .int p3]) (rest := []) ⟨hx, hb, hml, hown, hts⟩ (c_X1_add l G K tb q H.size _ p1 p2 p3 br_night br_shift br_pieces br_size hw) ⟨va_cnB 3 hts gX10_broke_X1_add_n264 rfl rfl rfl (hE.nw 71 rfl) (hts _ (List.mem_of_getElem? (i := 10) rfl)) (by decide +kernel) ⟨Nat.le_of_ble_eq_true rfl, Nat.le_of_ble_eq_true rfl⟩, (hts _ (List.mem_of_getElem? (i := 9) rfl)), (hts _ (List.mem_of_getElem? (i := 11) rfl))⟩ (hPreV hE hP hK hD hS hA [1, 2, 3, 4] (by decide) rfl rfl rfl rfl (q0 := 1) (ci := 1) rfl) rfl rfl hl.1 rfl (lv_room (Nat.le_of_ble_eq_true rfl)) dX10_broke_55 ⟨Nat.zero_le _, Nat.zero_le _⟩) hP hD hS hA rfl rfl (by decide) (by decide) (fun r_8 u H locs hw hP hD hS => ?_)
          obtain ⟨br_night_9, br_shift_10, br_pieces_11, br_size_12⟩ := u
          have hP : va_P G vwCl [oX10 q, oX1 q br_size_12, aI K (q 45) 60 br_night_9, aI K (q 46) 60 br_shift_10, aI K (q 47) 60 br_pieces_11] H := hP.sub [0, 1, 2, 3, 4] rfl
          have hD : va_D A [oX10 q, oX1 q br_size_12, aI K (q 45) 60 br_night_9, aI K (q 46) 60 br_shift_10, aI K (q 47) 60 br_pieces_11] := hD.sub [0, 1, 2, 3, 4] (by decide) rfl
          exact hRetI (S := (Nat → Int32) × (Nat → Int32) × (Nat → Int32) × Int32) (br_night_9, br_shift_10, br_pieces_11, br_size_12) hx hb hr hlocks hQ hw hP hK hD hS dX10_broke_58
        · replace hw := hw.2 c_7
          refine lv_bipush (pc := 43) (v := (-4 : Int32)) hx hb dX10_broke_43 (by decide) ?_
          refine lv_goto (pc := 45) (tgt := 58) hx hb dX10_broke_45 (by decide) ?_
          exact hRetI (S := (Nat → Int32) × (Nat → Int32) × (Nat → Int32) × Int32) (br_night, br_shift, br_pieces, br_size) hx hb hr hlocks hQ hw hP hK hD hS dX10_broke_58
      · replace hw := hw.1 c_6
        refine lv_bipush (pc := 28) (v := (-2 : Int32)) hx hb dX10_broke_28 (by decide) ?_
        exact hRetI (S := (Nat → Int32) × (Nat → Int32) × (Nat → Int32) × Int32) (br_night, br_shift, br_pieces, br_size) hx hb hr hlocks hQ hw hP hK hD hS dX10_broke_30
def P_X10_carried (post : Int32 → (Nat → Int32) → (Nat → Int32) → (Nat → Int32) → Int32 → (Nat → Int32) → (Nat → Int32) → (Nat → Int32) → (Nat → Int32) → (Nat → Int32) → (Nat → Int32) → (Nat → Int32) → (Nat → Int32) → Prop) (p1 : Int32) (kd_size : Int32) (st_booked : Nat → Int32) (ev_day : Nat → Int32) (ev_house : Nat → Int32) (ev_kind : Nat → Int32) (ev_need : Nat → Int32) (ev_on : Nat → Int32) (ev_size : Int32) (ca_far : Nat → Int32) (ca_farInGoes : Nat → Int32) (ca_served : Nat → Int32) (ca_rank : Nat → Int32) (ca_size : Int32) (ca_price : Nat → Int32) (ca_sent : Nat → Int32) (ca_spare : Nat → Int32) (ca_unmet : Nat → Int32) (ca_wayToSource : Nat → Int32) (ca_wayToEvent : Nat → Int32) (ca_aheadOfSource : Nat → Int32) (ca_aheadOfEvent : Nat → Int32) : Prop :=
  P_X4_has (fun r_1 => ((r_1 = (0 : Int32) → post (-1 : Int32) ca_farInGoes ca_served ca_rank ca_size ca_price ca_sent ca_spare ca_unmet ca_wayToSource ca_wayToEvent ca_aheadOfSource ca_aheadOfEvent) ∧ (¬ r_1 = (0 : Int32) → P_X2_leastFor (fun r_3 ca_farInGoes_4 ca_served_5 ca_rank_6 ca_size_7 ca_price_8 ca_sent_9 ca_spare_10 ca_unmet_11 ca_wayToSource_12 ca_wayToEvent_13 ca_aheadOfSource_14 ca_aheadOfEvent_15 => post r_3 ca_farInGoes_4 ca_served_5 ca_rank_6 ca_size_7 ca_price_8 ca_sent_9 ca_spare_10 ca_unmet_11 ca_wayToSource_12 ca_wayToEvent_13 ca_aheadOfSource_14 ca_aheadOfEvent_15) p1 (-9 : Int32) st_booked ev_day ev_house ev_kind ev_need ev_on ev_size ca_far ca_farInGoes ca_served ca_rank ca_size ca_price ca_sent ca_spare ca_unmet ca_wayToSource ca_wayToEvent ca_aheadOfSource ca_aheadOfEvent))) p1 kd_size
abbrev rm_X10_carried : Room := { frames := 5, cells := 0, slots := 0, locals := 122 }
theorem iw_X10_carried_X10 : ∀ w ∈ wsX100, w ∈ wsX10_carried := by decide +kernel
set_option maxHeartbeats 4000000 in
set_option maxRecDepth 100000 in
theorem c_X10_carried (l : Launch) (G : va_G) (K : ClassId × ClassId × ClassId) (tb q : Nat → Nat) (sz : Nat) (post : Int32 → (Nat → Int32) → (Nat → Int32) → (Nat → Int32) → Int32 → (Nat → Int32) → (Nat → Int32) → (Nat → Int32) → (Nat → Int32) → (Nat → Int32) → (Nat → Int32) → (Nat → Int32) → (Nat → Int32) → Prop) (p1 : Int32) (kd_size : Int32) (st_booked : Nat → Int32) (ev_day : Nat → Int32) (ev_house : Nat → Int32) (ev_kind : Nat → Int32) (ev_need : Nat → Int32) (ev_on : Nat → Int32) (ev_size : Int32) (ca_far : Nat → Int32) (ca_farInGoes : Nat → Int32) (ca_served : Nat → Int32) (ca_rank : Nat → Int32) (ca_size : Int32) (ca_price : Nat → Int32) (ca_sent : Nat → Int32) (ca_spare : Nat → Int32) (ca_unmet : Nat → Int32) (ca_wayToSource : Nat → Int32) (ca_wayToEvent : Nat → Int32) (ca_aheadOfSource : Nat → Int32) (ca_aheadOfEvent : Nat → Int32) (hw : P_X10_carried post p1 kd_size st_booked ev_day ev_house ev_kind ev_need ev_on ev_size ca_far ca_farInGoes ca_served ca_rank ca_size ca_price ca_sent ca_spare ca_unmet ca_wayToSource ca_wayToEvent ca_aheadOfSource ca_aheadOfEvent) : Met l yX10_carried wsX10_carried rm_X10_carried (va_Pc [.ref (q 0), .int p1] (hPre G K tb [oX10 q, oX4 q kd_size, oX8 q, aI K (q 5) 30 st_booked, oX3 q ev_size, aI K (q 13) 12 ev_day, aI K (q 14) 12 ev_house, aI K (q 15) 12 ev_kind, aI K (q 16) 12 ev_need, aZ K (q 17) 12 ev_on, oX2 q ca_size, aI K (q 19) 25 ca_far, aI K (q 20) 100 ca_farInGoes, aI K (q 21) 12 ca_served, aI K (q 22) 12 ca_rank, aI K (q 23) 204 ca_price, aI K (q 24) 204 ca_sent, aI K (q 25) 17 ca_spare, aI K (q 26) 12 ca_unmet, aI K (q 27) 17 ca_wayToSource, aI K (q 28) 12 ca_wayToEvent, aI K (q 29) 17 ca_aheadOfSource, aI K (q 30) 12 ca_aheadOfEvent] sz)) (va_Qi (fun (r : Int32) (u : (Nat → Int32) × (Nat → Int32) × (Nat → Int32) × Int32 × (Nat → Int32) × (Nat → Int32) × (Nat → Int32) × (Nat → Int32) × (Nat → Int32) × (Nat → Int32) × (Nat → Int32) × (Nat → Int32)) => post r u.1 u.2.1 u.2.2.1 u.2.2.2.1 u.2.2.2.2.1 u.2.2.2.2.2.1 u.2.2.2.2.2.2.1 u.2.2.2.2.2.2.2.1 u.2.2.2.2.2.2.2.2.1 u.2.2.2.2.2.2.2.2.2.1 u.2.2.2.2.2.2.2.2.2.2.1 u.2.2.2.2.2.2.2.2.2.2.2) (fun u => hB G K (va_A [oX10 q, oX4 q kd_size, oX8 q, aI K (q 5) 30 st_booked, oX3 q ev_size, aI K (q 13) 12 ev_day, aI K (q 14) 12 ev_house, aI K (q 15) 12 ev_kind, aI K (q 16) 12 ev_need, aZ K (q 17) 12 ev_on, oX2 q ca_size, aI K (q 19) 25 ca_far, aI K (q 20) 100 ca_farInGoes, aI K (q 21) 12 ca_served, aI K (q 22) 12 ca_rank, aI K (q 23) 204 ca_price, aI K (q 24) 204 ca_sent, aI K (q 25) 17 ca_spare, aI K (q 26) 12 ca_unmet, aI K (q 27) 17 ca_wayToSource, aI K (q 28) 12 ca_wayToEvent, aI K (q 29) 17 ca_aheadOfSource, aI K (q 30) 12 ca_aheadOfEvent] sz) [oX10 q, oX4 q kd_size, oX8 q, aI K (q 5) 30 st_booked, oX3 q ev_size, aI K (q 13) 12 ev_day, aI K (q 14) 12 ev_house, aI K (q 15) 12 ev_kind, aI K (q 16) 12 ev_need, aZ K (q 17) 12 ev_on, oX2 q u.2.2.2.1, aI K (q 19) 25 ca_far, aI K (q 20) 100 u.1, aI K (q 21) 12 u.2.1, aI K (q 22) 12 u.2.2.1, aI K (q 23) 204 u.2.2.2.2.1, aI K (q 24) 204 u.2.2.2.2.2.1, aI K (q 25) 17 u.2.2.2.2.2.2.1, aI K (q 26) 12 u.2.2.2.2.2.2.2.1, aI K (q 27) 17 u.2.2.2.2.2.2.2.2.1, aI K (q 28) 12 u.2.2.2.2.2.2.2.2.2.1, aI K (q 29) 17 u.2.2.2.2.2.2.2.2.2.2.1, aI K (q 30) 12 u.2.2.2.2.2.2.2.2.2.2.2]) (va_A [oX10 q, oX4 q kd_size, oX8 q, aI K (q 5) 30 st_booked, oX3 q ev_size, aI K (q 13) 12 ev_day, aI K (q 14) 12 ev_house, aI K (q 15) 12 ev_kind, aI K (q 16) 12 ev_need, aZ K (q 17) 12 ev_on, oX2 q ca_size, aI K (q 19) 25 ca_far, aI K (q 20) 100 ca_farInGoes, aI K (q 21) 12 ca_served, aI K (q 22) 12 ca_rank, aI K (q 23) 204 ca_price, aI K (q 24) 204 ca_sent, aI K (q 25) 17 ca_spare, aI K (q 26) 12 ca_unmet, aI K (q 27) 17 ca_wayToSource, aI K (q 28) 12 ca_wayToEvent, aI K (q 29) 17 ca_aheadOfSource, aI K (q 30) 12 ca_aheadOfEvent] sz)) 0 0 (va_A [oX10 q, oX4 q kd_size, oX8 q, aI K (q 5) 30 st_booked, oX3 q ev_size, aI K (q 13) 12 ev_day, aI K (q 14) 12 ev_house, aI K (q 15) 12 ev_kind, aI K (q 16) 12 ev_need, aZ K (q 17) 12 ev_on, oX2 q ca_size, aI K (q 19) 25 ca_far, aI K (q 20) 100 ca_farInGoes, aI K (q 21) 12 ca_served, aI K (q 22) 12 ca_rank, aI K (q 23) 204 ca_price, aI K (q 24) 204 ca_sent, aI K (q 25) 17 ca_spare, aI K (q 26) 12 ca_unmet, aI K (q 27) 17 ca_wayToSource, aI K (q 28) 12 ca_wayToEvent, aI K (q 29) 17 ca_aheadOfSource, aI K (q 30) 12 ca_aheadOfEvent] sz) := by
  refine hMet (fun A => va_Qi (fun (r : Int32) (u : (Nat → Int32) × (Nat → Int32) × (Nat → Int32) × Int32 × (Nat → Int32) × (Nat → Int32) × (Nat → Int32) × (Nat → Int32) × (Nat → Int32) × (Nat → Int32) × (Nat → Int32) × (Nat → Int32)) => post r u.1 u.2.1 u.2.2.1 u.2.2.2.1 u.2.2.2.2.1 u.2.2.2.2.2.1 u.2.2.2.2.2.2.1 u.2.2.2.2.2.2.2.1 u.2.2.2.2.2.2.2.2.1 u.2.2.2.2.2.2.2.2.2.1 u.2.2.2.2.2.2.2.2.2.2.1 u.2.2.2.2.2.2.2.2.2.2.2) (fun u => hB G K A [oX10 q, oX4 q kd_size, oX8 q, aI K (q 5) 30 st_booked, oX3 q ev_size, aI K (q 13) 12 ev_day, aI K (q 14) 12 ev_house, aI K (q 15) 12 ev_kind, aI K (q 16) 12 ev_need, aZ K (q 17) 12 ev_on, oX2 q u.2.2.2.1, aI K (q 19) 25 ca_far, aI K (q 20) 100 u.1, aI K (q 21) 12 u.2.1, aI K (q 22) 12 u.2.2.1, aI K (q 23) 204 u.2.2.2.2.1, aI K (q 24) 204 u.2.2.2.2.2.1, aI K (q 25) 17 u.2.2.2.2.2.2.1, aI K (q 26) 12 u.2.2.2.2.2.2.2.1, aI K (q 27) 17 u.2.2.2.2.2.2.2.2.1, aI K (q 28) 12 u.2.2.2.2.2.2.2.2.2.1, aI K (q 29) 17 u.2.2.2.2.2.2.2.2.2.2.1, aI K (q 30) 12 u.2.2.2.2.2.2.2.2.2.2.2]) A) (by decide) rfl (Nat.le_of_ble_eq_true rfl) ?_
  intro p e s m av below meth c A Q ls hx hb hr hml hts hown hlocks hnm hA hP hK hD hS hE hQ hl
  have hts : ∀ w ∈ wsX10_carried, w.before av s = true := hts
  have hown : s.vm.findClass RX10 = some m.cls := hown
  have hl : lv_has ls 2 [(0, .ref (q 0)), (1, .int p1)] := hl
  unfold P_X10_carried at hw
  refine lv_aload_n (pc := 0) hx hb dX10_carried_0 rfl (lv_at hl 0 rfl) ?_
  refine va_get (pc := 1) (D := G) (ci := 10) (v := .ref (q 1)) (C := RX10) (T := TX10) (N := 10) hx hb hts iw_X10_carried_X10 hown hK hP 0 rfl rfl 0 (by decide) (hts _ (List.mem_of_getElem? (i := 1) rfl)) (fun _ h9 => h9) rfl dX10_carried_1 ?_
  refine lv_iload_n (pc := 4) hx hb dX10_carried_4 rfl (lv_at hl 1 rfl) ?_
  refine hCallI (pc := 5) (wr := [oX10 q, oX8 q, aI K (q 5) 30 st_booked, oX3 q ev_size, aI K (q 13) 12 ev_day, aI K (q 14) 12 ev_house, aI K (q 15) 12 ev_kind, aI K (q 16) 12 ev_need, aZ K (q 17) 12 ev_on, oX2 q ca_size, aI K (q 19) 25 ca_far, aI K (q 20) 100 ca_farInGoes, aI K (q 21) 12 ca_served, aI K (q 22) 12 ca_rank, aI K (q 23) 204 ca_price, aI K (q 24) 204 ca_sent, aI K (q 25) 17 ca_spare, aI K (q 26) 12 ca_unmet, aI K (q 27) 17 ca_wayToSource, aI K (q 28) 12 ca_wayToEvent, aI K (q 29) 17 ca_aheadOfSource, aI K (q 30) 12 ca_aheadOfEvent]) (wsf := fun (u : Unit) => [oX4 q kd_size]) [1] [0, 2, 3, 4, 5, 6, 7, 8, 9, 10, 11, 12, 13, 14, 15, 16, 17, 18, 19, 20, 21, 22] (va_runVN (As := [.int p1]) (rest := []) ⟨hx, hb, hml, hown, hts⟩ (c_X4_has l G K tb q s.heap.size _ p1 kd_size hw) ⟨va_cnB 1 hts gX10_carried_X4_has_n159 rfl rfl rfl (hE.nw 29 rfl) (hts _ (List.mem_of_getElem? (i := 6) rfl)) (by decide +kernel) ⟨Nat.le_of_ble_eq_true rfl, Nat.le_of_ble_eq_true rfl⟩, (hts _ (List.mem_of_getElem? (i := 5) rfl)), (hts _ (List.mem_of_getElem? (i := 7) rfl))⟩ (hPreV hE hP hK hD hS hA [1] (by decide) rfl rfl rfl rfl (q0 := 1) (ci := 4) rfl) rfl rfl hl.1 rfl (lv_room (Nat.le_of_ble_eq_true rfl)) dX10_carried_5 ⟨Nat.zero_le _, Nat.zero_le _⟩) hP hD hS hA rfl rfl (by decide) (by decide) (fun r_1 u H locs hw hP hD hS => ?_)
  have hP : va_P G vwCl [oX10 q, oX4 q kd_size, oX8 q, aI K (q 5) 30 st_booked, oX3 q ev_size, aI K (q 13) 12 ev_day, aI K (q 14) 12 ev_house, aI K (q 15) 12 ev_kind, aI K (q 16) 12 ev_need, aZ K (q 17) 12 ev_on, oX2 q ca_size, aI K (q 19) 25 ca_far, aI K (q 20) 100 ca_farInGoes, aI K (q 21) 12 ca_served, aI K (q 22) 12 ca_rank, aI K (q 23) 204 ca_price, aI K (q 24) 204 ca_sent, aI K (q 25) 17 ca_spare, aI K (q 26) 12 ca_unmet, aI K (q 27) 17 ca_wayToSource, aI K (q 28) 12 ca_wayToEvent, aI K (q 29) 17 ca_aheadOfSource, aI K (q 30) 12 ca_aheadOfEvent] H := hP.sub [0, 22, 1, 2, 3, 4, 5, 6, 7, 8, 9, 10, 11, 12, 13, 14, 15, 16, 17, 18, 19, 20, 21] rfl
  have hD : va_D A [oX10 q, oX4 q kd_size, oX8 q, aI K (q 5) 30 st_booked, oX3 q ev_size, aI K (q 13) 12 ev_day, aI K (q 14) 12 ev_house, aI K (q 15) 12 ev_kind, aI K (q 16) 12 ev_need, aZ K (q 17) 12 ev_on, oX2 q ca_size, aI K (q 19) 25 ca_far, aI K (q 20) 100 ca_farInGoes, aI K (q 21) 12 ca_served, aI K (q 22) 12 ca_rank, aI K (q 23) 204 ca_price, aI K (q 24) 204 ca_sent, aI K (q 25) 17 ca_spare, aI K (q 26) 12 ca_unmet, aI K (q 27) 17 ca_wayToSource, aI K (q 28) 12 ca_wayToEvent, aI K (q 29) 17 ca_aheadOfSource, aI K (q 30) 12 ca_aheadOfEvent] := hD.sub [0, 22, 1, 2, 3, 4, 5, 6, 7, 8, 9, 10, 11, 12, 13, 14, 15, 16, 17, 18, 19, 20, 21] (by decide) rfl
  refine lv_if_eq (pc := 8) (tgt := 32) hx hb dX10_carried_8 (by decide) (fun c_2 => ?_) (fun c_2 => ?_)
  · replace hw := hw.1 c_2
    refine lv_iconst (pc := 32) (v := (-1 : Int32)) hx hb dX10_carried_32 (by decide) ?_
    exact hRetI (S := (Nat → Int32) × (Nat → Int32) × (Nat → Int32) × Int32 × (Nat → Int32) × (Nat → Int32) × (Nat → Int32) × (Nat → Int32) × (Nat → Int32) × (Nat → Int32) × (Nat → Int32) × (Nat → Int32)) (ca_farInGoes, ca_served, ca_rank, ca_size, ca_price, ca_sent, ca_spare, ca_unmet, ca_wayToSource, ca_wayToEvent, ca_aheadOfSource, ca_aheadOfEvent) hx hb hr hlocks hQ hw hP hK hD hS dX10_carried_33
  · replace hw := hw.2 c_2
    refine lv_aload_n (pc := 11) hx hb dX10_carried_11 rfl (lv_at hl 0 rfl) ?_
    refine va_get (pc := 12) (D := G) (ci := 10) (v := .ref (q 18)) (C := RX10) (T := TX10) (N := 10) hx hb hts iw_X10_carried_X10 hown hK hP 0 rfl rfl 4 (by decide) (hts _ (List.mem_of_getElem? (i := 2) rfl)) (fun _ h9 => h9) rfl dX10_carried_12 ?_
    refine lv_aload_n (pc := 15) hx hb dX10_carried_15 rfl (lv_at hl 0 rfl) ?_
    refine va_get (pc := 16) (D := G) (ci := 10) (v := .ref (q 12)) (C := RX10) (T := TX10) (N := 10) hx hb hts iw_X10_carried_X10 hown hK hP 0 rfl rfl 3 (by decide) (hts _ (List.mem_of_getElem? (i := 3) rfl)) (fun _ h9 => h9) rfl dX10_carried_16 ?_
    refine lv_aload_n (pc := 19) hx hb dX10_carried_19 rfl (lv_at hl 0 rfl) ?_
    refine va_get (pc := 20) (D := G) (ci := 10) (v := .ref (q 4)) (C := RX10) (T := TX10) (N := 10) hx hb hts iw_X10_carried_X10 hown hK hP 0 rfl rfl 1 (by decide) (hts _ (List.mem_of_getElem? (i := 4) rfl)) (fun _ h9 => h9) rfl dX10_carried_20 ?_
    refine lv_iload_n (pc := 23) hx hb dX10_carried_23 rfl (lv_at hl 1 rfl) ?_
    refine lv_bipush (pc := 24) (v := (-9 : Int32)) hx hb dX10_carried_24 (by decide) ?_
    refine hCallI (pc := 26) (wr := [oX10 q, oX4 q kd_size]) (wsf := fun (u : (Nat → Int32) × (Nat → Int32) × (Nat → Int32) × Int32 × (Nat → Int32) × (Nat → Int32) × (Nat → Int32) × (Nat → Int32) × (Nat → Int32) × (Nat → Int32) × (Nat → Int32) × (Nat → Int32)) => [oX8 q, aI K (q 5) 30 st_booked, oX3 q ev_size, aI K (q 13) 12 ev_day, aI K (q 14) 12 ev_house, aI K (q 15) 12 ev_kind, aI K (q 16) 12 ev_need, aZ K (q 17) 12 ev_on, oX2 q u.2.2.2.1, aI K (q 19) 25 ca_far, aI K (q 20) 100 u.1, aI K (q 21) 12 u.2.1, aI K (q 22) 12 u.2.2.1, aI K (q 23) 204 u.2.2.2.2.1, aI K (q 24) 204 u.2.2.2.2.2.1, aI K (q 25) 17 u.2.2.2.2.2.2.1, aI K (q 26) 12 u.2.2.2.2.2.2.2.1, aI K (q 27) 17 u.2.2.2.2.2.2.2.2.1, aI K (q 28) 12 u.2.2.2.2.2.2.2.2.2.1, aI K (q 29) 17 u.2.2.2.2.2.2.2.2.2.2.1, aI K (q 30) 12 u.2.2.2.2.2.2.2.2.2.2.2]) [2, 3, 4, 5, 6, 7, 8, 9, 10, 11, 12, 13, 14, 15, 16, 17, 18, 19, 20, 21, 22] [0, 1] (va_runVN (As := [.ref (q 12), .ref (q 4), .int p1, .int (-9 : Int32)]) (rest := []) ⟨hx, hb, hml, hown, hts⟩ (c_X2_leastFor l G K tb q H.size _ p1 (-9 : Int32) st_booked ev_day ev_house ev_kind ev_need ev_on ev_size ca_far ca_farInGoes ca_served ca_rank ca_size ca_price ca_sent ca_spare ca_unmet ca_wayToSource ca_wayToEvent ca_aheadOfSource ca_aheadOfEvent hw) ⟨va_cnB 4 hts gX10_carried_X2_leastFor_n160 rfl rfl rfl (hE.nw 47 rfl) (hts _ (List.mem_of_getElem? (i := 14) rfl)) (by decide +kernel) ⟨Nat.le_of_ble_eq_true rfl, Nat.le_of_ble_eq_true rfl⟩, (hts _ (List.mem_of_getElem? (i := 13) rfl)), (hts _ (List.mem_of_getElem? (i := 15) rfl))⟩ (hPreV hE hP hK hD hS hA [2, 3, 4, 5, 6, 7, 8, 9, 10, 11, 12, 13, 14, 15, 16, 17, 18, 19, 20, 21, 22] (by decide) rfl rfl rfl rfl (q0 := 10) (ci := 2) rfl) rfl rfl hl.1 rfl (lv_room (Nat.le_of_ble_eq_true rfl)) dX10_carried_26 ⟨Nat.zero_le _, Nat.zero_le _⟩) hP hD hS hA rfl rfl (by decide) (by decide) (fun r_3 u H locs hw hP hD hS => ?_)
    obtain ⟨ca_farInGoes_4, ca_served_5, ca_rank_6, ca_size_7, ca_price_8, ca_sent_9, ca_spare_10, ca_unmet_11, ca_wayToSource_12, ca_wayToEvent_13, ca_aheadOfSource_14, ca_aheadOfEvent_15⟩ := u
    have hP : va_P G vwCl [oX10 q, oX4 q kd_size, oX8 q, aI K (q 5) 30 st_booked, oX3 q ev_size, aI K (q 13) 12 ev_day, aI K (q 14) 12 ev_house, aI K (q 15) 12 ev_kind, aI K (q 16) 12 ev_need, aZ K (q 17) 12 ev_on, oX2 q ca_size_7, aI K (q 19) 25 ca_far, aI K (q 20) 100 ca_farInGoes_4, aI K (q 21) 12 ca_served_5, aI K (q 22) 12 ca_rank_6, aI K (q 23) 204 ca_price_8, aI K (q 24) 204 ca_sent_9, aI K (q 25) 17 ca_spare_10, aI K (q 26) 12 ca_unmet_11, aI K (q 27) 17 ca_wayToSource_12, aI K (q 28) 12 ca_wayToEvent_13, aI K (q 29) 17 ca_aheadOfSource_14, aI K (q 30) 12 ca_aheadOfEvent_15] H := hP.sub [0, 1, 2, 3, 4, 5, 6, 7, 8, 9, 10, 11, 12, 13, 14, 15, 16, 17, 18, 19, 20, 21, 22] rfl
    have hD : va_D A [oX10 q, oX4 q kd_size, oX8 q, aI K (q 5) 30 st_booked, oX3 q ev_size, aI K (q 13) 12 ev_day, aI K (q 14) 12 ev_house, aI K (q 15) 12 ev_kind, aI K (q 16) 12 ev_need, aZ K (q 17) 12 ev_on, oX2 q ca_size_7, aI K (q 19) 25 ca_far, aI K (q 20) 100 ca_farInGoes_4, aI K (q 21) 12 ca_served_5, aI K (q 22) 12 ca_rank_6, aI K (q 23) 204 ca_price_8, aI K (q 24) 204 ca_sent_9, aI K (q 25) 17 ca_spare_10, aI K (q 26) 12 ca_unmet_11, aI K (q 27) 17 ca_wayToSource_12, aI K (q 28) 12 ca_wayToEvent_13, aI K (q 29) 17 ca_aheadOfSource_14, aI K (q 30) 12 ca_aheadOfEvent_15] := hD.sub [0, 1, 2, 3, 4, 5, 6, 7, 8, 9, 10, 11, 12, 13, 14, 15, 16, 17, 18, 19, 20, 21, 22] (by decide) rfl
    refine lv_goto (pc := 29) (tgt := 33) hx hb dX10_carried_29 (by decide) ?_
    exact hRetI (S := (Nat → Int32) × (Nat → Int32) × (Nat → Int32) × Int32 × (Nat → Int32) × (Nat → Int32) × (Nat → Int32) × (Nat → Int32) × (Nat → Int32) × (Nat → Int32) × (Nat → Int32) × (Nat → Int32)) (ca_farInGoes_4, ca_served_5, ca_rank_6, ca_size_7, ca_price_8, ca_sent_9, ca_spare_10, ca_unmet_11, ca_wayToSource_12, ca_wayToEvent_13, ca_aheadOfSource_14, ca_aheadOfEvent_15) hx hb hr hlocks hQ hw hP hK hD hS dX10_carried_33
def P_X10_isPiece (post : Int32 → Prop) (p1 : Int32) (mk_pieces : Int32) : Prop :=
  P_X10_within (fun r_1 => (r_1 = 0 ∨ r_1 = 1) ∧ post r_1) p1 (0 : Int32) (mk_pieces - (1 : Int32))
abbrev rm_X10_isPiece : Room := { frames := 1, cells := 0, slots := 0, locals := 22 }
theorem iw_X10_isPiece_X10 : ∀ w ∈ wsX100, w ∈ wsX10_isPiece := by decide +kernel
theorem iw_X10_isPiece_X5 : ∀ w ∈ wsX50, w ∈ wsX10_isPiece := by decide +kernel
set_option maxHeartbeats 4000000 in
set_option maxRecDepth 100000 in
theorem c_X10_isPiece (l : Launch) (G : va_G) (K : ClassId × ClassId × ClassId) (tb q : Nat → Nat) (sz : Nat) (mk_finds : Int32) (post : Int32 → Prop) (p1 : Int32) (mk_pieces : Int32) (hw : P_X10_isPiece post p1 mk_pieces) : Met l yX10_isPiece wsX10_isPiece rm_X10_isPiece (va_Pc [.ref (q 0), .int p1] (hPre G K tb [oX10 q, oX5 q mk_pieces mk_finds] sz)) (va_Qi (fun (r : Int32) (u : Unit) => post r) (fun u => hB G K (va_A [oX10 q, oX5 q mk_pieces mk_finds] sz) [oX10 q, oX5 q mk_pieces mk_finds]) (va_A [oX10 q, oX5 q mk_pieces mk_finds] sz)) 0 0 (va_A [oX10 q, oX5 q mk_pieces mk_finds] sz) := by
  refine hMet (fun A => va_Qi (fun (r : Int32) (u : Unit) => post r) (fun u => hB G K A [oX10 q, oX5 q mk_pieces mk_finds]) A) (by decide) rfl (Nat.le_of_ble_eq_true rfl) ?_
  intro p e s m av below meth c A Q ls hx hb hr hml hts hown hlocks hnm hA hP hK hD hS hE hQ hl
  have hts : ∀ w ∈ wsX10_isPiece, w.before av s = true := hts
  have hown : s.vm.findClass RX10 = some m.cls := hown
  have hl : lv_has ls 2 [(0, .ref (q 0)), (1, .int p1)] := hl
  unfold P_X10_isPiece at hw
  refine lv_iload_n (pc := 0) hx hb dX10_isPiece_0 rfl (lv_at hl 1 rfl) ?_
  refine lv_iconst (pc := 1) (v := (0 : Int32)) hx hb dX10_isPiece_1 (by decide) ?_
  refine lv_aload_n (pc := 2) hx hb dX10_isPiece_2 rfl (lv_at hl 0 rfl) ?_
  refine va_get (pc := 3) (D := G) (ci := 10) (v := .ref (q 35)) (C := RX10) (T := TX10) (N := 10) hx hb hts iw_X10_isPiece_X10 hown hK hP 0 rfl rfl 6 (by decide) (hts _ (List.mem_of_getElem? (i := 1) rfl)) (fun _ h9 => h9) rfl dX10_isPiece_3 ?_
  refine va_getN (pc := 6) (D := G) (host := RX10) (ci := 5) (v := .int mk_pieces) (C := RX5) (T := TX5) (N := 4) hx hb hts iw_X10_isPiece_X5 hown hK hP 1 rfl rfl 2 (by decide) (hE.use 21 rfl) (fun _ h9 => h9) rfl dX10_isPiece_6 ?_
  refine lv_iconst (pc := 9) (v := (1 : Int32)) hx hb dX10_isPiece_9 (by decide) ?_
  refine lv_isub (pc := 10) hx hb dX10_isPiece_10 ?_
  refine hCallI (pc := 11) (wr := [oX10 q, oX5 q mk_pieces mk_finds]) (wsf := fun (u : Unit) => []) [] [0, 1] (va_runS (As := [.int p1, .int (0 : Int32), .int (mk_pieces - (1 : Int32))]) (rest := []) ⟨hx, hb, hml, hown, hts⟩ (c_X10_within l G K tb q s.heap.size _ p1 (0 : Int32) (mk_pieces - (1 : Int32)) hw) (va_cwS 3 hts gX10_isPiece_X10_within rfl rfl rfl (by decide +kernel) ⟨Nat.le_of_ble_eq_true rfl, Nat.le_of_ble_eq_true rfl⟩) (hPreS hE hP hK hD hS hA [] (by decide) rfl rfl) rfl rfl hl.1 rfl (lv_room (Nat.le_of_ble_eq_true rfl)) dX10_isPiece_11 ⟨Nat.zero_le _, Nat.zero_le _⟩) hP hD hS hA rfl rfl (by decide) (by decide) (fun r_1 u H locs hw hP hD hS => ?_)
  have hP : va_P G vwCl [oX10 q, oX5 q mk_pieces mk_finds] H := hP.sub [0, 1] rfl
  have hD : va_D A [oX10 q, oX5 q mk_pieces mk_finds] := hD.sub [0, 1] (by decide) rfl
  obtain ⟨h_2, hw⟩ := hw
  exact hRetZ (S := Unit) () hx hb hr hlocks hQ h_2 hw hP hK hD hS dX10_isPiece_14
def P_X10_certain (post : Int32 → (Nat → Int64) → (Nat → Int64) → Prop) (p1 : Int32) (mk_sign : Nat → Int32) (mk_weight : Nat → Int32) (mk_pieces : Int32) (mk_finds : Int32) (pr_best : Nat → Int64) (pr_gain : Nat → Int64) : Prop :=
  P_X10_isPiece (fun r_1 => ((r_1 = (0 : Int32) → post (-1 : Int32) pr_best pr_gain) ∧ (¬ r_1 = (0 : Int32) → P_X6_choicesOf (fun r_3 pr_best_4 pr_gain_5 => ∀ v_7 : Int32, v_7 = (if r_3 = (1 : Int32) then (1 : Int32) else (0 : Int32)) → post v_7 pr_best_4 pr_gain_5) p1 mk_sign mk_weight mk_pieces mk_finds pr_best pr_gain))) p1 mk_pieces
abbrev rm_X10_certain : Room := { frames := 5, cells := 0, slots := 0, locals := 127 }
theorem iw_X10_certain_X10 : ∀ w ∈ wsX100, w ∈ wsX10_certain := by decide +kernel
set_option maxHeartbeats 4000000 in
set_option maxRecDepth 100000 in
theorem c_X10_certain (l : Launch) (G : va_G) (K : ClassId × ClassId × ClassId) (tb q : Nat → Nat) (sz : Nat) (post : Int32 → (Nat → Int64) → (Nat → Int64) → Prop) (p1 : Int32) (mk_sign : Nat → Int32) (mk_weight : Nat → Int32) (mk_pieces : Int32) (mk_finds : Int32) (pr_best : Nat → Int64) (pr_gain : Nat → Int64) (hw : P_X10_certain post p1 mk_sign mk_weight mk_pieces mk_finds pr_best pr_gain) : Met l yX10_certain wsX10_certain rm_X10_certain (va_Pc [.ref (q 0), .int p1] (hPre G K tb [oX10 q, oX5 q mk_pieces mk_finds, aI K (q 36) 48 mk_sign, aI K (q 37) 16 mk_weight, oX6 q, aJ K (q 39) 256 pr_best, aJ K (q 40) 8 pr_gain] sz)) (va_Qi (fun (r : Int32) (u : (Nat → Int64) × (Nat → Int64)) => post r u.1 u.2) (fun u => hB G K (va_A [oX10 q, oX5 q mk_pieces mk_finds, aI K (q 36) 48 mk_sign, aI K (q 37) 16 mk_weight, oX6 q, aJ K (q 39) 256 pr_best, aJ K (q 40) 8 pr_gain] sz) [oX10 q, oX5 q mk_pieces mk_finds, aI K (q 36) 48 mk_sign, aI K (q 37) 16 mk_weight, oX6 q, aJ K (q 39) 256 u.1, aJ K (q 40) 8 u.2]) (va_A [oX10 q, oX5 q mk_pieces mk_finds, aI K (q 36) 48 mk_sign, aI K (q 37) 16 mk_weight, oX6 q, aJ K (q 39) 256 pr_best, aJ K (q 40) 8 pr_gain] sz)) 0 0 (va_A [oX10 q, oX5 q mk_pieces mk_finds, aI K (q 36) 48 mk_sign, aI K (q 37) 16 mk_weight, oX6 q, aJ K (q 39) 256 pr_best, aJ K (q 40) 8 pr_gain] sz) := by
  refine hMet (fun A => va_Qi (fun (r : Int32) (u : (Nat → Int64) × (Nat → Int64)) => post r u.1 u.2) (fun u => hB G K A [oX10 q, oX5 q mk_pieces mk_finds, aI K (q 36) 48 mk_sign, aI K (q 37) 16 mk_weight, oX6 q, aJ K (q 39) 256 u.1, aJ K (q 40) 8 u.2]) A) (by decide) rfl (Nat.le_of_ble_eq_true rfl) ?_
  intro p e s m av below meth c A Q ls hx hb hr hml hts hown hlocks hnm hA hP hK hD hS hE hQ hl
  have hts : ∀ w ∈ wsX10_certain, w.before av s = true := hts
  have hown : s.vm.findClass RX10 = some m.cls := hown
  have hl : lv_has ls 2 [(0, .ref (q 0)), (1, .int p1)] := hl
  unfold P_X10_certain at hw
  refine lv_aload_n (pc := 0) hx hb dX10_certain_0 rfl (lv_at hl 0 rfl) ?_
  refine lv_iload_n (pc := 1) hx hb dX10_certain_1 rfl (lv_at hl 1 rfl) ?_
  refine hCallI (pc := 2) (wr := [aI K (q 36) 48 mk_sign, aI K (q 37) 16 mk_weight, oX6 q, aJ K (q 39) 256 pr_best, aJ K (q 40) 8 pr_gain]) (wsf := fun (u : Unit) => [oX10 q, oX5 q mk_pieces mk_finds]) [0, 1] [2, 3, 4, 5, 6] (va_runV (As := [.int p1]) (rest := []) ⟨hx, hb, hml, hown, hts⟩ (c_X10_isPiece l G K tb q s.heap.size mk_finds _ p1 mk_pieces hw) (cwV 1 hts gX10_certain_X10_isPiece rfl rfl rfl (by decide +kernel) ⟨Nat.le_of_ble_eq_true rfl, Nat.le_of_ble_eq_true rfl⟩) (hPreV hE hP hK hD hS hA [0, 1] (by decide) rfl rfl rfl rfl (q0 := 0) (ci := 10) rfl) rfl rfl hl.1 rfl (lv_room (Nat.le_of_ble_eq_true rfl)) dX10_certain_2 ⟨Nat.zero_le _, Nat.zero_le _⟩) hP hD hS hA rfl rfl (by decide) (by decide) (fun r_1 u H locs hw hP hD hS => ?_)
  have hP : va_P G vwCl [oX10 q, oX5 q mk_pieces mk_finds, aI K (q 36) 48 mk_sign, aI K (q 37) 16 mk_weight, oX6 q, aJ K (q 39) 256 pr_best, aJ K (q 40) 8 pr_gain] H := hP.sub [5, 6, 0, 1, 2, 3, 4] rfl
  have hD : va_D A [oX10 q, oX5 q mk_pieces mk_finds, aI K (q 36) 48 mk_sign, aI K (q 37) 16 mk_weight, oX6 q, aJ K (q 39) 256 pr_best, aJ K (q 40) 8 pr_gain] := hD.sub [5, 6, 0, 1, 2, 3, 4] (by decide) rfl
  refine lv_if_ne (pc := 5) (tgt := 10) hx hb dX10_certain_5 (by decide) (fun c_2 => ?_) (fun c_2 => ?_)
  · replace hw := hw.2 c_2
    refine lv_aload_n (pc := 10) hx hb dX10_certain_10 rfl (lv_at hl 0 rfl) ?_
    refine va_get (pc := 11) (D := G) (ci := 10) (v := .ref (q 38)) (C := RX10) (T := TX10) (N := 10) hx hb hts iw_X10_certain_X10 hown hK hP 0 rfl rfl 7 (by decide) (hts _ (List.mem_of_getElem? (i := 1) rfl)) (fun _ h9 => h9) rfl dX10_certain_11 ?_
    refine lv_aload_n (pc := 14) hx hb dX10_certain_14 rfl (lv_at hl 0 rfl) ?_
    refine va_get (pc := 15) (D := G) (ci := 10) (v := .ref (q 35)) (C := RX10) (T := TX10) (N := 10) hx hb hts iw_X10_certain_X10 hown hK hP 0 rfl rfl 6 (by decide) (hts _ (List.mem_of_getElem? (i := 2) rfl)) (fun _ h9 => h9) rfl dX10_certain_15 ?_
    refine lv_iload_n (pc := 18) hx hb dX10_certain_18 rfl (lv_at hl 1 rfl) ?_
    refine hCallI (pc := 19) (wr := [oX10 q]) (wsf := fun (u : (Nat → Int64) × (Nat → Int64)) => [oX5 q mk_pieces mk_finds, aI K (q 36) 48 mk_sign, aI K (q 37) 16 mk_weight, oX6 q, aJ K (q 39) 256 u.1, aJ K (q 40) 8 u.2]) [1, 2, 3, 4, 5, 6] [0] (va_runVN (As := [.ref (q 35), .int p1]) (rest := []) ⟨hx, hb, hml, hown, hts⟩ (c_X6_choicesOf l G K tb q H.size _ p1 mk_sign mk_weight mk_pieces mk_finds pr_best pr_gain hw) ⟨va_cnB 2 hts gX10_certain_X6_choicesOf_n244 rfl rfl rfl (hE.nw 67 rfl) (hts _ (List.mem_of_getElem? (i := 12) rfl)) (by decide +kernel) ⟨Nat.le_of_ble_eq_true rfl, Nat.le_of_ble_eq_true rfl⟩, (hts _ (List.mem_of_getElem? (i := 11) rfl)), (hts _ (List.mem_of_getElem? (i := 13) rfl))⟩ (hPreV hE hP hK hD hS hA [1, 2, 3, 4, 5, 6] (by decide) rfl rfl rfl rfl (q0 := 4) (ci := 6) rfl) rfl rfl hl.1 rfl (lv_room (Nat.le_of_ble_eq_true rfl)) dX10_certain_19 ⟨Nat.zero_le _, Nat.zero_le _⟩) hP hD hS hA rfl rfl (by decide) (by decide) (fun r_3 u H locs hw hP hD hS => ?_)
    obtain ⟨pr_best_4, pr_gain_5⟩ := u
    have hP : va_P G vwCl [oX10 q, oX5 q mk_pieces mk_finds, aI K (q 36) 48 mk_sign, aI K (q 37) 16 mk_weight, oX6 q, aJ K (q 39) 256 pr_best_4, aJ K (q 40) 8 pr_gain_5] H := hP.sub [0, 1, 2, 3, 4, 5, 6] rfl
    have hD : va_D A [oX10 q, oX5 q mk_pieces mk_finds, aI K (q 36) 48 mk_sign, aI K (q 37) 16 mk_weight, oX6 q, aJ K (q 39) 256 pr_best_4, aJ K (q 40) 8 pr_gain_5] := hD.sub [0, 1, 2, 3, 4, 5, 6] (by decide) rfl
    refine lv_iconst (pc := 22) (v := (1 : Int32)) hx hb dX10_certain_22 (by decide) ?_
    have K_v_7 : ∀ v_7 : Int32, v_7 = (if r_3 = (1 : Int32) then (1 : Int32) else (0 : Int32)) → W p l e rm_X10_certain s m av below meth c H locs 0 0 Q (F0 m 31 ls [.int v_7]) := by
      intro v_7 ev_7
      replace hw := hw v_7 ev_7
      exact hRetI (S := (Nat → Int64) × (Nat → Int64)) (pr_best_4, pr_gain_5) hx hb hr hlocks hQ hw hP hK hD hS dX10_certain_31
    refine lv_icmp_ne (pc := 23) (tgt := 30) hx hb dX10_certain_23 (by decide) (fun c_6 => ?_) (fun c_6 => ?_)
    · skip
      refine lv_iconst (pc := 30) (v := (0 : Int32)) hx hb dX10_certain_30 (by decide) ?_
      exact K_v_7 _ (by rw [if_neg c_6])
    · skip
      refine lv_iconst (pc := 26) (v := (1 : Int32)) hx hb dX10_certain_26 (by decide) ?_
      refine lv_goto (pc := 27) (tgt := 31) hx hb dX10_certain_27 (by decide) ?_
      exact K_v_7 _ (by rw [if_pos c_6])
  · replace hw := hw.1 c_2
    refine lv_iconst (pc := 8) (v := (-1 : Int32)) hx hb dX10_certain_8 (by decide) ?_
    exact hRetI (S := (Nat → Int64) × (Nat → Int64)) (pr_best, pr_gain) hx hb hr hlocks hQ hw hP hK hD hS dX10_certain_9
def P_X10_clear (post : Int32 → Int32 → Int32 → Prop) (mk_pieces : Int32) (mk_finds : Int32) : Prop :=
  P_X5_takeAway (fun r_1 mk_pieces_2 mk_finds_3 => post r_1 mk_pieces_2 mk_finds_3) mk_pieces mk_finds
abbrev rm_X10_clear : Room := { frames := 1, cells := 0, slots := 0, locals := 21 }
theorem iw_X10_clear_X10 : ∀ w ∈ wsX100, w ∈ wsX10_clear := by decide +kernel
set_option maxHeartbeats 4000000 in
set_option maxRecDepth 100000 in
theorem c_X10_clear (l : Launch) (G : va_G) (K : ClassId × ClassId × ClassId) (tb q : Nat → Nat) (sz : Nat) (post : Int32 → Int32 → Int32 → Prop) (mk_pieces : Int32) (mk_finds : Int32) (hw : P_X10_clear post mk_pieces mk_finds) : Met l yX10_clear wsX10_clear rm_X10_clear (va_Pc [.ref (q 0)] (hPre G K tb [oX10 q, oX5 q mk_pieces mk_finds] sz)) (va_Qi (fun (r : Int32) (u : Int32 × Int32) => post r u.1 u.2) (fun u => hB G K (va_A [oX10 q, oX5 q mk_pieces mk_finds] sz) [oX10 q, oX5 q u.1 u.2]) (va_A [oX10 q, oX5 q mk_pieces mk_finds] sz)) 0 0 (va_A [oX10 q, oX5 q mk_pieces mk_finds] sz) := by
  refine hMet (fun A => va_Qi (fun (r : Int32) (u : Int32 × Int32) => post r u.1 u.2) (fun u => hB G K A [oX10 q, oX5 q u.1 u.2]) A) (by decide) rfl (Nat.le_of_ble_eq_true rfl) ?_
  intro p e s m av below meth c A Q ls hx hb hr hml hts hown hlocks hnm hA hP hK hD hS hE hQ hl
  have hts : ∀ w ∈ wsX10_clear, w.before av s = true := hts
  have hown : s.vm.findClass RX10 = some m.cls := hown
  have hl : lv_has ls 1 [(0, .ref (q 0))] := hl
  unfold P_X10_clear at hw
  refine lv_aload_n (pc := 0) hx hb dX10_clear_0 rfl (lv_at hl 0 rfl) ?_
  refine va_get (pc := 1) (D := G) (ci := 10) (v := .ref (q 35)) (C := RX10) (T := TX10) (N := 10) hx hb hts iw_X10_clear_X10 hown hK hP 0 rfl rfl 6 (by decide) (hts _ (List.mem_of_getElem? (i := 1) rfl)) (fun _ h9 => h9) rfl dX10_clear_1 ?_
  refine hCallI (pc := 4) (wr := [oX10 q]) (wsf := fun (u : Int32 × Int32) => [oX5 q u.1 u.2]) [1] [0] (va_runVN (As := []) (rest := []) ⟨hx, hb, hml, hown, hts⟩ (c_X5_takeAway l G K tb q s.heap.size _ mk_pieces mk_finds hw) ⟨va_cnB 0 hts gX10_clear_X5_takeAway_n223 rfl rfl rfl (hE.nw 61 rfl) (hts _ (List.mem_of_getElem? (i := 3) rfl)) (by decide +kernel) ⟨Nat.le_of_ble_eq_true rfl, Nat.le_of_ble_eq_true rfl⟩, (hts _ (List.mem_of_getElem? (i := 2) rfl)), (hts _ (List.mem_of_getElem? (i := 4) rfl))⟩ (hPreV hE hP hK hD hS hA [1] (by decide) rfl rfl rfl rfl (q0 := 1) (ci := 5) rfl) rfl rfl hl.1 rfl (lv_room (Nat.le_of_ble_eq_true rfl)) dX10_clear_4 ⟨Nat.zero_le _, Nat.zero_le _⟩) hP hD hS hA rfl rfl (by decide) (by decide) (fun r_1 u H locs hw hP hD hS => ?_)
  obtain ⟨mk_pieces_2, mk_finds_3⟩ := u
  have hP : va_P G vwCl [oX10 q, oX5 q mk_pieces_2 mk_finds_3] H := hP.sub [0, 1] rfl
  have hD : va_D A [oX10 q, oX5 q mk_pieces_2 mk_finds_3] := hD.sub [0, 1] (by decide) rfl
  exact hRetI (S := Int32 × Int32) (mk_pieces_2, mk_finds_3) hx hb hr hlocks hQ hw hP hK hD hS dX10_clear_7
def P_X10_cost (post : Int32 → Prop) (p1 : Int32) (p2 : Int32) (mk_sign : Nat → Int32) (mk_weight : Nat → Int32) (mk_pieces : Int32) (mk_finds : Int32) : Prop :=
  P_X10_isPiece (fun r_1 => ((r_1 = (0 : Int32) → post (-1 : Int32)) ∧ (¬ r_1 = (0 : Int32) → P_X10_within (fun r_3 => ((r_3 = (0 : Int32) → post (-1 : Int32)) ∧ (¬ r_3 = (0 : Int32) → P_X5_price (fun r_5 => post r_5) p1 p2 mk_sign mk_weight))) p2 (0 : Int32) (mk_finds - (1 : Int32))))) p1 mk_pieces
abbrev rm_X10_cost : Room := { frames := 2, cells := 0, slots := 0, locals := 50 }
theorem iw_X10_cost_X10 : ∀ w ∈ wsX100, w ∈ wsX10_cost := by decide +kernel
theorem iw_X10_cost_X5 : ∀ w ∈ wsX50, w ∈ wsX10_cost := by decide +kernel
set_option maxHeartbeats 4000000 in
set_option maxRecDepth 100000 in
theorem c_X10_cost (l : Launch) (G : va_G) (K : ClassId × ClassId × ClassId) (tb q : Nat → Nat) (sz : Nat) (post : Int32 → Prop) (p1 : Int32) (p2 : Int32) (mk_sign : Nat → Int32) (mk_weight : Nat → Int32) (mk_pieces : Int32) (mk_finds : Int32) (hw : P_X10_cost post p1 p2 mk_sign mk_weight mk_pieces mk_finds) : Met l yX10_cost wsX10_cost rm_X10_cost (va_Pc [.ref (q 0), .int p1, .int p2] (hPre G K tb [oX10 q, oX5 q mk_pieces mk_finds, aI K (q 36) 48 mk_sign, aI K (q 37) 16 mk_weight] sz)) (va_Qi (fun (r : Int32) (u : Unit) => post r) (fun u => hB G K (va_A [oX10 q, oX5 q mk_pieces mk_finds, aI K (q 36) 48 mk_sign, aI K (q 37) 16 mk_weight] sz) [oX10 q, oX5 q mk_pieces mk_finds, aI K (q 36) 48 mk_sign, aI K (q 37) 16 mk_weight]) (va_A [oX10 q, oX5 q mk_pieces mk_finds, aI K (q 36) 48 mk_sign, aI K (q 37) 16 mk_weight] sz)) 0 0 (va_A [oX10 q, oX5 q mk_pieces mk_finds, aI K (q 36) 48 mk_sign, aI K (q 37) 16 mk_weight] sz) := by
  refine hMet (fun A => va_Qi (fun (r : Int32) (u : Unit) => post r) (fun u => hB G K A [oX10 q, oX5 q mk_pieces mk_finds, aI K (q 36) 48 mk_sign, aI K (q 37) 16 mk_weight]) A) (by decide) rfl (Nat.le_of_ble_eq_true rfl) ?_
  intro p e s m av below meth c A Q ls hx hb hr hml hts hown hlocks hnm hA hP hK hD hS hE hQ hl
  have hts : ∀ w ∈ wsX10_cost, w.before av s = true := hts
  have hown : s.vm.findClass RX10 = some m.cls := hown
  have hl : lv_has ls 3 [(0, .ref (q 0)), (1, .int p1), (2, .int p2)] := hl
  unfold P_X10_cost at hw
  refine lv_aload_n (pc := 0) hx hb dX10_cost_0 rfl (lv_at hl 0 rfl) ?_
  refine lv_iload_n (pc := 1) hx hb dX10_cost_1 rfl (lv_at hl 1 rfl) ?_
  refine hCallI (pc := 2) (wr := [aI K (q 36) 48 mk_sign, aI K (q 37) 16 mk_weight]) (wsf := fun (u : Unit) => [oX10 q, oX5 q mk_pieces mk_finds]) [0, 1] [2, 3] (va_runV (As := [.int p1]) (rest := []) ⟨hx, hb, hml, hown, hts⟩ (c_X10_isPiece l G K tb q s.heap.size mk_finds _ p1 mk_pieces hw) (cwV 1 hts gX10_cost_X10_isPiece rfl rfl rfl (by decide +kernel) ⟨Nat.le_of_ble_eq_true rfl, Nat.le_of_ble_eq_true rfl⟩) (hPreV hE hP hK hD hS hA [0, 1] (by decide) rfl rfl rfl rfl (q0 := 0) (ci := 10) rfl) rfl rfl hl.1 rfl (lv_room (Nat.le_of_ble_eq_true rfl)) dX10_cost_2 ⟨Nat.zero_le _, Nat.zero_le _⟩) hP hD hS hA rfl rfl (by decide) (by decide) (fun r_1 u H locs hw hP hD hS => ?_)
  have hP : va_P G vwCl [oX10 q, oX5 q mk_pieces mk_finds, aI K (q 36) 48 mk_sign, aI K (q 37) 16 mk_weight] H := hP.sub [2, 3, 0, 1] rfl
  have hD : va_D A [oX10 q, oX5 q mk_pieces mk_finds, aI K (q 36) 48 mk_sign, aI K (q 37) 16 mk_weight] := hD.sub [2, 3, 0, 1] (by decide) rfl
  refine lv_if_eq (pc := 5) (tgt := 25) hx hb dX10_cost_5 (by decide) (fun c_2 => ?_) (fun c_2 => ?_)
  · replace hw := hw.1 c_2
    refine lv_iconst (pc := 25) (v := (-1 : Int32)) hx hb dX10_cost_25 (by decide) ?_
    exact hRetI (S := Unit) () hx hb hr hlocks hQ hw hP hK hD hS dX10_cost_26
  · replace hw := hw.2 c_2
    refine lv_iload_n (pc := 8) hx hb dX10_cost_8 rfl (lv_at hl 2 rfl) ?_
    refine lv_iconst (pc := 9) (v := (0 : Int32)) hx hb dX10_cost_9 (by decide) ?_
    refine lv_aload_n (pc := 10) hx hb dX10_cost_10 rfl (lv_at hl 0 rfl) ?_
    refine va_get (pc := 11) (D := G) (ci := 10) (v := .ref (q 35)) (C := RX10) (T := TX10) (N := 10) hx hb hts iw_X10_cost_X10 hown hK hP 0 rfl rfl 6 (by decide) (hts _ (List.mem_of_getElem? (i := 1) rfl)) (fun _ h9 => h9) rfl dX10_cost_11 ?_
    refine va_getN (pc := 14) (D := G) (host := RX10) (ci := 5) (v := .int mk_finds) (C := RX5) (T := TX5) (N := 4) hx hb hts iw_X10_cost_X5 hown hK hP 1 rfl rfl 3 (by decide) (hE.use 23 rfl) (fun _ h9 => h9) rfl dX10_cost_14 ?_
    refine lv_iconst (pc := 17) (v := (1 : Int32)) hx hb dX10_cost_17 (by decide) ?_
    refine lv_isub (pc := 18) hx hb dX10_cost_18 ?_
    refine hCallI (pc := 19) (wr := [oX10 q, oX5 q mk_pieces mk_finds, aI K (q 36) 48 mk_sign, aI K (q 37) 16 mk_weight]) (wsf := fun (u : Unit) => []) [] [0, 1, 2, 3] (va_runS (As := [.int p2, .int (0 : Int32), .int (mk_finds - (1 : Int32))]) (rest := []) ⟨hx, hb, hml, hown, hts⟩ (c_X10_within l G K tb q H.size _ p2 (0 : Int32) (mk_finds - (1 : Int32)) hw) (va_cwS 3 hts gX10_cost_X10_within rfl rfl rfl (by decide +kernel) ⟨Nat.le_of_ble_eq_true rfl, Nat.le_of_ble_eq_true rfl⟩) (hPreS hE hP hK hD hS hA [] (by decide) rfl rfl) rfl rfl hl.1 rfl (lv_room (Nat.le_of_ble_eq_true rfl)) dX10_cost_19 ⟨Nat.zero_le _, Nat.zero_le _⟩) hP hD hS hA rfl rfl (by decide) (by decide) (fun r_3 u H locs hw hP hD hS => ?_)
    have hP : va_P G vwCl [oX10 q, oX5 q mk_pieces mk_finds, aI K (q 36) 48 mk_sign, aI K (q 37) 16 mk_weight] H := hP.sub [0, 1, 2, 3] rfl
    have hD : va_D A [oX10 q, oX5 q mk_pieces mk_finds, aI K (q 36) 48 mk_sign, aI K (q 37) 16 mk_weight] := hD.sub [0, 1, 2, 3] (by decide) rfl
    refine lv_if_ne (pc := 22) (tgt := 27) hx hb dX10_cost_22 (by decide) (fun c_4 => ?_) (fun c_4 => ?_)
    · replace hw := hw.2 c_4
      refine lv_aload_n (pc := 27) hx hb dX10_cost_27 rfl (lv_at hl 0 rfl) ?_
      refine va_get (pc := 28) (D := G) (ci := 10) (v := .ref (q 35)) (C := RX10) (T := TX10) (N := 10) hx hb hts iw_X10_cost_X10 hown hK hP 0 rfl rfl 6 (by decide) (hts _ (List.mem_of_getElem? (i := 1) rfl)) (fun _ h9 => h9) rfl dX10_cost_28 ?_
      refine lv_iload_n (pc := 31) hx hb dX10_cost_31 rfl (lv_at hl 1 rfl) ?_
      refine lv_iload_n (pc := 32) hx hb dX10_cost_32 rfl (lv_at hl 2 rfl) ?_
      refine hCallI (pc := 33) (wr := [oX10 q]) (wsf := fun (u : Unit) => [oX5 q mk_pieces mk_finds, aI K (q 36) 48 mk_sign, aI K (q 37) 16 mk_weight]) [1, 2, 3] [0] (va_runVN (As := [.int p1, .int p2]) (rest := []) ⟨hx, hb, hml, hown, hts⟩ (c_X5_price l G K tb q H.size mk_pieces mk_finds _ p1 p2 mk_sign mk_weight hw) ⟨va_cnB 2 hts gX10_cost_X5_price_n230 rfl rfl rfl (hE.nw 62 rfl) (hts _ (List.mem_of_getElem? (i := 11) rfl)) (by decide +kernel) ⟨Nat.le_of_ble_eq_true rfl, Nat.le_of_ble_eq_true rfl⟩, (hts _ (List.mem_of_getElem? (i := 10) rfl)), (hts _ (List.mem_of_getElem? (i := 12) rfl))⟩ (hPreV hE hP hK hD hS hA [1, 2, 3] (by decide) rfl rfl rfl rfl (q0 := 1) (ci := 5) rfl) rfl rfl hl.1 rfl (lv_room (Nat.le_of_ble_eq_true rfl)) dX10_cost_33 ⟨Nat.zero_le _, Nat.zero_le _⟩) hP hD hS hA rfl rfl (by decide) (by decide) (fun r_5 u H locs hw hP hD hS => ?_)
      have hP : va_P G vwCl [oX10 q, oX5 q mk_pieces mk_finds, aI K (q 36) 48 mk_sign, aI K (q 37) 16 mk_weight] H := hP.sub [0, 1, 2, 3] rfl
      have hD : va_D A [oX10 q, oX5 q mk_pieces mk_finds, aI K (q 36) 48 mk_sign, aI K (q 37) 16 mk_weight] := hD.sub [0, 1, 2, 3] (by decide) rfl
      exact hRetI (S := Unit) () hx hb hr hlocks hQ hw hP hK hD hS dX10_cost_36
    · replace hw := hw.1 c_4
      refine lv_iconst (pc := 25) (v := (-1 : Int32)) hx hb dX10_cost_25 (by decide) ?_
      exact hRetI (S := Unit) () hx hb hr hlocks hQ hw hP hK hD hS dX10_cost_26
def P_X10_costs (post : Int32 → (Nat → Int32) → (Nat → Int32) → (Nat → Int32) → Int32 → (Nat → Int32) → (Nat → Int32) → (Nat → Int32) → (Nat → Int32) → (Nat → Int32) → (Nat → Int32) → (Nat → Int32) → (Nat → Int32) → Prop) (p1 : Int32) (st_booked : Nat → Int32) (ev_day : Nat → Int32) (ev_house : Nat → Int32) (ev_kind : Nat → Int32) (ev_need : Nat → Int32) (ev_on : Nat → Int32) (ev_size : Int32) (ca_far : Nat → Int32) (ca_farInGoes : Nat → Int32) (ca_served : Nat → Int32) (ca_rank : Nat → Int32) (ca_size : Int32) (ca_price : Nat → Int32) (ca_sent : Nat → Int32) (ca_spare : Nat → Int32) (ca_unmet : Nat → Int32) (ca_wayToSource : Nat → Int32) (ca_wayToEvent : Nat → Int32) (ca_aheadOfSource : Nat → Int32) (ca_aheadOfEvent : Nat → Int32) : Prop :=
  P_X3_has (fun r_1 => ((r_1 = (0 : Int32) → post (-1 : Int32) ca_farInGoes ca_served ca_rank ca_size ca_price ca_sent ca_spare ca_unmet ca_wayToSource ca_wayToEvent ca_aheadOfSource ca_aheadOfEvent) ∧ (¬ r_1 = (0 : Int32) → vp_in p1 12 ∧ (((ev_on p1.toNatClampNeg) = (0 : Int32) → post (-3 : Int32) ca_farInGoes ca_served ca_rank ca_size ca_price ca_sent ca_spare ca_unmet ca_wayToSource ca_wayToEvent ca_aheadOfSource ca_aheadOfEvent) ∧ (¬ (ev_on p1.toNatClampNeg) = (0 : Int32) → ∀ y_5 : Int32, y_5 = (ev_kind p1.toNatClampNeg) → P_X2_leastFor (fun r_6 ca_farInGoes_7 ca_served_8 ca_rank_9 ca_size_10 ca_price_11 ca_sent_12 ca_spare_13 ca_unmet_14 ca_wayToSource_15 ca_wayToEvent_16 ca_aheadOfSource_17 ca_aheadOfEvent_18 => ((r_6 = (-9 : Int32) → post (-9 : Int32) ca_farInGoes_7 ca_served_8 ca_rank_9 ca_size_10 ca_price_11 ca_sent_12 ca_spare_13 ca_unmet_14 ca_wayToSource_15 ca_wayToEvent_16 ca_aheadOfSource_17 ca_aheadOfEvent_18) ∧ (¬ r_6 = (-9 : Int32) → P_X2_leastFor (fun r_20 ca_farInGoes_21 ca_served_22 ca_rank_23 ca_size_24 ca_price_25 ca_sent_26 ca_spare_27 ca_unmet_28 ca_wayToSource_29 ca_wayToEvent_30 ca_aheadOfSource_31 ca_aheadOfEvent_32 => post (r_6 - r_20) ca_farInGoes_21 ca_served_22 ca_rank_23 ca_size_24 ca_price_25 ca_sent_26 ca_spare_27 ca_unmet_28 ca_wayToSource_29 ca_wayToEvent_30 ca_aheadOfSource_31 ca_aheadOfEvent_32) y_5 p1 st_booked ev_day ev_house ev_kind ev_need ev_on ev_size ca_far ca_farInGoes_7 ca_served_8 ca_rank_9 ca_size_10 ca_price_11 ca_sent_12 ca_spare_13 ca_unmet_14 ca_wayToSource_15 ca_wayToEvent_16 ca_aheadOfSource_17 ca_aheadOfEvent_18))) y_5 (-9 : Int32) st_booked ev_day ev_house ev_kind ev_need ev_on ev_size ca_far ca_farInGoes ca_served ca_rank ca_size ca_price ca_sent ca_spare ca_unmet ca_wayToSource ca_wayToEvent ca_aheadOfSource ca_aheadOfEvent))))) p1 ev_size
abbrev rm_X10_costs : Room := { frames := 5, cells := 0, slots := 0, locals := 122 }
theorem iw_X10_costs_X10 : ∀ w ∈ wsX100, w ∈ wsX10_costs := by decide +kernel
theorem iw_X10_costs_X3 : ∀ w ∈ wsX30, w ∈ wsX10_costs := by decide +kernel
set_option maxHeartbeats 4000000 in
set_option maxRecDepth 100000 in
theorem c_X10_costs (l : Launch) (G : va_G) (K : ClassId × ClassId × ClassId) (tb q : Nat → Nat) (sz : Nat) (post : Int32 → (Nat → Int32) → (Nat → Int32) → (Nat → Int32) → Int32 → (Nat → Int32) → (Nat → Int32) → (Nat → Int32) → (Nat → Int32) → (Nat → Int32) → (Nat → Int32) → (Nat → Int32) → (Nat → Int32) → Prop) (p1 : Int32) (st_booked : Nat → Int32) (ev_day : Nat → Int32) (ev_house : Nat → Int32) (ev_kind : Nat → Int32) (ev_need : Nat → Int32) (ev_on : Nat → Int32) (ev_size : Int32) (ca_far : Nat → Int32) (ca_farInGoes : Nat → Int32) (ca_served : Nat → Int32) (ca_rank : Nat → Int32) (ca_size : Int32) (ca_price : Nat → Int32) (ca_sent : Nat → Int32) (ca_spare : Nat → Int32) (ca_unmet : Nat → Int32) (ca_wayToSource : Nat → Int32) (ca_wayToEvent : Nat → Int32) (ca_aheadOfSource : Nat → Int32) (ca_aheadOfEvent : Nat → Int32) (hw : P_X10_costs post p1 st_booked ev_day ev_house ev_kind ev_need ev_on ev_size ca_far ca_farInGoes ca_served ca_rank ca_size ca_price ca_sent ca_spare ca_unmet ca_wayToSource ca_wayToEvent ca_aheadOfSource ca_aheadOfEvent) : Met l yX10_costs wsX10_costs rm_X10_costs (va_Pc [.ref (q 0), .int p1] (hPre G K tb [oX10 q, oX8 q, aI K (q 5) 30 st_booked, oX3 q ev_size, aI K (q 13) 12 ev_day, aI K (q 14) 12 ev_house, aI K (q 15) 12 ev_kind, aI K (q 16) 12 ev_need, aZ K (q 17) 12 ev_on, oX2 q ca_size, aI K (q 19) 25 ca_far, aI K (q 20) 100 ca_farInGoes, aI K (q 21) 12 ca_served, aI K (q 22) 12 ca_rank, aI K (q 23) 204 ca_price, aI K (q 24) 204 ca_sent, aI K (q 25) 17 ca_spare, aI K (q 26) 12 ca_unmet, aI K (q 27) 17 ca_wayToSource, aI K (q 28) 12 ca_wayToEvent, aI K (q 29) 17 ca_aheadOfSource, aI K (q 30) 12 ca_aheadOfEvent] sz)) (va_Qi (fun (r : Int32) (u : (Nat → Int32) × (Nat → Int32) × (Nat → Int32) × Int32 × (Nat → Int32) × (Nat → Int32) × (Nat → Int32) × (Nat → Int32) × (Nat → Int32) × (Nat → Int32) × (Nat → Int32) × (Nat → Int32)) => post r u.1 u.2.1 u.2.2.1 u.2.2.2.1 u.2.2.2.2.1 u.2.2.2.2.2.1 u.2.2.2.2.2.2.1 u.2.2.2.2.2.2.2.1 u.2.2.2.2.2.2.2.2.1 u.2.2.2.2.2.2.2.2.2.1 u.2.2.2.2.2.2.2.2.2.2.1 u.2.2.2.2.2.2.2.2.2.2.2) (fun u => hB G K (va_A [oX10 q, oX8 q, aI K (q 5) 30 st_booked, oX3 q ev_size, aI K (q 13) 12 ev_day, aI K (q 14) 12 ev_house, aI K (q 15) 12 ev_kind, aI K (q 16) 12 ev_need, aZ K (q 17) 12 ev_on, oX2 q ca_size, aI K (q 19) 25 ca_far, aI K (q 20) 100 ca_farInGoes, aI K (q 21) 12 ca_served, aI K (q 22) 12 ca_rank, aI K (q 23) 204 ca_price, aI K (q 24) 204 ca_sent, aI K (q 25) 17 ca_spare, aI K (q 26) 12 ca_unmet, aI K (q 27) 17 ca_wayToSource, aI K (q 28) 12 ca_wayToEvent, aI K (q 29) 17 ca_aheadOfSource, aI K (q 30) 12 ca_aheadOfEvent] sz) [oX10 q, oX8 q, aI K (q 5) 30 st_booked, oX3 q ev_size, aI K (q 13) 12 ev_day, aI K (q 14) 12 ev_house, aI K (q 15) 12 ev_kind, aI K (q 16) 12 ev_need, aZ K (q 17) 12 ev_on, oX2 q u.2.2.2.1, aI K (q 19) 25 ca_far, aI K (q 20) 100 u.1, aI K (q 21) 12 u.2.1, aI K (q 22) 12 u.2.2.1, aI K (q 23) 204 u.2.2.2.2.1, aI K (q 24) 204 u.2.2.2.2.2.1, aI K (q 25) 17 u.2.2.2.2.2.2.1, aI K (q 26) 12 u.2.2.2.2.2.2.2.1, aI K (q 27) 17 u.2.2.2.2.2.2.2.2.1, aI K (q 28) 12 u.2.2.2.2.2.2.2.2.2.1, aI K (q 29) 17 u.2.2.2.2.2.2.2.2.2.2.1, aI K (q 30) 12 u.2.2.2.2.2.2.2.2.2.2.2]) (va_A [oX10 q, oX8 q, aI K (q 5) 30 st_booked, oX3 q ev_size, aI K (q 13) 12 ev_day, aI K (q 14) 12 ev_house, aI K (q 15) 12 ev_kind, aI K (q 16) 12 ev_need, aZ K (q 17) 12 ev_on, oX2 q ca_size, aI K (q 19) 25 ca_far, aI K (q 20) 100 ca_farInGoes, aI K (q 21) 12 ca_served, aI K (q 22) 12 ca_rank, aI K (q 23) 204 ca_price, aI K (q 24) 204 ca_sent, aI K (q 25) 17 ca_spare, aI K (q 26) 12 ca_unmet, aI K (q 27) 17 ca_wayToSource, aI K (q 28) 12 ca_wayToEvent, aI K (q 29) 17 ca_aheadOfSource, aI K (q 30) 12 ca_aheadOfEvent] sz)) 0 0 (va_A [oX10 q, oX8 q, aI K (q 5) 30 st_booked, oX3 q ev_size, aI K (q 13) 12 ev_day, aI K (q 14) 12 ev_house, aI K (q 15) 12 ev_kind, aI K (q 16) 12 ev_need, aZ K (q 17) 12 ev_on, oX2 q ca_size, aI K (q 19) 25 ca_far, aI K (q 20) 100 ca_farInGoes, aI K (q 21) 12 ca_served, aI K (q 22) 12 ca_rank, aI K (q 23) 204 ca_price, aI K (q 24) 204 ca_sent, aI K (q 25) 17 ca_spare, aI K (q 26) 12 ca_unmet, aI K (q 27) 17 ca_wayToSource, aI K (q 28) 12 ca_wayToEvent, aI K (q 29) 17 ca_aheadOfSource, aI K (q 30) 12 ca_aheadOfEvent] sz) := by
  refine hMet (fun A => va_Qi (fun (r : Int32) (u : (Nat → Int32) × (Nat → Int32) × (Nat → Int32) × Int32 × (Nat → Int32) × (Nat → Int32) × (Nat → Int32) × (Nat → Int32) × (Nat → Int32) × (Nat → Int32) × (Nat → Int32) × (Nat → Int32)) => post r u.1 u.2.1 u.2.2.1 u.2.2.2.1 u.2.2.2.2.1 u.2.2.2.2.2.1 u.2.2.2.2.2.2.1 u.2.2.2.2.2.2.2.1 u.2.2.2.2.2.2.2.2.1 u.2.2.2.2.2.2.2.2.2.1 u.2.2.2.2.2.2.2.2.2.2.1 u.2.2.2.2.2.2.2.2.2.2.2) (fun u => hB G K A [oX10 q, oX8 q, aI K (q 5) 30 st_booked, oX3 q ev_size, aI K (q 13) 12 ev_day, aI K (q 14) 12 ev_house, aI K (q 15) 12 ev_kind, aI K (q 16) 12 ev_need, aZ K (q 17) 12 ev_on, oX2 q u.2.2.2.1, aI K (q 19) 25 ca_far, aI K (q 20) 100 u.1, aI K (q 21) 12 u.2.1, aI K (q 22) 12 u.2.2.1, aI K (q 23) 204 u.2.2.2.2.1, aI K (q 24) 204 u.2.2.2.2.2.1, aI K (q 25) 17 u.2.2.2.2.2.2.1, aI K (q 26) 12 u.2.2.2.2.2.2.2.1, aI K (q 27) 17 u.2.2.2.2.2.2.2.2.1, aI K (q 28) 12 u.2.2.2.2.2.2.2.2.2.1, aI K (q 29) 17 u.2.2.2.2.2.2.2.2.2.2.1, aI K (q 30) 12 u.2.2.2.2.2.2.2.2.2.2.2]) A) (by decide) rfl (Nat.le_of_ble_eq_true rfl) ?_
  intro p e s m av below meth c A Q ls hx hb hr hml hts hown hlocks hnm hA hP hK hD hS hE hQ hl
  have hts : ∀ w ∈ wsX10_costs, w.before av s = true := hts
  have hown : s.vm.findClass RX10 = some m.cls := hown
  have hl : lv_has ls 4 [(0, .ref (q 0)), (1, .int p1)] := hl
  unfold P_X10_costs at hw
  refine lv_aload_n (pc := 0) hx hb dX10_costs_0 rfl (lv_at hl 0 rfl) ?_
  refine va_get (pc := 1) (D := G) (ci := 10) (v := .ref (q 12)) (C := RX10) (T := TX10) (N := 10) hx hb hts iw_X10_costs_X10 hown hK hP 0 rfl rfl 3 (by decide) (hts _ (List.mem_of_getElem? (i := 1) rfl)) (fun _ h9 => h9) rfl dX10_costs_1 ?_
  refine lv_iload_n (pc := 4) hx hb dX10_costs_4 rfl (lv_at hl 1 rfl) ?_
  refine hCallI (pc := 5) (wr := [oX10 q, oX8 q, aI K (q 5) 30 st_booked, aI K (q 13) 12 ev_day, aI K (q 14) 12 ev_house, aI K (q 15) 12 ev_kind, aI K (q 16) 12 ev_need, aZ K (q 17) 12 ev_on, oX2 q ca_size, aI K (q 19) 25 ca_far, aI K (q 20) 100 ca_farInGoes, aI K (q 21) 12 ca_served, aI K (q 22) 12 ca_rank, aI K (q 23) 204 ca_price, aI K (q 24) 204 ca_sent, aI K (q 25) 17 ca_spare, aI K (q 26) 12 ca_unmet, aI K (q 27) 17 ca_wayToSource, aI K (q 28) 12 ca_wayToEvent, aI K (q 29) 17 ca_aheadOfSource, aI K (q 30) 12 ca_aheadOfEvent]) (wsf := fun (u : Unit) => [oX3 q ev_size]) [3] [0, 1, 2, 4, 5, 6, 7, 8, 9, 10, 11, 12, 13, 14, 15, 16, 17, 18, 19, 20, 21] (va_runVN (As := [.int p1]) (rest := []) ⟨hx, hb, hml, hown, hts⟩ (c_X3_has l G K tb q s.heap.size _ p1 ev_size hw) ⟨va_cnB 1 hts gX10_costs_X3_has_n155 rfl rfl rfl (hE.nw 44 rfl) (hts _ (List.mem_of_getElem? (i := 5) rfl)) (by decide +kernel) ⟨Nat.le_of_ble_eq_true rfl, Nat.le_of_ble_eq_true rfl⟩, (hts _ (List.mem_of_getElem? (i := 4) rfl)), (hts _ (List.mem_of_getElem? (i := 6) rfl))⟩ (hPreV hE hP hK hD hS hA [3] (by decide) rfl rfl rfl rfl (q0 := 3) (ci := 3) rfl) rfl rfl hl.1 rfl (lv_room (Nat.le_of_ble_eq_true rfl)) dX10_costs_5 ⟨Nat.zero_le _, Nat.zero_le _⟩) hP hD hS hA rfl rfl (by decide) (by decide) (fun r_1 u H locs hw hP hD hS => ?_)
  have hP : va_P G vwCl [oX10 q, oX8 q, aI K (q 5) 30 st_booked, oX3 q ev_size, aI K (q 13) 12 ev_day, aI K (q 14) 12 ev_house, aI K (q 15) 12 ev_kind, aI K (q 16) 12 ev_need, aZ K (q 17) 12 ev_on, oX2 q ca_size, aI K (q 19) 25 ca_far, aI K (q 20) 100 ca_farInGoes, aI K (q 21) 12 ca_served, aI K (q 22) 12 ca_rank, aI K (q 23) 204 ca_price, aI K (q 24) 204 ca_sent, aI K (q 25) 17 ca_spare, aI K (q 26) 12 ca_unmet, aI K (q 27) 17 ca_wayToSource, aI K (q 28) 12 ca_wayToEvent, aI K (q 29) 17 ca_aheadOfSource, aI K (q 30) 12 ca_aheadOfEvent] H := hP.sub [0, 1, 2, 21, 3, 4, 5, 6, 7, 8, 9, 10, 11, 12, 13, 14, 15, 16, 17, 18, 19, 20] rfl
  have hD : va_D A [oX10 q, oX8 q, aI K (q 5) 30 st_booked, oX3 q ev_size, aI K (q 13) 12 ev_day, aI K (q 14) 12 ev_house, aI K (q 15) 12 ev_kind, aI K (q 16) 12 ev_need, aZ K (q 17) 12 ev_on, oX2 q ca_size, aI K (q 19) 25 ca_far, aI K (q 20) 100 ca_farInGoes, aI K (q 21) 12 ca_served, aI K (q 22) 12 ca_rank, aI K (q 23) 204 ca_price, aI K (q 24) 204 ca_sent, aI K (q 25) 17 ca_spare, aI K (q 26) 12 ca_unmet, aI K (q 27) 17 ca_wayToSource, aI K (q 28) 12 ca_wayToEvent, aI K (q 29) 17 ca_aheadOfSource, aI K (q 30) 12 ca_aheadOfEvent] := hD.sub [0, 1, 2, 21, 3, 4, 5, 6, 7, 8, 9, 10, 11, 12, 13, 14, 15, 16, 17, 18, 19, 20] (by decide) rfl
  refine lv_if_ne (pc := 8) (tgt := 13) hx hb dX10_costs_8 (by decide) (fun c_2 => ?_) (fun c_2 => ?_)
  · replace hw := hw.2 c_2
    refine lv_aload_n (pc := 13) hx hb dX10_costs_13 rfl (lv_at hl 0 rfl) ?_
    refine va_get (pc := 14) (D := G) (ci := 10) (v := .ref (q 12)) (C := RX10) (T := TX10) (N := 10) hx hb hts iw_X10_costs_X10 hown hK hP 0 rfl rfl 3 (by decide) (hts _ (List.mem_of_getElem? (i := 1) rfl)) (fun _ h9 => h9) rfl dX10_costs_14 ?_
    refine va_getN (pc := 17) (D := G) (host := RX10) (ci := 3) (v := .ref (q 17)) (C := RX3) (T := TX3) (N := 6) hx hb hts iw_X10_costs_X3 hown hK hP 3 rfl rfl 4 (by decide) (hE.use 13 rfl) (fun _ h9 => h9) rfl dX10_costs_17 ?_
    refine lv_iload_n (pc := 20) hx hb dX10_costs_20 rfl (lv_at hl 1 rfl) ?_
    obtain ⟨h_3, hw⟩ := hw
    refine va_zald (pc := 21) hx hb hK hP 8 2 rfl rfl h_3 dX10_costs_21 ?_
    refine lv_if_ne (pc := 22) (tgt := 28) hx hb dX10_costs_22 (by decide) (fun c_4 => ?_) (fun c_4 => ?_)
    · replace hw := hw.2 c_4
      refine lv_aload_n (pc := 28) hx hb dX10_costs_28 rfl (lv_at hl 0 rfl) ?_
      refine va_get (pc := 29) (D := G) (ci := 10) (v := .ref (q 12)) (C := RX10) (T := TX10) (N := 10) hx hb hts iw_X10_costs_X10 hown hK hP 0 rfl rfl 3 (by decide) (hts _ (List.mem_of_getElem? (i := 1) rfl)) (fun _ h9 => h9) rfl dX10_costs_29 ?_
      refine va_getN (pc := 32) (D := G) (host := RX10) (ci := 3) (v := .ref (q 15)) (C := RX3) (T := TX3) (N := 6) hx hb hts iw_X10_costs_X3 hown hK hP 3 rfl rfl 2 (by decide) (hE.use 10 rfl) (fun _ h9 => h9) rfl dX10_costs_32 ?_
      refine lv_iload_n (pc := 35) hx hb dX10_costs_35 rfl (lv_at hl 1 rfl) ?_
      refine va_iald (pc := 36) hx hb hK hP 6 0 rfl rfl h_3 dX10_costs_36 ?_
      refine lv_topi (fun y_5 ey_5 => ?_)
      replace hw := hw y_5 ey_5
      refine lv_istore_n (pc := 37) (lv' := [(2, .int y_5), (0, .ref (q 0)), (1, .int p1)]) hx hb dX10_costs_37 rfl hl (by decide) rfl (fun ls hl => ?_)
      refine lv_aload_n (pc := 38) hx hb dX10_costs_38 rfl (lv_at hl 1 rfl) ?_
      refine va_get (pc := 39) (D := G) (ci := 10) (v := .ref (q 18)) (C := RX10) (T := TX10) (N := 10) hx hb hts iw_X10_costs_X10 hown hK hP 0 rfl rfl 4 (by decide) (hts _ (List.mem_of_getElem? (i := 2) rfl)) (fun _ h9 => h9) rfl dX10_costs_39 ?_
      refine lv_aload_n (pc := 42) hx hb dX10_costs_42 rfl (lv_at hl 1 rfl) ?_
      refine va_get (pc := 43) (D := G) (ci := 10) (v := .ref (q 12)) (C := RX10) (T := TX10) (N := 10) hx hb hts iw_X10_costs_X10 hown hK hP 0 rfl rfl 3 (by decide) (hts _ (List.mem_of_getElem? (i := 1) rfl)) (fun _ h9 => h9) rfl dX10_costs_43 ?_
      refine lv_aload_n (pc := 46) hx hb dX10_costs_46 rfl (lv_at hl 1 rfl) ?_
      refine va_get (pc := 47) (D := G) (ci := 10) (v := .ref (q 4)) (C := RX10) (T := TX10) (N := 10) hx hb hts iw_X10_costs_X10 hown hK hP 0 rfl rfl 1 (by decide) (hts _ (List.mem_of_getElem? (i := 3) rfl)) (fun _ h9 => h9) rfl dX10_costs_47 ?_
      refine lv_iload_n (pc := 50) hx hb dX10_costs_50 rfl (lv_at hl 0 rfl) ?_
      refine lv_bipush (pc := 51) (v := (-9 : Int32)) hx hb dX10_costs_51 (by decide) ?_
      refine hCallI (pc := 53) (wr := [oX10 q]) (wsf := fun (u : (Nat → Int32) × (Nat → Int32) × (Nat → Int32) × Int32 × (Nat → Int32) × (Nat → Int32) × (Nat → Int32) × (Nat → Int32) × (Nat → Int32) × (Nat → Int32) × (Nat → Int32) × (Nat → Int32)) => [oX8 q, aI K (q 5) 30 st_booked, oX3 q ev_size, aI K (q 13) 12 ev_day, aI K (q 14) 12 ev_house, aI K (q 15) 12 ev_kind, aI K (q 16) 12 ev_need, aZ K (q 17) 12 ev_on, oX2 q u.2.2.2.1, aI K (q 19) 25 ca_far, aI K (q 20) 100 u.1, aI K (q 21) 12 u.2.1, aI K (q 22) 12 u.2.2.1, aI K (q 23) 204 u.2.2.2.2.1, aI K (q 24) 204 u.2.2.2.2.2.1, aI K (q 25) 17 u.2.2.2.2.2.2.1, aI K (q 26) 12 u.2.2.2.2.2.2.2.1, aI K (q 27) 17 u.2.2.2.2.2.2.2.2.1, aI K (q 28) 12 u.2.2.2.2.2.2.2.2.2.1, aI K (q 29) 17 u.2.2.2.2.2.2.2.2.2.2.1, aI K (q 30) 12 u.2.2.2.2.2.2.2.2.2.2.2]) [1, 2, 3, 4, 5, 6, 7, 8, 9, 10, 11, 12, 13, 14, 15, 16, 17, 18, 19, 20, 21] [0] (va_runVN (As := [.ref (q 12), .ref (q 4), .int y_5, .int (-9 : Int32)]) (rest := []) ⟨hx, hb, hml, hown, hts⟩ (c_X2_leastFor l G K tb q H.size _ y_5 (-9 : Int32) st_booked ev_day ev_house ev_kind ev_need ev_on ev_size ca_far ca_farInGoes ca_served ca_rank ca_size ca_price ca_sent ca_spare ca_unmet ca_wayToSource ca_wayToEvent ca_aheadOfSource ca_aheadOfEvent hw) ⟨va_cnB 4 hts gX10_costs_X2_leastFor_n160 rfl rfl rfl (hE.nw 47 rfl) (hts _ (List.mem_of_getElem? (i := 13) rfl)) (by decide +kernel) ⟨Nat.le_of_ble_eq_true rfl, Nat.le_of_ble_eq_true rfl⟩, (hts _ (List.mem_of_getElem? (i := 12) rfl)), (hts _ (List.mem_of_getElem? (i := 14) rfl))⟩ (hPreV hE hP hK hD hS hA [1, 2, 3, 4, 5, 6, 7, 8, 9, 10, 11, 12, 13, 14, 15, 16, 17, 18, 19, 20, 21] (by decide) rfl rfl rfl rfl (q0 := 9) (ci := 2) rfl) rfl rfl hl.1 rfl (lv_room (Nat.le_of_ble_eq_true rfl)) dX10_costs_53 ⟨Nat.zero_le _, Nat.zero_le _⟩) hP hD hS hA rfl rfl (by decide) (by decide) (fun r_6 u H locs hw hP hD hS => ?_)
      obtain ⟨ca_farInGoes_7, ca_served_8, ca_rank_9, ca_size_10, ca_price_11, ca_sent_12, ca_spare_13, ca_unmet_14, ca_wayToSource_15, ca_wayToEvent_16, ca_aheadOfSource_17, ca_aheadOfEvent_18⟩ := u
      have hP : va_P G vwCl [oX10 q, oX8 q, aI K (q 5) 30 st_booked, oX3 q ev_size, aI K (q 13) 12 ev_day, aI K (q 14) 12 ev_house, aI K (q 15) 12 ev_kind, aI K (q 16) 12 ev_need, aZ K (q 17) 12 ev_on, oX2 q ca_size_10, aI K (q 19) 25 ca_far, aI K (q 20) 100 ca_farInGoes_7, aI K (q 21) 12 ca_served_8, aI K (q 22) 12 ca_rank_9, aI K (q 23) 204 ca_price_11, aI K (q 24) 204 ca_sent_12, aI K (q 25) 17 ca_spare_13, aI K (q 26) 12 ca_unmet_14, aI K (q 27) 17 ca_wayToSource_15, aI K (q 28) 12 ca_wayToEvent_16, aI K (q 29) 17 ca_aheadOfSource_17, aI K (q 30) 12 ca_aheadOfEvent_18] H := hP.sub [0, 1, 2, 3, 4, 5, 6, 7, 8, 9, 10, 11, 12, 13, 14, 15, 16, 17, 18, 19, 20, 21] rfl
      have hD : va_D A [oX10 q, oX8 q, aI K (q 5) 30 st_booked, oX3 q ev_size, aI K (q 13) 12 ev_day, aI K (q 14) 12 ev_house, aI K (q 15) 12 ev_kind, aI K (q 16) 12 ev_need, aZ K (q 17) 12 ev_on, oX2 q ca_size_10, aI K (q 19) 25 ca_far, aI K (q 20) 100 ca_farInGoes_7, aI K (q 21) 12 ca_served_8, aI K (q 22) 12 ca_rank_9, aI K (q 23) 204 ca_price_11, aI K (q 24) 204 ca_sent_12, aI K (q 25) 17 ca_spare_13, aI K (q 26) 12 ca_unmet_14, aI K (q 27) 17 ca_wayToSource_15, aI K (q 28) 12 ca_wayToEvent_16, aI K (q 29) 17 ca_aheadOfSource_17, aI K (q 30) 12 ca_aheadOfEvent_18] := hD.sub [0, 1, 2, 3, 4, 5, 6, 7, 8, 9, 10, 11, 12, 13, 14, 15, 16, 17, 18, 19, 20, 21] (by decide) rfl
      refine lv_istore_n (pc := 56) (lv' := [(3, .int r_6), (2, .int y_5), (0, .ref (q 0)), (1, .int p1)]) hx hb dX10_costs_56 rfl hl (by decide) rfl (fun ls hl => ?_)
      refine lv_iload_n (pc := 57) hx hb dX10_costs_57 rfl (lv_at hl 0 rfl) ?_
      refine lv_bipush (pc := 58) (v := (-9 : Int32)) hx hb dX10_costs_58 (by decide) ?_
      refine lv_icmp_ne (pc := 60) (tgt := 66) hx hb dX10_costs_60 (by decide) (fun c_19 => ?_) (fun c_19 => ?_)
      · replace hw := hw.2 c_19
        refine lv_iload_n (pc := 66) hx hb dX10_costs_66 rfl (lv_at hl 0 rfl) ?_
        refine lv_aload_n (pc := 67) hx hb dX10_costs_67 rfl (lv_at hl 2 rfl) ?_
        refine va_get (pc := 68) (D := G) (ci := 10) (v := .ref (q 18)) (C := RX10) (T := TX10) (N := 10) hx hb hts iw_X10_costs_X10 hown hK hP 0 rfl rfl 4 (by decide) (hts _ (List.mem_of_getElem? (i := 2) rfl)) (fun _ h9 => h9) rfl dX10_costs_68 ?_
        refine lv_aload_n (pc := 71) hx hb dX10_costs_71 rfl (lv_at hl 2 rfl) ?_
        refine va_get (pc := 72) (D := G) (ci := 10) (v := .ref (q 12)) (C := RX10) (T := TX10) (N := 10) hx hb hts iw_X10_costs_X10 hown hK hP 0 rfl rfl 3 (by decide) (hts _ (List.mem_of_getElem? (i := 1) rfl)) (fun _ h9 => h9) rfl dX10_costs_72 ?_
        refine lv_aload_n (pc := 75) hx hb dX10_costs_75 rfl (lv_at hl 2 rfl) ?_
        refine va_get (pc := 76) (D := G) (ci := 10) (v := .ref (q 4)) (C := RX10) (T := TX10) (N := 10) hx hb hts iw_X10_costs_X10 hown hK hP 0 rfl rfl 1 (by decide) (hts _ (List.mem_of_getElem? (i := 3) rfl)) (fun _ h9 => h9) rfl dX10_costs_76 ?_
        refine lv_iload_n (pc := 79) hx hb dX10_costs_79 rfl (lv_at hl 1 rfl) ?_
        refine lv_iload_n (pc := 80) hx hb dX10_costs_80 rfl (lv_at hl 3 rfl) ?_
        refine hCallI (pc := 81) (wr := [oX10 q]) (wsf := fun (u : (Nat → Int32) × (Nat → Int32) × (Nat → Int32) × Int32 × (Nat → Int32) × (Nat → Int32) × (Nat → Int32) × (Nat → Int32) × (Nat → Int32) × (Nat → Int32) × (Nat → Int32) × (Nat → Int32)) => [oX8 q, aI K (q 5) 30 st_booked, oX3 q ev_size, aI K (q 13) 12 ev_day, aI K (q 14) 12 ev_house, aI K (q 15) 12 ev_kind, aI K (q 16) 12 ev_need, aZ K (q 17) 12 ev_on, oX2 q u.2.2.2.1, aI K (q 19) 25 ca_far, aI K (q 20) 100 u.1, aI K (q 21) 12 u.2.1, aI K (q 22) 12 u.2.2.1, aI K (q 23) 204 u.2.2.2.2.1, aI K (q 24) 204 u.2.2.2.2.2.1, aI K (q 25) 17 u.2.2.2.2.2.2.1, aI K (q 26) 12 u.2.2.2.2.2.2.2.1, aI K (q 27) 17 u.2.2.2.2.2.2.2.2.1, aI K (q 28) 12 u.2.2.2.2.2.2.2.2.2.1, aI K (q 29) 17 u.2.2.2.2.2.2.2.2.2.2.1, aI K (q 30) 12 u.2.2.2.2.2.2.2.2.2.2.2]) [1, 2, 3, 4, 5, 6, 7, 8, 9, 10, 11, 12, 13, 14, 15, 16, 17, 18, 19, 20, 21] [0] (va_runVN (As := [.ref (q 12), .ref (q 4), .int y_5, .int p1]) (rest := [.int r_6]) ⟨hx, hb, hml, hown, hts⟩ (c_X2_leastFor l G K tb q H.size _ y_5 p1 st_booked ev_day ev_house ev_kind ev_need ev_on ev_size ca_far ca_farInGoes_7 ca_served_8 ca_rank_9 ca_size_10 ca_price_11 ca_sent_12 ca_spare_13 ca_unmet_14 ca_wayToSource_15 ca_wayToEvent_16 ca_aheadOfSource_17 ca_aheadOfEvent_18 hw) ⟨va_cnB 4 hts gX10_costs_X2_leastFor_n160 rfl rfl rfl (hE.nw 47 rfl) (hts _ (List.mem_of_getElem? (i := 13) rfl)) (by decide +kernel) ⟨Nat.le_of_ble_eq_true rfl, Nat.le_of_ble_eq_true rfl⟩, (hts _ (List.mem_of_getElem? (i := 12) rfl)), (hts _ (List.mem_of_getElem? (i := 14) rfl))⟩ (hPreV hE hP hK hD hS hA [1, 2, 3, 4, 5, 6, 7, 8, 9, 10, 11, 12, 13, 14, 15, 16, 17, 18, 19, 20, 21] (by decide) rfl rfl rfl rfl (q0 := 9) (ci := 2) rfl) rfl rfl hl.1 rfl (lv_room (Nat.le_of_ble_eq_true rfl)) dX10_costs_81 ⟨Nat.zero_le _, Nat.zero_le _⟩) hP hD hS hA rfl rfl (by decide) (by decide) (fun r_20 u H locs hw hP hD hS => ?_)
        obtain ⟨ca_farInGoes_21, ca_served_22, ca_rank_23, ca_size_24, ca_price_25, ca_sent_26, ca_spare_27, ca_unmet_28, ca_wayToSource_29, ca_wayToEvent_30, ca_aheadOfSource_31, ca_aheadOfEvent_32⟩ := u
        have hP : va_P G vwCl [oX10 q, oX8 q, aI K (q 5) 30 st_booked, oX3 q ev_size, aI K (q 13) 12 ev_day, aI K (q 14) 12 ev_house, aI K (q 15) 12 ev_kind, aI K (q 16) 12 ev_need, aZ K (q 17) 12 ev_on, oX2 q ca_size_24, aI K (q 19) 25 ca_far, aI K (q 20) 100 ca_farInGoes_21, aI K (q 21) 12 ca_served_22, aI K (q 22) 12 ca_rank_23, aI K (q 23) 204 ca_price_25, aI K (q 24) 204 ca_sent_26, aI K (q 25) 17 ca_spare_27, aI K (q 26) 12 ca_unmet_28, aI K (q 27) 17 ca_wayToSource_29, aI K (q 28) 12 ca_wayToEvent_30, aI K (q 29) 17 ca_aheadOfSource_31, aI K (q 30) 12 ca_aheadOfEvent_32] H := hP.sub [0, 1, 2, 3, 4, 5, 6, 7, 8, 9, 10, 11, 12, 13, 14, 15, 16, 17, 18, 19, 20, 21] rfl
        have hD : va_D A [oX10 q, oX8 q, aI K (q 5) 30 st_booked, oX3 q ev_size, aI K (q 13) 12 ev_day, aI K (q 14) 12 ev_house, aI K (q 15) 12 ev_kind, aI K (q 16) 12 ev_need, aZ K (q 17) 12 ev_on, oX2 q ca_size_24, aI K (q 19) 25 ca_far, aI K (q 20) 100 ca_farInGoes_21, aI K (q 21) 12 ca_served_22, aI K (q 22) 12 ca_rank_23, aI K (q 23) 204 ca_price_25, aI K (q 24) 204 ca_sent_26, aI K (q 25) 17 ca_spare_27, aI K (q 26) 12 ca_unmet_28, aI K (q 27) 17 ca_wayToSource_29, aI K (q 28) 12 ca_wayToEvent_30, aI K (q 29) 17 ca_aheadOfSource_31, aI K (q 30) 12 ca_aheadOfEvent_32] := hD.sub [0, 1, 2, 3, 4, 5, 6, 7, 8, 9, 10, 11, 12, 13, 14, 15, 16, 17, 18, 19, 20, 21] (by decide) rfl
        refine lv_isub (pc := 84) hx hb dX10_costs_84 ?_
        exact hRetI (S := (Nat → Int32) × (Nat → Int32) × (Nat → Int32) × Int32 × (Nat → Int32) × (Nat → Int32) × (Nat → Int32) × (Nat → Int32) × (Nat → Int32) × (Nat → Int32) × (Nat → Int32) × (Nat → Int32)) (ca_farInGoes_21, ca_served_22, ca_rank_23, ca_size_24, ca_price_25, ca_sent_26, ca_spare_27, ca_unmet_28, ca_wayToSource_29, ca_wayToEvent_30, ca_aheadOfSource_31, ca_aheadOfEvent_32) hx hb hr hlocks hQ hw hP hK hD hS dX10_costs_85
      · replace hw := hw.1 c_19
        refine lv_bipush (pc := 63) (v := (-9 : Int32)) hx hb dX10_costs_63 (by decide) ?_
        exact hRetI (S := (Nat → Int32) × (Nat → Int32) × (Nat → Int32) × Int32 × (Nat → Int32) × (Nat → Int32) × (Nat → Int32) × (Nat → Int32) × (Nat → Int32) × (Nat → Int32) × (Nat → Int32) × (Nat → Int32)) (ca_farInGoes_7, ca_served_8, ca_rank_9, ca_size_10, ca_price_11, ca_sent_12, ca_spare_13, ca_unmet_14, ca_wayToSource_15, ca_wayToEvent_16, ca_aheadOfSource_17, ca_aheadOfEvent_18) hx hb hr hlocks hQ hw hP hK hD hS dX10_costs_65
    · replace hw := hw.1 c_4
      refine lv_bipush (pc := 25) (v := (-3 : Int32)) hx hb dX10_costs_25 (by decide) ?_
      exact hRetI (S := (Nat → Int32) × (Nat → Int32) × (Nat → Int32) × Int32 × (Nat → Int32) × (Nat → Int32) × (Nat → Int32) × (Nat → Int32) × (Nat → Int32) × (Nat → Int32) × (Nat → Int32) × (Nat → Int32)) (ca_farInGoes, ca_served, ca_rank, ca_size, ca_price, ca_sent, ca_spare, ca_unmet, ca_wayToSource, ca_wayToEvent, ca_aheadOfSource, ca_aheadOfEvent) hx hb hr hlocks hQ hw hP hK hD hS dX10_costs_27
  · replace hw := hw.1 c_2
    refine lv_iconst (pc := 11) (v := (-1 : Int32)) hx hb dX10_costs_11 (by decide) ?_
    exact hRetI (S := (Nat → Int32) × (Nat → Int32) × (Nat → Int32) × Int32 × (Nat → Int32) × (Nat → Int32) × (Nat → Int32) × (Nat → Int32) × (Nat → Int32) × (Nat → Int32) × (Nat → Int32) × (Nat → Int32)) (ca_farInGoes, ca_served, ca_rank, ca_size, ca_price, ca_sent, ca_spare, ca_unmet, ca_wayToSource, ca_wayToEvent, ca_aheadOfSource, ca_aheadOfEvent) hx hb hr hlocks hQ hw hP hK hD hS dX10_costs_12
def P_X10_count (post : Int32 → Prop) (p1 : Int32) (kd_size : Int32) (st_booked : Nat → Int32) (wg_counts : Nat → Int32) (wg_size : Int32) (ev_on : Nat → Int32) (ev_size : Int32) (mk_pieces : Int32) (mk_finds : Int32) (br_size : Int32) : Prop :=
  ((p1 = (0 : Int32) → post kd_size) ∧ (p1 = (1 : Int32) → P_X9_counting (fun r_3 => post r_3) wg_counts wg_size) ∧ (p1 = (2 : Int32) → P_X3_counting (fun r_5 => post r_5) ev_on ev_size) ∧ (p1 = (3 : Int32) → post mk_pieces) ∧ (p1 = (4 : Int32) → post mk_finds) ∧ (p1 = (5 : Int32) → post br_size) ∧ (p1 = (6 : Int32) → P_X8_bookedInAll (fun r_10 => post r_10) st_booked) ∧ ((p1.toInt < 0 ∨ 6 < p1.toInt) → post (-2 : Int32)))
abbrev rm_X10_count : Room := { frames := 1, cells := 0, slots := 0, locals := 22 }
theorem iw_X10_count_X1 : ∀ w ∈ wsX10, w ∈ wsX10_count := by decide +kernel
theorem iw_X10_count_X10 : ∀ w ∈ wsX100, w ∈ wsX10_count := by decide +kernel
theorem iw_X10_count_X4 : ∀ w ∈ wsX40, w ∈ wsX10_count := by decide +kernel
theorem iw_X10_count_X5 : ∀ w ∈ wsX50, w ∈ wsX10_count := by decide +kernel
set_option maxHeartbeats 4000000 in
set_option maxRecDepth 100000 in
theorem c_X10_count (l : Launch) (G : va_G) (K : ClassId × ClassId × ClassId) (tb q : Nat → Nat) (sz : Nat) (post : Int32 → Prop) (p1 : Int32) (kd_size : Int32) (st_booked : Nat → Int32) (wg_counts : Nat → Int32) (wg_size : Int32) (ev_on : Nat → Int32) (ev_size : Int32) (mk_pieces : Int32) (mk_finds : Int32) (br_size : Int32) (hw : P_X10_count post p1 kd_size st_booked wg_counts wg_size ev_on ev_size mk_pieces mk_finds br_size) : Met l yX10_count wsX10_count rm_X10_count (va_Pc [.ref (q 0), .int p1] (hPre G K tb [oX10 q, oX4 q kd_size, oX8 q, aI K (q 5) 30 st_booked, oX9 q wg_size, aZ K (q 11) 40 wg_counts, oX3 q ev_size, aZ K (q 17) 12 ev_on, oX5 q mk_pieces mk_finds, oX1 q br_size] sz)) (va_Qi (fun (r : Int32) (u : Unit) => post r) (fun u => hB G K (va_A [oX10 q, oX4 q kd_size, oX8 q, aI K (q 5) 30 st_booked, oX9 q wg_size, aZ K (q 11) 40 wg_counts, oX3 q ev_size, aZ K (q 17) 12 ev_on, oX5 q mk_pieces mk_finds, oX1 q br_size] sz) [oX10 q, oX4 q kd_size, oX8 q, aI K (q 5) 30 st_booked, oX9 q wg_size, aZ K (q 11) 40 wg_counts, oX3 q ev_size, aZ K (q 17) 12 ev_on, oX5 q mk_pieces mk_finds, oX1 q br_size]) (va_A [oX10 q, oX4 q kd_size, oX8 q, aI K (q 5) 30 st_booked, oX9 q wg_size, aZ K (q 11) 40 wg_counts, oX3 q ev_size, aZ K (q 17) 12 ev_on, oX5 q mk_pieces mk_finds, oX1 q br_size] sz)) 0 0 (va_A [oX10 q, oX4 q kd_size, oX8 q, aI K (q 5) 30 st_booked, oX9 q wg_size, aZ K (q 11) 40 wg_counts, oX3 q ev_size, aZ K (q 17) 12 ev_on, oX5 q mk_pieces mk_finds, oX1 q br_size] sz) := by
  refine hMet (fun A => va_Qi (fun (r : Int32) (u : Unit) => post r) (fun u => hB G K A [oX10 q, oX4 q kd_size, oX8 q, aI K (q 5) 30 st_booked, oX9 q wg_size, aZ K (q 11) 40 wg_counts, oX3 q ev_size, aZ K (q 17) 12 ev_on, oX5 q mk_pieces mk_finds, oX1 q br_size]) A) (by decide) rfl (Nat.le_of_ble_eq_true rfl) ?_
  intro p e s m av below meth c A Q ls hx hb hr hml hts hown hlocks hnm hA hP hK hD hS hE hQ hl
  have hts : ∀ w ∈ wsX10_count, w.before av s = true := hts
  have hown : s.vm.findClass RX10 = some m.cls := hown
  have hl : lv_has ls 2 [(0, .ref (q 0)), (1, .int p1)] := hl
  unfold P_X10_count at hw
  refine lv_iload_n (pc := 0) hx hb dX10_count_0 rfl (lv_at hl 1 rfl) ?_
  by_cases hc_1 : p1 = (0 : Int32)
  · replace hw := hw.1 hc_1
    refine lv_tableIn (pc := 1) (tgt := 44) hx hb dX10_count_1 (by rw [hc_1]; decide) (by rw [hc_1]; decide) (by rw [hc_1]; rfl) (by decide) ?_
    refine lv_aload_n (pc := 44) hx hb dX10_count_44 rfl (lv_at hl 0 rfl) ?_
    refine va_get (pc := 45) (D := G) (ci := 10) (v := .ref (q 1)) (C := RX10) (T := TX10) (N := 10) hx hb hts iw_X10_count_X10 hown hK hP 0 rfl rfl 0 (by decide) (hts _ (List.mem_of_getElem? (i := 1) rfl)) (fun _ h9 => h9) rfl dX10_count_45 ?_
    refine va_getN (pc := 48) (D := G) (host := RX10) (ci := 4) (v := .int kd_size) (C := RX4) (T := TX4) (N := 3) hx hb hts iw_X10_count_X4 hown hK hP 1 rfl rfl 2 (by decide) (hE.use 1 rfl) (fun _ h9 => h9) rfl dX10_count_48 ?_
    exact hRetI (S := Unit) () hx hb hr hlocks hQ hw hP hK hD hS dX10_count_51
  by_cases hc_2 : p1 = (1 : Int32)
  · replace hw := hw.2.1 hc_2
    refine lv_tableIn (pc := 1) (tgt := 52) hx hb dX10_count_1 (by rw [hc_2]; decide) (by rw [hc_2]; decide) (by rw [hc_2]; rfl) (by decide) ?_
    refine lv_aload_n (pc := 52) hx hb dX10_count_52 rfl (lv_at hl 0 rfl) ?_
    refine va_get (pc := 53) (D := G) (ci := 10) (v := .ref (q 7)) (C := RX10) (T := TX10) (N := 10) hx hb hts iw_X10_count_X10 hown hK hP 0 rfl rfl 2 (by decide) (hts _ (List.mem_of_getElem? (i := 2) rfl)) (fun _ h9 => h9) rfl dX10_count_53 ?_
    refine hCallI (pc := 56) (wr := [oX10 q, oX4 q kd_size, oX8 q, aI K (q 5) 30 st_booked, oX3 q ev_size, aZ K (q 17) 12 ev_on, oX5 q mk_pieces mk_finds, oX1 q br_size]) (wsf := fun (u : Unit) => [oX9 q wg_size, aZ K (q 11) 40 wg_counts]) [4, 5] [0, 1, 2, 3, 6, 7, 8, 9] (va_runVN (As := []) (rest := []) ⟨hx, hb, hml, hown, hts⟩ (c_X9_counting l G K tb q s.heap.size _ wg_counts wg_size hw) ⟨va_cnB 0 hts gX10_count_X9_counting_n268 rfl rfl rfl (hE.nw 74 rfl) (hts _ (List.mem_of_getElem? (i := 8) rfl)) (by decide +kernel) ⟨Nat.le_of_ble_eq_true rfl, Nat.le_of_ble_eq_true rfl⟩, (hts _ (List.mem_of_getElem? (i := 7) rfl)), (hts _ (List.mem_of_getElem? (i := 9) rfl))⟩ (hPreV hE hP hK hD hS hA [4, 5] (by decide) rfl rfl rfl rfl (q0 := 4) (ci := 9) rfl) rfl rfl hl.1 rfl (lv_room (Nat.le_of_ble_eq_true rfl)) dX10_count_56 ⟨Nat.zero_le _, Nat.zero_le _⟩) hP hD hS hA rfl rfl (by decide) (by decide) (fun r_3 u H locs hw hP hD hS => ?_)
    have hP : va_P G vwCl [oX10 q, oX4 q kd_size, oX8 q, aI K (q 5) 30 st_booked, oX9 q wg_size, aZ K (q 11) 40 wg_counts, oX3 q ev_size, aZ K (q 17) 12 ev_on, oX5 q mk_pieces mk_finds, oX1 q br_size] H := hP.sub [0, 1, 2, 3, 8, 9, 4, 5, 6, 7] rfl
    have hD : va_D A [oX10 q, oX4 q kd_size, oX8 q, aI K (q 5) 30 st_booked, oX9 q wg_size, aZ K (q 11) 40 wg_counts, oX3 q ev_size, aZ K (q 17) 12 ev_on, oX5 q mk_pieces mk_finds, oX1 q br_size] := hD.sub [0, 1, 2, 3, 8, 9, 4, 5, 6, 7] (by decide) rfl
    exact hRetI (S := Unit) () hx hb hr hlocks hQ hw hP hK hD hS dX10_count_59
  by_cases hc_4 : p1 = (2 : Int32)
  · replace hw := hw.2.2.1 hc_4
    refine lv_tableIn (pc := 1) (tgt := 60) hx hb dX10_count_1 (by rw [hc_4]; decide) (by rw [hc_4]; decide) (by rw [hc_4]; rfl) (by decide) ?_
    refine lv_aload_n (pc := 60) hx hb dX10_count_60 rfl (lv_at hl 0 rfl) ?_
    refine va_get (pc := 61) (D := G) (ci := 10) (v := .ref (q 12)) (C := RX10) (T := TX10) (N := 10) hx hb hts iw_X10_count_X10 hown hK hP 0 rfl rfl 3 (by decide) (hts _ (List.mem_of_getElem? (i := 3) rfl)) (fun _ h9 => h9) rfl dX10_count_61 ?_
    refine hCallI (pc := 64) (wr := [oX10 q, oX4 q kd_size, oX8 q, aI K (q 5) 30 st_booked, oX9 q wg_size, aZ K (q 11) 40 wg_counts, oX5 q mk_pieces mk_finds, oX1 q br_size]) (wsf := fun (u : Unit) => [oX3 q ev_size, aZ K (q 17) 12 ev_on]) [6, 7] [0, 1, 2, 3, 4, 5, 8, 9] (va_runVN (As := []) (rest := []) ⟨hx, hb, hml, hown, hts⟩ (c_X3_counting l G K tb q s.heap.size _ ev_on ev_size hw) ⟨va_cnB 0 hts gX10_count_X3_counting_n271 rfl rfl rfl (hE.nw 75 rfl) (hts _ (List.mem_of_getElem? (i := 14) rfl)) (by decide +kernel) ⟨Nat.le_of_ble_eq_true rfl, Nat.le_of_ble_eq_true rfl⟩, (hts _ (List.mem_of_getElem? (i := 13) rfl)), (hts _ (List.mem_of_getElem? (i := 15) rfl))⟩ (hPreV hE hP hK hD hS hA [6, 7] (by decide) rfl rfl rfl rfl (q0 := 6) (ci := 3) rfl) rfl rfl hl.1 rfl (lv_room (Nat.le_of_ble_eq_true rfl)) dX10_count_64 ⟨Nat.zero_le _, Nat.zero_le _⟩) hP hD hS hA rfl rfl (by decide) (by decide) (fun r_5 u H locs hw hP hD hS => ?_)
    have hP : va_P G vwCl [oX10 q, oX4 q kd_size, oX8 q, aI K (q 5) 30 st_booked, oX9 q wg_size, aZ K (q 11) 40 wg_counts, oX3 q ev_size, aZ K (q 17) 12 ev_on, oX5 q mk_pieces mk_finds, oX1 q br_size] H := hP.sub [0, 1, 2, 3, 4, 5, 8, 9, 6, 7] rfl
    have hD : va_D A [oX10 q, oX4 q kd_size, oX8 q, aI K (q 5) 30 st_booked, oX9 q wg_size, aZ K (q 11) 40 wg_counts, oX3 q ev_size, aZ K (q 17) 12 ev_on, oX5 q mk_pieces mk_finds, oX1 q br_size] := hD.sub [0, 1, 2, 3, 4, 5, 8, 9, 6, 7] (by decide) rfl
    exact hRetI (S := Unit) () hx hb hr hlocks hQ hw hP hK hD hS dX10_count_67
  by_cases hc_6 : p1 = (3 : Int32)
  · replace hw := hw.2.2.2.1 hc_6
    refine lv_tableIn (pc := 1) (tgt := 68) hx hb dX10_count_1 (by rw [hc_6]; decide) (by rw [hc_6]; decide) (by rw [hc_6]; rfl) (by decide) ?_
    refine lv_aload_n (pc := 68) hx hb dX10_count_68 rfl (lv_at hl 0 rfl) ?_
    refine va_get (pc := 69) (D := G) (ci := 10) (v := .ref (q 35)) (C := RX10) (T := TX10) (N := 10) hx hb hts iw_X10_count_X10 hown hK hP 0 rfl rfl 6 (by decide) (hts _ (List.mem_of_getElem? (i := 4) rfl)) (fun _ h9 => h9) rfl dX10_count_69 ?_
    refine va_getN (pc := 72) (D := G) (host := RX10) (ci := 5) (v := .int mk_pieces) (C := RX5) (T := TX5) (N := 4) hx hb hts iw_X10_count_X5 hown hK hP 8 rfl rfl 2 (by decide) (hE.use 21 rfl) (fun _ h9 => h9) rfl dX10_count_72 ?_
    exact hRetI (S := Unit) () hx hb hr hlocks hQ hw hP hK hD hS dX10_count_75
  by_cases hc_7 : p1 = (4 : Int32)
  · replace hw := hw.2.2.2.2.1 hc_7
    refine lv_tableIn (pc := 1) (tgt := 76) hx hb dX10_count_1 (by rw [hc_7]; decide) (by rw [hc_7]; decide) (by rw [hc_7]; rfl) (by decide) ?_
    refine lv_aload_n (pc := 76) hx hb dX10_count_76 rfl (lv_at hl 0 rfl) ?_
    refine va_get (pc := 77) (D := G) (ci := 10) (v := .ref (q 35)) (C := RX10) (T := TX10) (N := 10) hx hb hts iw_X10_count_X10 hown hK hP 0 rfl rfl 6 (by decide) (hts _ (List.mem_of_getElem? (i := 4) rfl)) (fun _ h9 => h9) rfl dX10_count_77 ?_
    refine va_getN (pc := 80) (D := G) (host := RX10) (ci := 5) (v := .int mk_finds) (C := RX5) (T := TX5) (N := 4) hx hb hts iw_X10_count_X5 hown hK hP 8 rfl rfl 3 (by decide) (hE.use 23 rfl) (fun _ h9 => h9) rfl dX10_count_80 ?_
    exact hRetI (S := Unit) () hx hb hr hlocks hQ hw hP hK hD hS dX10_count_83
  by_cases hc_8 : p1 = (5 : Int32)
  · replace hw := hw.2.2.2.2.2.1 hc_8
    refine lv_tableIn (pc := 1) (tgt := 84) hx hb dX10_count_1 (by rw [hc_8]; decide) (by rw [hc_8]; decide) (by rw [hc_8]; rfl) (by decide) ?_
    refine lv_aload_n (pc := 84) hx hb dX10_count_84 rfl (lv_at hl 0 rfl) ?_
    refine va_get (pc := 85) (D := G) (ci := 10) (v := .ref (q 44)) (C := RX10) (T := TX10) (N := 10) hx hb hts iw_X10_count_X10 hown hK hP 0 rfl rfl 9 (by decide) (hts _ (List.mem_of_getElem? (i := 5) rfl)) (fun _ h9 => h9) rfl dX10_count_85 ?_
    refine va_getN (pc := 88) (D := G) (host := RX10) (ci := 1) (v := .int br_size) (C := RX1) (T := TX1) (N := 4) hx hb hts iw_X10_count_X1 hown hK hP 9 rfl rfl 3 (by decide) (hE.use 27 rfl) (fun _ h9 => h9) rfl dX10_count_88 ?_
    exact hRetI (S := Unit) () hx hb hr hlocks hQ hw hP hK hD hS dX10_count_91
  by_cases hc_9 : p1 = (6 : Int32)
  · replace hw := hw.2.2.2.2.2.2.1 hc_9
    refine lv_tableIn (pc := 1) (tgt := 92) hx hb dX10_count_1 (by rw [hc_9]; decide) (by rw [hc_9]; decide) (by rw [hc_9]; rfl) (by decide) ?_
    refine lv_aload_n (pc := 92) hx hb dX10_count_92 rfl (lv_at hl 0 rfl) ?_
    refine va_get (pc := 93) (D := G) (ci := 10) (v := .ref (q 4)) (C := RX10) (T := TX10) (N := 10) hx hb hts iw_X10_count_X10 hown hK hP 0 rfl rfl 1 (by decide) (hts _ (List.mem_of_getElem? (i := 6) rfl)) (fun _ h9 => h9) rfl dX10_count_93 ?_
    refine hCallI (pc := 96) (wr := [oX10 q, oX4 q kd_size, oX9 q wg_size, aZ K (q 11) 40 wg_counts, oX3 q ev_size, aZ K (q 17) 12 ev_on, oX5 q mk_pieces mk_finds, oX1 q br_size]) (wsf := fun (u : Unit) => [oX8 q, aI K (q 5) 30 st_booked]) [2, 3] [0, 1, 4, 5, 6, 7, 8, 9] (va_runVN (As := []) (rest := []) ⟨hx, hb, hml, hown, hts⟩ (c_X8_bookedInAll l G K tb q s.heap.size _ st_booked hw) ⟨va_cnB 0 hts gX10_count_X8_bookedInAll_n272 rfl rfl rfl (hE.nw 76 rfl) (hts _ (List.mem_of_getElem? (i := 20) rfl)) (by decide +kernel) ⟨Nat.le_of_ble_eq_true rfl, Nat.le_of_ble_eq_true rfl⟩, (hts _ (List.mem_of_getElem? (i := 19) rfl)), (hts _ (List.mem_of_getElem? (i := 21) rfl))⟩ (hPreV hE hP hK hD hS hA [2, 3] (by decide) rfl rfl rfl rfl (q0 := 2) (ci := 8) rfl) rfl rfl hl.1 rfl (lv_room (Nat.le_of_ble_eq_true rfl)) dX10_count_96 ⟨Nat.zero_le _, Nat.zero_le _⟩) hP hD hS hA rfl rfl (by decide) (by decide) (fun r_10 u H locs hw hP hD hS => ?_)
    have hP : va_P G vwCl [oX10 q, oX4 q kd_size, oX8 q, aI K (q 5) 30 st_booked, oX9 q wg_size, aZ K (q 11) 40 wg_counts, oX3 q ev_size, aZ K (q 17) 12 ev_on, oX5 q mk_pieces mk_finds, oX1 q br_size] H := hP.sub [0, 1, 8, 9, 2, 3, 4, 5, 6, 7] rfl
    have hD : va_D A [oX10 q, oX4 q kd_size, oX8 q, aI K (q 5) 30 st_booked, oX9 q wg_size, aZ K (q 11) 40 wg_counts, oX3 q ev_size, aZ K (q 17) 12 ev_on, oX5 q mk_pieces mk_finds, oX1 q br_size] := hD.sub [0, 1, 8, 9, 2, 3, 4, 5, 6, 7] (by decide) rfl
    exact hRetI (S := Unit) () hx hb hr hlocks hQ hw hP hK hD hS dX10_count_99
  have hc_11 : (p1.toInt < 0 ∨ 6 < p1.toInt) := by
    have ehc_1 : p1.toInt ≠ 0 := fun e => hc_1 (Int32.toInt_inj.mp (e.trans (by decide)))
    have ehc_2 : p1.toInt ≠ 1 := fun e => hc_2 (Int32.toInt_inj.mp (e.trans (by decide)))
    have ehc_4 : p1.toInt ≠ 2 := fun e => hc_4 (Int32.toInt_inj.mp (e.trans (by decide)))
    have ehc_6 : p1.toInt ≠ 3 := fun e => hc_6 (Int32.toInt_inj.mp (e.trans (by decide)))
    have ehc_7 : p1.toInt ≠ 4 := fun e => hc_7 (Int32.toInt_inj.mp (e.trans (by decide)))
    have ehc_8 : p1.toInt ≠ 5 := fun e => hc_8 (Int32.toInt_inj.mp (e.trans (by decide)))
    have ehc_9 : p1.toInt ≠ 6 := fun e => hc_9 (Int32.toInt_inj.mp (e.trans (by decide)))
    omega
  replace hw := hw.2.2.2.2.2.2.2 hc_11
  refine lv_tableOut (pc := 1) (tgt := 100) hx hb dX10_count_1 hc_11 (by decide) ?_
  refine lv_bipush (pc := 100) (v := (-2 : Int32)) hx hb dX10_count_100 (by decide) ?_
  exact hRetI (S := Unit) () hx hb hr hlocks hQ hw hP hK hD hS dX10_count_102
def P_X10_crew (post : Int32 → (Nat → Int64) → Int32 → Prop) (p1 : Int32) (pl_found : Nat → Int64) (pl_hands : Int32) : Prop :=
  P_X10_within (fun r_1 => ((r_1 = (0 : Int32) → post (-2 : Int32) pl_found pl_hands) ∧ (¬ r_1 = (0 : Int32) → P_X7_setHands (fun r_3 pl_found_4 pl_hands_5 => post r_3 pl_found_4 pl_hands_5) p1 pl_found pl_hands))) p1 (0 : Int32) (4 : Int32)
abbrev rm_X10_crew : Room := { frames := 2, cells := 0, slots := 0, locals := 46 }
theorem iw_X10_crew_X10 : ∀ w ∈ wsX100, w ∈ wsX10_crew := by decide +kernel
set_option maxHeartbeats 4000000 in
set_option maxRecDepth 100000 in
theorem c_X10_crew (l : Launch) (G : va_G) (K : ClassId × ClassId × ClassId) (tb q : Nat → Nat) (sz : Nat) (post : Int32 → (Nat → Int64) → Int32 → Prop) (p1 : Int32) (pl_found : Nat → Int64) (pl_hands : Int32) (hw : P_X10_crew post p1 pl_found pl_hands) : Met l yX10_crew wsX10_crew rm_X10_crew (va_Pc [.ref (q 0), .int p1] (hPre G K tb [oX10 q, oX7 q pl_hands, aJ K (q 34) 878 pl_found] sz)) (va_Qi (fun (r : Int32) (u : (Nat → Int64) × Int32) => post r u.1 u.2) (fun u => hB G K (va_A [oX10 q, oX7 q pl_hands, aJ K (q 34) 878 pl_found] sz) [oX10 q, oX7 q u.2, aJ K (q 34) 878 u.1]) (va_A [oX10 q, oX7 q pl_hands, aJ K (q 34) 878 pl_found] sz)) 0 0 (va_A [oX10 q, oX7 q pl_hands, aJ K (q 34) 878 pl_found] sz) := by
  refine hMet (fun A => va_Qi (fun (r : Int32) (u : (Nat → Int64) × Int32) => post r u.1 u.2) (fun u => hB G K A [oX10 q, oX7 q u.2, aJ K (q 34) 878 u.1]) A) (by decide) rfl (Nat.le_of_ble_eq_true rfl) ?_
  intro p e s m av below meth c A Q ls hx hb hr hml hts hown hlocks hnm hA hP hK hD hS hE hQ hl
  have hts : ∀ w ∈ wsX10_crew, w.before av s = true := hts
  have hown : s.vm.findClass RX10 = some m.cls := hown
  have hl : lv_has ls 2 [(0, .ref (q 0)), (1, .int p1)] := hl
  unfold P_X10_crew at hw
  refine lv_iload_n (pc := 0) hx hb dX10_crew_0 rfl (lv_at hl 1 rfl) ?_
  refine lv_iconst (pc := 1) (v := (0 : Int32)) hx hb dX10_crew_1 (by decide) ?_
  refine lv_iconst (pc := 2) (v := (4 : Int32)) hx hb dX10_crew_2 (by decide) ?_
  refine hCallI (pc := 3) (wr := [oX10 q, oX7 q pl_hands, aJ K (q 34) 878 pl_found]) (wsf := fun (u : Unit) => []) [] [0, 1, 2] (va_runS (As := [.int p1, .int (0 : Int32), .int (4 : Int32)]) (rest := []) ⟨hx, hb, hml, hown, hts⟩ (c_X10_within l G K tb q s.heap.size _ p1 (0 : Int32) (4 : Int32) hw) (va_cwS 3 hts gX10_crew_X10_within rfl rfl rfl (by decide +kernel) ⟨Nat.le_of_ble_eq_true rfl, Nat.le_of_ble_eq_true rfl⟩) (hPreS hE hP hK hD hS hA [] (by decide) rfl rfl) rfl rfl hl.1 rfl (lv_room (Nat.le_of_ble_eq_true rfl)) dX10_crew_3 ⟨Nat.zero_le _, Nat.zero_le _⟩) hP hD hS hA rfl rfl (by decide) (by decide) (fun r_1 u H locs hw hP hD hS => ?_)
  have hP : va_P G vwCl [oX10 q, oX7 q pl_hands, aJ K (q 34) 878 pl_found] H := hP.sub [0, 1, 2] rfl
  have hD : va_D A [oX10 q, oX7 q pl_hands, aJ K (q 34) 878 pl_found] := hD.sub [0, 1, 2] (by decide) rfl
  refine lv_if_eq (pc := 6) (tgt := 20) hx hb dX10_crew_6 (by decide) (fun c_2 => ?_) (fun c_2 => ?_)
  · replace hw := hw.1 c_2
    refine lv_bipush (pc := 20) (v := (-2 : Int32)) hx hb dX10_crew_20 (by decide) ?_
    exact hRetI (S := (Nat → Int64) × Int32) (pl_found, pl_hands) hx hb hr hlocks hQ hw hP hK hD hS dX10_crew_22
  · replace hw := hw.2 c_2
    refine lv_aload_n (pc := 9) hx hb dX10_crew_9 rfl (lv_at hl 0 rfl) ?_
    refine va_get (pc := 10) (D := G) (ci := 10) (v := .ref (q 31)) (C := RX10) (T := TX10) (N := 10) hx hb hts iw_X10_crew_X10 hown hK hP 0 rfl rfl 5 (by decide) (hts _ (List.mem_of_getElem? (i := 1) rfl)) (fun _ h9 => h9) rfl dX10_crew_10 ?_
    refine lv_iload_n (pc := 13) hx hb dX10_crew_13 rfl (lv_at hl 1 rfl) ?_
    refine hCallI (pc := 14) (wr := [oX10 q]) (wsf := fun (u : (Nat → Int64) × Int32) => [oX7 q u.2, aJ K (q 34) 878 u.1]) [1, 2] [0] (va_runVN (As := [.int p1]) (rest := []) ⟨hx, hb, hml, hown, hts⟩ (c_X7_setHands l G K tb q H.size _ p1 pl_found pl_hands hw) ⟨va_cnB 1 hts gX10_crew_X7_setHands_n188 rfl rfl rfl (hE.nw 55 rfl) (hts _ (List.mem_of_getElem? (i := 7) rfl)) (by decide +kernel) ⟨Nat.le_of_ble_eq_true rfl, Nat.le_of_ble_eq_true rfl⟩, (hts _ (List.mem_of_getElem? (i := 6) rfl)), (hts _ (List.mem_of_getElem? (i := 8) rfl))⟩ (hPreV hE hP hK hD hS hA [1, 2] (by decide) rfl rfl rfl rfl (q0 := 1) (ci := 7) rfl) rfl rfl hl.1 rfl (lv_room (Nat.le_of_ble_eq_true rfl)) dX10_crew_14 ⟨Nat.zero_le _, Nat.zero_le _⟩) hP hD hS hA rfl rfl (by decide) (by decide) (fun r_3 u H locs hw hP hD hS => ?_)
    obtain ⟨pl_found_4, pl_hands_5⟩ := u
    have hP : va_P G vwCl [oX10 q, oX7 q pl_hands_5, aJ K (q 34) 878 pl_found_4] H := hP.sub [0, 1, 2] rfl
    have hD : va_D A [oX10 q, oX7 q pl_hands_5, aJ K (q 34) 878 pl_found_4] := hD.sub [0, 1, 2] (by decide) rfl
    refine lv_goto (pc := 17) (tgt := 22) hx hb dX10_crew_17 (by decide) ?_
    exact hRetI (S := (Nat → Int64) × Int32) (pl_found_4, pl_hands_5) hx hb hr hlocks hQ hw hP hK hD hS dX10_crew_22
def P_X10_doubted (post : Int32 → (Nat → Int64) → (Nat → Int64) → Prop) (p1 : Int32) (p2 : Int32) (p3 : Int32) (p4 : Int32) (bg_fromHolding : Nat → Int64) (bg_fromOthers : Nat → Int64) : Prop :=
  P_X10_isDraw (fun r_1 => ((r_1 = (0 : Int32) → post (-2 : Int32) bg_fromHolding bg_fromOthers) ∧ (¬ r_1 = (0 : Int32) → P_X10_within (fun r_3 => ((r_3 = (0 : Int32) → post (-2 : Int32) bg_fromHolding bg_fromOthers) ∧ (¬ r_3 = (0 : Int32) → P_X0_isDoubted (fun r_5 bg_fromHolding_6 bg_fromOthers_7 => ∀ v_9 : Int32, v_9 = (if r_5 = (0 : Int32) then (0 : Int32) else (1 : Int32)) → post v_9 bg_fromHolding_6 bg_fromOthers_7) p1 p2 p3 p4 bg_fromHolding bg_fromOthers))) p4 p3 ((p1 - p2) + p3)))) p1 p2 p3
abbrev rm_X10_doubted : Room := { frames := 2, cells := 0, slots := 0, locals := 55 }
theorem iw_X10_doubted_X10 : ∀ w ∈ wsX100, w ∈ wsX10_doubted := by decide +kernel
set_option maxHeartbeats 4000000 in
set_option maxRecDepth 100000 in
theorem c_X10_doubted (l : Launch) (G : va_G) (K : ClassId × ClassId × ClassId) (tb q : Nat → Nat) (sz : Nat) (post : Int32 → (Nat → Int64) → (Nat → Int64) → Prop) (p1 : Int32) (p2 : Int32) (p3 : Int32) (p4 : Int32) (bg_fromHolding : Nat → Int64) (bg_fromOthers : Nat → Int64) (hw : P_X10_doubted post p1 p2 p3 p4 bg_fromHolding bg_fromOthers) : Met l yX10_doubted wsX10_doubted rm_X10_doubted (va_Pc [.ref (q 0), .int p1, .int p2, .int p3, .int p4] (hPre G K tb [oX10 q, oX0 q, aJ K (q 42) 61 bg_fromHolding, aJ K (q 43) 61 bg_fromOthers] sz)) (va_Qi (fun (r : Int32) (u : (Nat → Int64) × (Nat → Int64)) => post r u.1 u.2) (fun u => hB G K (va_A [oX10 q, oX0 q, aJ K (q 42) 61 bg_fromHolding, aJ K (q 43) 61 bg_fromOthers] sz) [oX10 q, oX0 q, aJ K (q 42) 61 u.1, aJ K (q 43) 61 u.2]) (va_A [oX10 q, oX0 q, aJ K (q 42) 61 bg_fromHolding, aJ K (q 43) 61 bg_fromOthers] sz)) 0 0 (va_A [oX10 q, oX0 q, aJ K (q 42) 61 bg_fromHolding, aJ K (q 43) 61 bg_fromOthers] sz) := by
  refine hMet (fun A => va_Qi (fun (r : Int32) (u : (Nat → Int64) × (Nat → Int64)) => post r u.1 u.2) (fun u => hB G K A [oX10 q, oX0 q, aJ K (q 42) 61 u.1, aJ K (q 43) 61 u.2]) A) (by decide) rfl (Nat.le_of_ble_eq_true rfl) ?_
  intro p e s m av below meth c A Q ls hx hb hr hml hts hown hlocks hnm hA hP hK hD hS hE hQ hl
  have hts : ∀ w ∈ wsX10_doubted, w.before av s = true := hts
  have hown : s.vm.findClass RX10 = some m.cls := hown
  have hl : lv_has ls 5 [(0, .ref (q 0)), (1, .int p1), (2, .int p2), (3, .int p3), (4, .int p4)] := hl
  unfold P_X10_doubted at hw
  refine lv_iload_n (pc := 0) hx hb dX10_doubted_0 rfl (lv_at hl 1 rfl) ?_
  refine lv_iload_n (pc := 1) hx hb dX10_doubted_1 rfl (lv_at hl 2 rfl) ?_
  refine lv_iload_n (pc := 2) hx hb dX10_doubted_2 rfl (lv_at hl 3 rfl) ?_
  refine hCallI (pc := 3) (wr := [oX10 q, oX0 q, aJ K (q 42) 61 bg_fromHolding, aJ K (q 43) 61 bg_fromOthers]) (wsf := fun (u : Unit) => []) [] [0, 1, 2, 3] (va_runS (As := [.int p1, .int p2, .int p3]) (rest := []) ⟨hx, hb, hml, hown, hts⟩ (c_X10_isDraw l G K tb q s.heap.size _ p1 p2 p3 hw) (va_cwS 3 hts gX10_doubted_X10_isDraw rfl rfl rfl (by decide +kernel) ⟨Nat.le_of_ble_eq_true rfl, Nat.le_of_ble_eq_true rfl⟩) (hPreS hE hP hK hD hS hA [] (by decide) rfl rfl) rfl rfl hl.1 rfl (lv_room (Nat.le_of_ble_eq_true rfl)) dX10_doubted_3 ⟨Nat.zero_le _, Nat.zero_le _⟩) hP hD hS hA rfl rfl (by decide) (by decide) (fun r_1 u H locs hw hP hD hS => ?_)
  have hP : va_P G vwCl [oX10 q, oX0 q, aJ K (q 42) 61 bg_fromHolding, aJ K (q 43) 61 bg_fromOthers] H := hP.sub [0, 1, 2, 3] rfl
  have hD : va_D A [oX10 q, oX0 q, aJ K (q 42) 61 bg_fromHolding, aJ K (q 43) 61 bg_fromOthers] := hD.sub [0, 1, 2, 3] (by decide) rfl
  refine lv_if_eq (pc := 6) (tgt := 23) hx hb dX10_doubted_6 (by decide) (fun c_2 => ?_) (fun c_2 => ?_)
  · replace hw := hw.1 c_2
    refine lv_bipush (pc := 23) (v := (-2 : Int32)) hx hb dX10_doubted_23 (by decide) ?_
    exact hRetI (S := (Nat → Int64) × (Nat → Int64)) (bg_fromHolding, bg_fromOthers) hx hb hr hlocks hQ hw hP hK hD hS dX10_doubted_25
  · replace hw := hw.2 c_2
    refine lv_iload (pc := 9) hx hb dX10_doubted_9 (lv_at hl 4 rfl) ?_
    refine lv_iload_n (pc := 11) hx hb dX10_doubted_11 rfl (lv_at hl 3 rfl) ?_
    refine lv_iload_n (pc := 12) hx hb dX10_doubted_12 rfl (lv_at hl 1 rfl) ?_
    refine lv_iload_n (pc := 13) hx hb dX10_doubted_13 rfl (lv_at hl 2 rfl) ?_
    refine lv_isub (pc := 14) hx hb dX10_doubted_14 ?_
    refine lv_iload_n (pc := 15) hx hb dX10_doubted_15 rfl (lv_at hl 3 rfl) ?_
    refine lv_iadd (pc := 16) hx hb dX10_doubted_16 ?_
    refine hCallI (pc := 17) (wr := [oX10 q, oX0 q, aJ K (q 42) 61 bg_fromHolding, aJ K (q 43) 61 bg_fromOthers]) (wsf := fun (u : Unit) => []) [] [0, 1, 2, 3] (va_runS (As := [.int p4, .int p3, .int ((p1 - p2) + p3)]) (rest := []) ⟨hx, hb, hml, hown, hts⟩ (c_X10_within l G K tb q H.size _ p4 p3 ((p1 - p2) + p3) hw) (va_cwS 3 hts gX10_doubted_X10_within rfl rfl rfl (by decide +kernel) ⟨Nat.le_of_ble_eq_true rfl, Nat.le_of_ble_eq_true rfl⟩) (hPreS hE hP hK hD hS hA [] (by decide) rfl rfl) rfl rfl hl.1 rfl (lv_room (Nat.le_of_ble_eq_true rfl)) dX10_doubted_17 ⟨Nat.zero_le _, Nat.zero_le _⟩) hP hD hS hA rfl rfl (by decide) (by decide) (fun r_3 u H locs hw hP hD hS => ?_)
    have hP : va_P G vwCl [oX10 q, oX0 q, aJ K (q 42) 61 bg_fromHolding, aJ K (q 43) 61 bg_fromOthers] H := hP.sub [0, 1, 2, 3] rfl
    have hD : va_D A [oX10 q, oX0 q, aJ K (q 42) 61 bg_fromHolding, aJ K (q 43) 61 bg_fromOthers] := hD.sub [0, 1, 2, 3] (by decide) rfl
    refine lv_if_ne (pc := 20) (tgt := 26) hx hb dX10_doubted_20 (by decide) (fun c_4 => ?_) (fun c_4 => ?_)
    · replace hw := hw.2 c_4
      refine lv_aload_n (pc := 26) hx hb dX10_doubted_26 rfl (lv_at hl 0 rfl) ?_
      refine va_get (pc := 27) (D := G) (ci := 10) (v := .ref (q 41)) (C := RX10) (T := TX10) (N := 10) hx hb hts iw_X10_doubted_X10 hown hK hP 0 rfl rfl 8 (by decide) (hts _ (List.mem_of_getElem? (i := 1) rfl)) (fun _ h9 => h9) rfl dX10_doubted_27 ?_
      refine lv_iload_n (pc := 30) hx hb dX10_doubted_30 rfl (lv_at hl 1 rfl) ?_
      refine lv_iload_n (pc := 31) hx hb dX10_doubted_31 rfl (lv_at hl 2 rfl) ?_
      refine lv_iload_n (pc := 32) hx hb dX10_doubted_32 rfl (lv_at hl 3 rfl) ?_
      refine lv_iload (pc := 33) hx hb dX10_doubted_33 (lv_at hl 4 rfl) ?_
      refine hCallI (pc := 35) (wr := [oX10 q]) (wsf := fun (u : (Nat → Int64) × (Nat → Int64)) => [oX0 q, aJ K (q 42) 61 u.1, aJ K (q 43) 61 u.2]) [1, 2, 3] [0] (va_runVN (As := [.int p1, .int p2, .int p3, .int p4]) (rest := []) ⟨hx, hb, hml, hown, hts⟩ (c_X0_isDoubted l G K tb q H.size _ p1 p2 p3 p4 bg_fromHolding bg_fromOthers hw) ⟨va_cnB 4 hts gX10_doubted_X0_isDoubted_n250 rfl rfl rfl (hE.nw 68 rfl) (hts _ (List.mem_of_getElem? (i := 10) rfl)) (by decide +kernel) ⟨Nat.le_of_ble_eq_true rfl, Nat.le_of_ble_eq_true rfl⟩, (hts _ (List.mem_of_getElem? (i := 9) rfl)), (hts _ (List.mem_of_getElem? (i := 11) rfl))⟩ (hPreV hE hP hK hD hS hA [1, 2, 3] (by decide) rfl rfl rfl rfl (q0 := 1) (ci := 0) rfl) rfl rfl hl.1 rfl (lv_room (Nat.le_of_ble_eq_true rfl)) dX10_doubted_35 ⟨Nat.zero_le _, Nat.zero_le _⟩) hP hD hS hA rfl rfl (by decide) (by decide) (fun r_5 u H locs hw hP hD hS => ?_)
      obtain ⟨bg_fromHolding_6, bg_fromOthers_7⟩ := u
      have hP : va_P G vwCl [oX10 q, oX0 q, aJ K (q 42) 61 bg_fromHolding_6, aJ K (q 43) 61 bg_fromOthers_7] H := hP.sub [0, 1, 2, 3] rfl
      have hD : va_D A [oX10 q, oX0 q, aJ K (q 42) 61 bg_fromHolding_6, aJ K (q 43) 61 bg_fromOthers_7] := hD.sub [0, 1, 2, 3] (by decide) rfl
      have K_v_9 : ∀ v_9 : Int32, v_9 = (if r_5 = (0 : Int32) then (0 : Int32) else (1 : Int32)) → W p l e rm_X10_doubted s m av below meth c H locs 0 0 Q (F0 m 46 ls [.int v_9]) := by
        intro v_9 ev_9
        replace hw := hw v_9 ev_9
        exact hRetI (S := (Nat → Int64) × (Nat → Int64)) (bg_fromHolding_6, bg_fromOthers_7) hx hb hr hlocks hQ hw hP hK hD hS dX10_doubted_46
      refine lv_if_eq (pc := 38) (tgt := 45) hx hb dX10_doubted_38 (by decide) (fun c_8 => ?_) (fun c_8 => ?_)
      · skip
        refine lv_iconst (pc := 45) (v := (0 : Int32)) hx hb dX10_doubted_45 (by decide) ?_
        exact K_v_9 _ (by rw [if_pos c_8])
      · skip
        refine lv_iconst (pc := 41) (v := (1 : Int32)) hx hb dX10_doubted_41 (by decide) ?_
        refine lv_goto (pc := 42) (tgt := 46) hx hb dX10_doubted_42 (by decide) ?_
        exact K_v_9 _ (by rw [if_neg c_8])
    · replace hw := hw.1 c_4
      refine lv_bipush (pc := 23) (v := (-2 : Int32)) hx hb dX10_doubted_23 (by decide) ?_
      exact hRetI (S := (Nat → Int64) × (Nat → Int64)) (bg_fromHolding, bg_fromOthers) hx hb hr hlocks hQ hw hP hK hD hS dX10_doubted_25
def P_X10_drop (post : Int32 → (Nat → Int32) → Prop) (p1 : Int32) (wg_counts : Nat → Int32) (wg_size : Int32) : Prop :=
  P_X10_within (fun r_1 => ((r_1 = (0 : Int32) → post (-1 : Int32) wg_counts) ∧ (¬ r_1 = (0 : Int32) → P_X9_stop (fun r_3 wg_counts_4 => ∀ v_6 : Int32, v_6 = (if r_3 = (0 : Int32) then (-3 : Int32) else (1 : Int32)) → post v_6 wg_counts_4) p1 wg_counts))) p1 (0 : Int32) (wg_size - (1 : Int32))
abbrev rm_X10_drop : Room := { frames := 1, cells := 0, slots := 0, locals := 22 }
theorem iw_X10_drop_X10 : ∀ w ∈ wsX100, w ∈ wsX10_drop := by decide +kernel
theorem iw_X10_drop_X9 : ∀ w ∈ wsX90, w ∈ wsX10_drop := by decide +kernel
set_option maxHeartbeats 4000000 in
set_option maxRecDepth 100000 in
theorem c_X10_drop (l : Launch) (G : va_G) (K : ClassId × ClassId × ClassId) (tb q : Nat → Nat) (sz : Nat) (post : Int32 → (Nat → Int32) → Prop) (p1 : Int32) (wg_counts : Nat → Int32) (wg_size : Int32) (hw : P_X10_drop post p1 wg_counts wg_size) : Met l yX10_drop wsX10_drop rm_X10_drop (va_Pc [.ref (q 0), .int p1] (hPre G K tb [oX10 q, oX9 q wg_size, aZ K (q 11) 40 wg_counts] sz)) (va_Qi (fun (r : Int32) (u : (Nat → Int32)) => post r u) (fun u => hB G K (va_A [oX10 q, oX9 q wg_size, aZ K (q 11) 40 wg_counts] sz) [oX10 q, oX9 q wg_size, aZ K (q 11) 40 u]) (va_A [oX10 q, oX9 q wg_size, aZ K (q 11) 40 wg_counts] sz)) 0 0 (va_A [oX10 q, oX9 q wg_size, aZ K (q 11) 40 wg_counts] sz) := by
  refine hMet (fun A => va_Qi (fun (r : Int32) (u : (Nat → Int32)) => post r u) (fun u => hB G K A [oX10 q, oX9 q wg_size, aZ K (q 11) 40 u]) A) (by decide) rfl (Nat.le_of_ble_eq_true rfl) ?_
  intro p e s m av below meth c A Q ls hx hb hr hml hts hown hlocks hnm hA hP hK hD hS hE hQ hl
  have hts : ∀ w ∈ wsX10_drop, w.before av s = true := hts
  have hown : s.vm.findClass RX10 = some m.cls := hown
  have hl : lv_has ls 2 [(0, .ref (q 0)), (1, .int p1)] := hl
  unfold P_X10_drop at hw
  refine lv_iload_n (pc := 0) hx hb dX10_drop_0 rfl (lv_at hl 1 rfl) ?_
  refine lv_iconst (pc := 1) (v := (0 : Int32)) hx hb dX10_drop_1 (by decide) ?_
  refine lv_aload_n (pc := 2) hx hb dX10_drop_2 rfl (lv_at hl 0 rfl) ?_
  refine va_get (pc := 3) (D := G) (ci := 10) (v := .ref (q 7)) (C := RX10) (T := TX10) (N := 10) hx hb hts iw_X10_drop_X10 hown hK hP 0 rfl rfl 2 (by decide) (hts _ (List.mem_of_getElem? (i := 1) rfl)) (fun _ h9 => h9) rfl dX10_drop_3 ?_
  refine va_getN (pc := 6) (D := G) (host := RX10) (ci := 9) (v := .int wg_size) (C := RX9) (T := TX9) (N := 5) hx hb hts iw_X10_drop_X9 hown hK hP 1 rfl rfl 4 (by decide) (hE.use 5 rfl) (fun _ h9 => h9) rfl dX10_drop_6 ?_
  refine lv_iconst (pc := 9) (v := (1 : Int32)) hx hb dX10_drop_9 (by decide) ?_
  refine lv_isub (pc := 10) hx hb dX10_drop_10 ?_
  refine hCallI (pc := 11) (wr := [oX10 q, oX9 q wg_size, aZ K (q 11) 40 wg_counts]) (wsf := fun (u : Unit) => []) [] [0, 1, 2] (va_runS (As := [.int p1, .int (0 : Int32), .int (wg_size - (1 : Int32))]) (rest := []) ⟨hx, hb, hml, hown, hts⟩ (c_X10_within l G K tb q s.heap.size _ p1 (0 : Int32) (wg_size - (1 : Int32)) hw) (va_cwS 3 hts gX10_drop_X10_within rfl rfl rfl (by decide +kernel) ⟨Nat.le_of_ble_eq_true rfl, Nat.le_of_ble_eq_true rfl⟩) (hPreS hE hP hK hD hS hA [] (by decide) rfl rfl) rfl rfl hl.1 rfl (lv_room (Nat.le_of_ble_eq_true rfl)) dX10_drop_11 ⟨Nat.zero_le _, Nat.zero_le _⟩) hP hD hS hA rfl rfl (by decide) (by decide) (fun r_1 u H locs hw hP hD hS => ?_)
  have hP : va_P G vwCl [oX10 q, oX9 q wg_size, aZ K (q 11) 40 wg_counts] H := hP.sub [0, 1, 2] rfl
  have hD : va_D A [oX10 q, oX9 q wg_size, aZ K (q 11) 40 wg_counts] := hD.sub [0, 1, 2] (by decide) rfl
  refine lv_if_ne (pc := 14) (tgt := 19) hx hb dX10_drop_14 (by decide) (fun c_2 => ?_) (fun c_2 => ?_)
  · replace hw := hw.2 c_2
    refine lv_aload_n (pc := 19) hx hb dX10_drop_19 rfl (lv_at hl 0 rfl) ?_
    refine va_get (pc := 20) (D := G) (ci := 10) (v := .ref (q 7)) (C := RX10) (T := TX10) (N := 10) hx hb hts iw_X10_drop_X10 hown hK hP 0 rfl rfl 2 (by decide) (hts _ (List.mem_of_getElem? (i := 1) rfl)) (fun _ h9 => h9) rfl dX10_drop_20 ?_
    refine lv_iload_n (pc := 23) hx hb dX10_drop_23 rfl (lv_at hl 1 rfl) ?_
    refine hCallI (pc := 24) (wr := [oX10 q]) (wsf := fun (u : (Nat → Int32)) => [oX9 q wg_size, aZ K (q 11) 40 u]) [1, 2] [0] (va_runVN (As := [.int p1]) (rest := []) ⟨hx, hb, hml, hown, hts⟩ (c_X9_stop l G K tb q H.size wg_size _ p1 wg_counts hw) ⟨va_cnB 1 hts gX10_drop_X9_stop_n114 rfl rfl rfl (hE.nw 35 rfl) (hts _ (List.mem_of_getElem? (i := 7) rfl)) (by decide +kernel) ⟨Nat.le_of_ble_eq_true rfl, Nat.le_of_ble_eq_true rfl⟩, (hts _ (List.mem_of_getElem? (i := 6) rfl)), (hts _ (List.mem_of_getElem? (i := 8) rfl))⟩ (hPreV hE hP hK hD hS hA [1, 2] (by decide) rfl rfl rfl rfl (q0 := 1) (ci := 9) rfl) rfl rfl hl.1 rfl (lv_room (Nat.le_of_ble_eq_true rfl)) dX10_drop_24 ⟨Nat.zero_le _, Nat.zero_le _⟩) hP hD hS hA rfl rfl (by decide) (by decide) (fun r_3 u H locs hw hP hD hS => ?_)
    obtain ⟨wg_counts_4, rfl⟩ : ∃ z, z = u := ⟨_, rfl⟩
    have hP : va_P G vwCl [oX10 q, oX9 q wg_size, aZ K (q 11) 40 wg_counts_4] H := hP.sub [0, 1, 2] rfl
    have hD : va_D A [oX10 q, oX9 q wg_size, aZ K (q 11) 40 wg_counts_4] := hD.sub [0, 1, 2] (by decide) rfl
    have K_v_6 : ∀ v_6 : Int32, v_6 = (if r_3 = (0 : Int32) then (-3 : Int32) else (1 : Int32)) → W p l e rm_X10_drop s m av below meth c H locs 0 0 Q (F0 m 36 ls [.int v_6]) := by
      intro v_6 ev_6
      replace hw := hw v_6 ev_6
      exact hRetI (S := (Nat → Int32)) wg_counts_4 hx hb hr hlocks hQ hw hP hK hD hS dX10_drop_36
    refine lv_if_eq (pc := 27) (tgt := 34) hx hb dX10_drop_27 (by decide) (fun c_5 => ?_) (fun c_5 => ?_)
    · skip
      refine lv_bipush (pc := 34) (v := (-3 : Int32)) hx hb dX10_drop_34 (by decide) ?_
      exact K_v_6 _ (by rw [if_pos c_5])
    · skip
      refine lv_iconst (pc := 30) (v := (1 : Int32)) hx hb dX10_drop_30 (by decide) ?_
      refine lv_goto (pc := 31) (tgt := 36) hx hb dX10_drop_31 (by decide) ?_
      exact K_v_6 _ (by rw [if_neg c_5])
  · replace hw := hw.1 c_2
    refine lv_iconst (pc := 17) (v := (-1 : Int32)) hx hb dX10_drop_17 (by decide) ?_
    exact hRetI (S := (Nat → Int32)) wg_counts hx hb hr hlocks hQ hw hP hK hD hS dX10_drop_18
def P_X10_event (post : Int32 → (Nat → Int32) → (Nat → Int32) → (Nat → Int32) → (Nat → Int32) → (Nat → Int32) → Int32 → Prop) (p1 : Int32) (p2 : Int32) (p3 : Int32) (p4 : Int32) (kd_size : Int32) (ev_day : Nat → Int32) (ev_house : Nat → Int32) (ev_kind : Nat → Int32) (ev_need : Nat → Int32) (ev_on : Nat → Int32) (ev_size : Int32) : Prop :=
  P_X10_isCell (fun r_1 => ((r_1 = (0 : Int32) → post (-1 : Int32) ev_day ev_house ev_kind ev_need ev_on ev_size) ∧ (¬ r_1 = (0 : Int32) → P_X10_within (fun r_3 => ((r_3 = (0 : Int32) → post (-2 : Int32) ev_day ev_house ev_kind ev_need ev_on ev_size) ∧ (¬ r_3 = (0 : Int32) → P_X10_within (fun r_5 => ((r_5 = (0 : Int32) → post (-2 : Int32) ev_day ev_house ev_kind ev_need ev_on ev_size) ∧ (¬ r_5 = (0 : Int32) → ((ev_size < (12 : Int32) → P_X3_add (fun r_8 ev_day_9 ev_house_10 ev_kind_11 ev_need_12 ev_on_13 ev_size_14 => post r_8 ev_day_9 ev_house_10 ev_kind_11 ev_need_12 ev_on_13 ev_size_14) p1 p2 p3 p4 ev_day ev_house ev_kind ev_need ev_on ev_size) ∧ (¬ ev_size < (12 : Int32) → post (-4 : Int32) ev_day ev_house ev_kind ev_need ev_on ev_size))))) p4 (1 : Int32) (500 : Int32)))) p1 (0 : Int32) (999 : Int32)))) p2 p3 kd_size
abbrev rm_X10_event : Room := { frames := 3, cells := 0, slots := 0, locals := 65 }
theorem iw_X10_event_X10 : ∀ w ∈ wsX100, w ∈ wsX10_event := by decide +kernel
theorem iw_X10_event_X3 : ∀ w ∈ wsX30, w ∈ wsX10_event := by decide +kernel
set_option maxHeartbeats 4000000 in
set_option maxRecDepth 100000 in
theorem c_X10_event (l : Launch) (G : va_G) (K : ClassId × ClassId × ClassId) (tb q : Nat → Nat) (sz : Nat) (post : Int32 → (Nat → Int32) → (Nat → Int32) → (Nat → Int32) → (Nat → Int32) → (Nat → Int32) → Int32 → Prop) (p1 : Int32) (p2 : Int32) (p3 : Int32) (p4 : Int32) (kd_size : Int32) (ev_day : Nat → Int32) (ev_house : Nat → Int32) (ev_kind : Nat → Int32) (ev_need : Nat → Int32) (ev_on : Nat → Int32) (ev_size : Int32) (hw : P_X10_event post p1 p2 p3 p4 kd_size ev_day ev_house ev_kind ev_need ev_on ev_size) : Met l yX10_event wsX10_event rm_X10_event (va_Pc [.ref (q 0), .int p1, .int p2, .int p3, .int p4] (hPre G K tb [oX10 q, oX4 q kd_size, oX3 q ev_size, aI K (q 13) 12 ev_day, aI K (q 14) 12 ev_house, aI K (q 15) 12 ev_kind, aI K (q 16) 12 ev_need, aZ K (q 17) 12 ev_on] sz)) (va_Qi (fun (r : Int32) (u : (Nat → Int32) × (Nat → Int32) × (Nat → Int32) × (Nat → Int32) × (Nat → Int32) × Int32) => post r u.1 u.2.1 u.2.2.1 u.2.2.2.1 u.2.2.2.2.1 u.2.2.2.2.2) (fun u => hB G K (va_A [oX10 q, oX4 q kd_size, oX3 q ev_size, aI K (q 13) 12 ev_day, aI K (q 14) 12 ev_house, aI K (q 15) 12 ev_kind, aI K (q 16) 12 ev_need, aZ K (q 17) 12 ev_on] sz) [oX10 q, oX4 q kd_size, oX3 q u.2.2.2.2.2, aI K (q 13) 12 u.1, aI K (q 14) 12 u.2.1, aI K (q 15) 12 u.2.2.1, aI K (q 16) 12 u.2.2.2.1, aZ K (q 17) 12 u.2.2.2.2.1]) (va_A [oX10 q, oX4 q kd_size, oX3 q ev_size, aI K (q 13) 12 ev_day, aI K (q 14) 12 ev_house, aI K (q 15) 12 ev_kind, aI K (q 16) 12 ev_need, aZ K (q 17) 12 ev_on] sz)) 0 0 (va_A [oX10 q, oX4 q kd_size, oX3 q ev_size, aI K (q 13) 12 ev_day, aI K (q 14) 12 ev_house, aI K (q 15) 12 ev_kind, aI K (q 16) 12 ev_need, aZ K (q 17) 12 ev_on] sz) := by
  refine hMet (fun A => va_Qi (fun (r : Int32) (u : (Nat → Int32) × (Nat → Int32) × (Nat → Int32) × (Nat → Int32) × (Nat → Int32) × Int32) => post r u.1 u.2.1 u.2.2.1 u.2.2.2.1 u.2.2.2.2.1 u.2.2.2.2.2) (fun u => hB G K A [oX10 q, oX4 q kd_size, oX3 q u.2.2.2.2.2, aI K (q 13) 12 u.1, aI K (q 14) 12 u.2.1, aI K (q 15) 12 u.2.2.1, aI K (q 16) 12 u.2.2.2.1, aZ K (q 17) 12 u.2.2.2.2.1]) A) (by decide) rfl (Nat.le_of_ble_eq_true rfl) ?_
  intro p e s m av below meth c A Q ls hx hb hr hml hts hown hlocks hnm hA hP hK hD hS hE hQ hl
  have hts : ∀ w ∈ wsX10_event, w.before av s = true := hts
  have hown : s.vm.findClass RX10 = some m.cls := hown
  have hl : lv_has ls 5 [(0, .ref (q 0)), (1, .int p1), (2, .int p2), (3, .int p3), (4, .int p4)] := hl
  unfold P_X10_event at hw
  refine lv_aload_n (pc := 0) hx hb dX10_event_0 rfl (lv_at hl 0 rfl) ?_
  refine lv_iload_n (pc := 1) hx hb dX10_event_1 rfl (lv_at hl 2 rfl) ?_
  refine lv_iload_n (pc := 2) hx hb dX10_event_2 rfl (lv_at hl 3 rfl) ?_
  refine hCallI (pc := 3) (wr := [oX3 q ev_size, aI K (q 13) 12 ev_day, aI K (q 14) 12 ev_house, aI K (q 15) 12 ev_kind, aI K (q 16) 12 ev_need, aZ K (q 17) 12 ev_on]) (wsf := fun (u : Unit) => [oX10 q, oX4 q kd_size]) [0, 1] [2, 3, 4, 5, 6, 7] (va_runV (As := [.int p2, .int p3]) (rest := []) ⟨hx, hb, hml, hown, hts⟩ (c_X10_isCell l G K tb q s.heap.size _ p2 p3 kd_size hw) (cwV 2 hts gX10_event_X10_isCell rfl rfl rfl (by decide +kernel) ⟨Nat.le_of_ble_eq_true rfl, Nat.le_of_ble_eq_true rfl⟩) (hPreV hE hP hK hD hS hA [0, 1] (by decide) rfl rfl rfl rfl (q0 := 0) (ci := 10) rfl) rfl rfl hl.1 rfl (lv_room (Nat.le_of_ble_eq_true rfl)) dX10_event_3 ⟨Nat.zero_le _, Nat.zero_le _⟩) hP hD hS hA rfl rfl (by decide) (by decide) (fun r_1 u H locs hw hP hD hS => ?_)
  have hP : va_P G vwCl [oX10 q, oX4 q kd_size, oX3 q ev_size, aI K (q 13) 12 ev_day, aI K (q 14) 12 ev_house, aI K (q 15) 12 ev_kind, aI K (q 16) 12 ev_need, aZ K (q 17) 12 ev_on] H := hP.sub [6, 7, 0, 1, 2, 3, 4, 5] rfl
  have hD : va_D A [oX10 q, oX4 q kd_size, oX3 q ev_size, aI K (q 13) 12 ev_day, aI K (q 14) 12 ev_house, aI K (q 15) 12 ev_kind, aI K (q 16) 12 ev_need, aZ K (q 17) 12 ev_on] := hD.sub [6, 7, 0, 1, 2, 3, 4, 5] (by decide) rfl
  refine lv_if_ne (pc := 6) (tgt := 11) hx hb dX10_event_6 (by decide) (fun c_2 => ?_) (fun c_2 => ?_)
  · replace hw := hw.2 c_2
    refine lv_iload_n (pc := 11) hx hb dX10_event_11 rfl (lv_at hl 1 rfl) ?_
    refine lv_iconst (pc := 12) (v := (0 : Int32)) hx hb dX10_event_12 (by decide) ?_
    refine lv_sipush (pc := 13) (v := (999 : Int32)) hx hb dX10_event_13 (by decide) ?_
    refine hCallI (pc := 16) (wr := [oX10 q, oX4 q kd_size, oX3 q ev_size, aI K (q 13) 12 ev_day, aI K (q 14) 12 ev_house, aI K (q 15) 12 ev_kind, aI K (q 16) 12 ev_need, aZ K (q 17) 12 ev_on]) (wsf := fun (u : Unit) => []) [] [0, 1, 2, 3, 4, 5, 6, 7] (va_runS (As := [.int p1, .int (0 : Int32), .int (999 : Int32)]) (rest := []) ⟨hx, hb, hml, hown, hts⟩ (c_X10_within l G K tb q H.size _ p1 (0 : Int32) (999 : Int32) hw) (va_cwS 3 hts gX10_event_X10_within rfl rfl rfl (by decide +kernel) ⟨Nat.le_of_ble_eq_true rfl, Nat.le_of_ble_eq_true rfl⟩) (hPreS hE hP hK hD hS hA [] (by decide) rfl rfl) rfl rfl hl.1 rfl (lv_room (Nat.le_of_ble_eq_true rfl)) dX10_event_16 ⟨Nat.zero_le _, Nat.zero_le _⟩) hP hD hS hA rfl rfl (by decide) (by decide) (fun r_3 u H locs hw hP hD hS => ?_)
    have hP : va_P G vwCl [oX10 q, oX4 q kd_size, oX3 q ev_size, aI K (q 13) 12 ev_day, aI K (q 14) 12 ev_house, aI K (q 15) 12 ev_kind, aI K (q 16) 12 ev_need, aZ K (q 17) 12 ev_on] H := hP.sub [0, 1, 2, 3, 4, 5, 6, 7] rfl
    have hD : va_D A [oX10 q, oX4 q kd_size, oX3 q ev_size, aI K (q 13) 12 ev_day, aI K (q 14) 12 ev_house, aI K (q 15) 12 ev_kind, aI K (q 16) 12 ev_need, aZ K (q 17) 12 ev_on] := hD.sub [0, 1, 2, 3, 4, 5, 6, 7] (by decide) rfl
    refine lv_if_eq (pc := 19) (tgt := 34) hx hb dX10_event_19 (by decide) (fun c_4 => ?_) (fun c_4 => ?_)
    · replace hw := hw.1 c_4
      refine lv_bipush (pc := 34) (v := (-2 : Int32)) hx hb dX10_event_34 (by decide) ?_
      exact hRetI (S := (Nat → Int32) × (Nat → Int32) × (Nat → Int32) × (Nat → Int32) × (Nat → Int32) × Int32) (ev_day, ev_house, ev_kind, ev_need, ev_on, ev_size) hx hb hr hlocks hQ hw hP hK hD hS dX10_event_36
    · replace hw := hw.2 c_4
      refine lv_iload (pc := 22) hx hb dX10_event_22 (lv_at hl 4 rfl) ?_
      refine lv_iconst (pc := 24) (v := (1 : Int32)) hx hb dX10_event_24 (by decide) ?_
      refine lv_sipush (pc := 25) (v := (500 : Int32)) hx hb dX10_event_25 (by decide) ?_
      refine hCallI (pc := 28) (wr := [oX10 q, oX4 q kd_size, oX3 q ev_size, aI K (q 13) 12 ev_day, aI K (q 14) 12 ev_house, aI K (q 15) 12 ev_kind, aI K (q 16) 12 ev_need, aZ K (q 17) 12 ev_on]) (wsf := fun (u : Unit) => []) [] [0, 1, 2, 3, 4, 5, 6, 7] (va_runS (As := [.int p4, .int (1 : Int32), .int (500 : Int32)]) (rest := []) ⟨hx, hb, hml, hown, hts⟩ (c_X10_within l G K tb q H.size _ p4 (1 : Int32) (500 : Int32) hw) (va_cwS 3 hts gX10_event_X10_within rfl rfl rfl (by decide +kernel) ⟨Nat.le_of_ble_eq_true rfl, Nat.le_of_ble_eq_true rfl⟩) (hPreS hE hP hK hD hS hA [] (by decide) rfl rfl) rfl rfl hl.1 rfl (lv_room (Nat.le_of_ble_eq_true rfl)) dX10_event_28 ⟨Nat.zero_le _, Nat.zero_le _⟩) hP hD hS hA rfl rfl (by decide) (by decide) (fun r_5 u H locs hw hP hD hS => ?_)
      have hP : va_P G vwCl [oX10 q, oX4 q kd_size, oX3 q ev_size, aI K (q 13) 12 ev_day, aI K (q 14) 12 ev_house, aI K (q 15) 12 ev_kind, aI K (q 16) 12 ev_need, aZ K (q 17) 12 ev_on] H := hP.sub [0, 1, 2, 3, 4, 5, 6, 7] rfl
      have hD : va_D A [oX10 q, oX4 q kd_size, oX3 q ev_size, aI K (q 13) 12 ev_day, aI K (q 14) 12 ev_house, aI K (q 15) 12 ev_kind, aI K (q 16) 12 ev_need, aZ K (q 17) 12 ev_on] := hD.sub [0, 1, 2, 3, 4, 5, 6, 7] (by decide) rfl
      refine lv_if_ne (pc := 31) (tgt := 37) hx hb dX10_event_31 (by decide) (fun c_6 => ?_) (fun c_6 => ?_)
      · replace hw := hw.2 c_6
        refine lv_aload_n (pc := 37) hx hb dX10_event_37 rfl (lv_at hl 0 rfl) ?_
        refine va_get (pc := 38) (D := G) (ci := 10) (v := .ref (q 12)) (C := RX10) (T := TX10) (N := 10) hx hb hts iw_X10_event_X10 hown hK hP 0 rfl rfl 3 (by decide) (hts _ (List.mem_of_getElem? (i := 1) rfl)) (fun _ h9 => h9) rfl dX10_event_38 ?_
        refine va_getN (pc := 41) (D := G) (host := RX10) (ci := 3) (v := .int ev_size) (C := RX3) (T := TX3) (N := 6) hx hb hts iw_X10_event_X3 hown hK hP 2 rfl rfl 5 (by decide) (hE.use 15 rfl) (fun _ h9 => h9) rfl dX10_event_41 ?_
        refine lv_bipush (pc := 44) (v := (12 : Int32)) hx hb dX10_event_44 (by decide) ?_
        refine lv_icmp_lt (pc := 46) (tgt := 54) hx hb dX10_event_46 (by decide) (fun c_7 => ?_) (fun c_7 => ?_)
        · replace hw := hw.1 c_7
          refine lv_aload_n (pc := 54) hx hb dX10_event_54 rfl (lv_at hl 0 rfl) ?_
          refine va_get (pc := 55) (D := G) (ci := 10) (v := .ref (q 12)) (C := RX10) (T := TX10) (N := 10) hx hb hts iw_X10_event_X10 hown hK hP 0 rfl rfl 3 (by decide) (hts _ (List.mem_of_getElem? (i := 1) rfl)) (fun _ h9 => h9) rfl dX10_event_55 ?_
          refine lv_iload_n (pc := 58) hx hb dX10_event_58 rfl (lv_at hl 1 rfl) ?_
          refine lv_iload_n (pc := 59) hx hb dX10_event_59 rfl (lv_at hl 2 rfl) ?_
          refine lv_iload_n (pc := 60) hx hb dX10_event_60 rfl (lv_at hl 3 rfl) ?_
          refine lv_iload (pc := 61) hx hb dX10_event_61 (lv_at hl 4 rfl) ?_
          refine hCallI (pc := 63) (wr := [oX10 q, oX4 q kd_size]) (wsf := fun (u : (Nat → Int32) × (Nat → Int32) × (Nat → Int32) × (Nat → Int32) × (Nat → Int32) × Int32) => [oX3 q u.2.2.2.2.2, aI K (q 13) 12 u.1, aI K (q 14) 12 u.2.1, aI K (q 15) 12 u.2.2.1, aI K (q 16) 12 u.2.2.2.1, aZ K (q 17) 12 u.2.2.2.2.1]) [2, 3, 4, 5, 6, 7] [0, 1] (va_runVN (As := [.int p1, .int p2, .int p3, .int p4]) (rest := []) ⟨hx, hb, hml, hown, hts⟩ (c_X3_add l G K tb q H.size _ p1 p2 p3 p4 ev_day ev_house ev_kind ev_need ev_on ev_size hw) ⟨va_cnB 4 hts gX10_event_X3_add_n153 rfl rfl rfl (hE.nw 43 rfl) (hts _ (List.mem_of_getElem? (i := 20) rfl)) (by decide +kernel) ⟨Nat.le_of_ble_eq_true rfl, Nat.le_of_ble_eq_true rfl⟩, (hts _ (List.mem_of_getElem? (i := 19) rfl)), (hts _ (List.mem_of_getElem? (i := 21) rfl))⟩ (hPreV hE hP hK hD hS hA [2, 3, 4, 5, 6, 7] (by decide) rfl rfl rfl rfl (q0 := 2) (ci := 3) rfl) rfl rfl hl.1 rfl (lv_room (Nat.le_of_ble_eq_true rfl)) dX10_event_63 ⟨Nat.zero_le _, Nat.zero_le _⟩) hP hD hS hA rfl rfl (by decide) (by decide) (fun r_8 u H locs hw hP hD hS => ?_)
          obtain ⟨ev_day_9, ev_house_10, ev_kind_11, ev_need_12, ev_on_13, ev_size_14⟩ := u
          have hP : va_P G vwCl [oX10 q, oX4 q kd_size, oX3 q ev_size_14, aI K (q 13) 12 ev_day_9, aI K (q 14) 12 ev_house_10, aI K (q 15) 12 ev_kind_11, aI K (q 16) 12 ev_need_12, aZ K (q 17) 12 ev_on_13] H := hP.sub [0, 1, 2, 3, 4, 5, 6, 7] rfl
          have hD : va_D A [oX10 q, oX4 q kd_size, oX3 q ev_size_14, aI K (q 13) 12 ev_day_9, aI K (q 14) 12 ev_house_10, aI K (q 15) 12 ev_kind_11, aI K (q 16) 12 ev_need_12, aZ K (q 17) 12 ev_on_13] := hD.sub [0, 1, 2, 3, 4, 5, 6, 7] (by decide) rfl
          exact hRetI (S := (Nat → Int32) × (Nat → Int32) × (Nat → Int32) × (Nat → Int32) × (Nat → Int32) × Int32) (ev_day_9, ev_house_10, ev_kind_11, ev_need_12, ev_on_13, ev_size_14) hx hb hr hlocks hQ hw hP hK hD hS dX10_event_66
        · replace hw := hw.2 c_7
          refine lv_bipush (pc := 49) (v := (-4 : Int32)) hx hb dX10_event_49 (by decide) ?_
          refine lv_goto (pc := 51) (tgt := 66) hx hb dX10_event_51 (by decide) ?_
          exact hRetI (S := (Nat → Int32) × (Nat → Int32) × (Nat → Int32) × (Nat → Int32) × (Nat → Int32) × Int32) (ev_day, ev_house, ev_kind, ev_need, ev_on, ev_size) hx hb hr hlocks hQ hw hP hK hD hS dX10_event_66
      · replace hw := hw.1 c_6
        refine lv_bipush (pc := 34) (v := (-2 : Int32)) hx hb dX10_event_34 (by decide) ?_
        exact hRetI (S := (Nat → Int32) × (Nat → Int32) × (Nat → Int32) × (Nat → Int32) × (Nat → Int32) × Int32) (ev_day, ev_house, ev_kind, ev_need, ev_on, ev_size) hx hb hr hlocks hQ hw hP hK hD hS dX10_event_36
  · replace hw := hw.1 c_2
    refine lv_iconst (pc := 9) (v := (-1 : Int32)) hx hb dX10_event_9 (by decide) ?_
    exact hRetI (S := (Nat → Int32) × (Nat → Int32) × (Nat → Int32) × (Nat → Int32) × (Nat → Int32) × Int32) (ev_day, ev_house, ev_kind, ev_need, ev_on, ev_size) hx hb hr hlocks hQ hw hP hK hD hS dX10_event_10
def P_X10_farness (post : Int32 → (Nat → Int32) → Prop) (p1 : Int32) (p2 : Int32) (p3 : Int32) (ca_far : Nat → Int32) : Prop :=
  P_X10_isHouse (fun r_1 => ((r_1 = (0 : Int32) → post (-1 : Int32) ca_far) ∧ (¬ r_1 = (0 : Int32) → P_X10_isHouse (fun r_3 => ((r_3 = (0 : Int32) → post (-1 : Int32) ca_far) ∧ (¬ r_3 = (0 : Int32) → P_X10_within (fun r_5 => ((r_5 = (0 : Int32) → post (-2 : Int32) ca_far) ∧ (¬ r_5 = (0 : Int32) → ((p1 = p2 → post (-3 : Int32) ca_far) ∧ (¬ p1 = p2 → P_X2_setFar (fun r_8 ca_far_9 => post r_8 ca_far_9) p1 p2 p3 ca_far))))) p3 (0 : Int32) (99 : Int32)))) p2))) p1
abbrev rm_X10_farness : Room := { frames := 2, cells := 0, slots := 0, locals := 42 }
theorem iw_X10_farness_X10 : ∀ w ∈ wsX100, w ∈ wsX10_farness := by decide +kernel
set_option maxHeartbeats 4000000 in
set_option maxRecDepth 100000 in
theorem c_X10_farness (l : Launch) (G : va_G) (K : ClassId × ClassId × ClassId) (tb q : Nat → Nat) (sz : Nat) (ca_size : Int32) (post : Int32 → (Nat → Int32) → Prop) (p1 : Int32) (p2 : Int32) (p3 : Int32) (ca_far : Nat → Int32) (hw : P_X10_farness post p1 p2 p3 ca_far) : Met l yX10_farness wsX10_farness rm_X10_farness (va_Pc [.ref (q 0), .int p1, .int p2, .int p3] (hPre G K tb [oX10 q, oX2 q ca_size, aI K (q 19) 25 ca_far] sz)) (va_Qi (fun (r : Int32) (u : (Nat → Int32)) => post r u) (fun u => hB G K (va_A [oX10 q, oX2 q ca_size, aI K (q 19) 25 ca_far] sz) [oX10 q, oX2 q ca_size, aI K (q 19) 25 u]) (va_A [oX10 q, oX2 q ca_size, aI K (q 19) 25 ca_far] sz)) 0 0 (va_A [oX10 q, oX2 q ca_size, aI K (q 19) 25 ca_far] sz) := by
  refine hMet (fun A => va_Qi (fun (r : Int32) (u : (Nat → Int32)) => post r u) (fun u => hB G K A [oX10 q, oX2 q ca_size, aI K (q 19) 25 u]) A) (by decide) rfl (Nat.le_of_ble_eq_true rfl) ?_
  intro p e s m av below meth c A Q ls hx hb hr hml hts hown hlocks hnm hA hP hK hD hS hE hQ hl
  have hts : ∀ w ∈ wsX10_farness, w.before av s = true := hts
  have hown : s.vm.findClass RX10 = some m.cls := hown
  have hl : lv_has ls 4 [(0, .ref (q 0)), (1, .int p1), (2, .int p2), (3, .int p3)] := hl
  unfold P_X10_farness at hw
  refine lv_iload_n (pc := 0) hx hb dX10_farness_0 rfl (lv_at hl 1 rfl) ?_
  refine hCallI (pc := 1) (wr := [oX10 q, oX2 q ca_size, aI K (q 19) 25 ca_far]) (wsf := fun (u : Unit) => []) [] [0, 1, 2] (va_runS (As := [.int p1]) (rest := []) ⟨hx, hb, hml, hown, hts⟩ (c_X10_isHouse l G K tb q s.heap.size _ p1 hw) (va_cwS 1 hts gX10_farness_X10_isHouse rfl rfl rfl (by decide +kernel) ⟨Nat.le_of_ble_eq_true rfl, Nat.le_of_ble_eq_true rfl⟩) (hPreS hE hP hK hD hS hA [] (by decide) rfl rfl) rfl rfl hl.1 rfl (lv_room (Nat.le_of_ble_eq_true rfl)) dX10_farness_1 ⟨Nat.zero_le _, Nat.zero_le _⟩) hP hD hS hA rfl rfl (by decide) (by decide) (fun r_1 u H locs hw hP hD hS => ?_)
  have hP : va_P G vwCl [oX10 q, oX2 q ca_size, aI K (q 19) 25 ca_far] H := hP.sub [0, 1, 2] rfl
  have hD : va_D A [oX10 q, oX2 q ca_size, aI K (q 19) 25 ca_far] := hD.sub [0, 1, 2] (by decide) rfl
  refine lv_if_eq (pc := 4) (tgt := 14) hx hb dX10_farness_4 (by decide) (fun c_2 => ?_) (fun c_2 => ?_)
  · replace hw := hw.1 c_2
    refine lv_iconst (pc := 14) (v := (-1 : Int32)) hx hb dX10_farness_14 (by decide) ?_
    exact hRetI (S := (Nat → Int32)) ca_far hx hb hr hlocks hQ hw hP hK hD hS dX10_farness_15
  · replace hw := hw.2 c_2
    refine lv_iload_n (pc := 7) hx hb dX10_farness_7 rfl (lv_at hl 2 rfl) ?_
    refine hCallI (pc := 8) (wr := [oX10 q, oX2 q ca_size, aI K (q 19) 25 ca_far]) (wsf := fun (u : Unit) => []) [] [0, 1, 2] (va_runS (As := [.int p2]) (rest := []) ⟨hx, hb, hml, hown, hts⟩ (c_X10_isHouse l G K tb q H.size _ p2 hw) (va_cwS 1 hts gX10_farness_X10_isHouse rfl rfl rfl (by decide +kernel) ⟨Nat.le_of_ble_eq_true rfl, Nat.le_of_ble_eq_true rfl⟩) (hPreS hE hP hK hD hS hA [] (by decide) rfl rfl) rfl rfl hl.1 rfl (lv_room (Nat.le_of_ble_eq_true rfl)) dX10_farness_8 ⟨Nat.zero_le _, Nat.zero_le _⟩) hP hD hS hA rfl rfl (by decide) (by decide) (fun r_3 u H locs hw hP hD hS => ?_)
    have hP : va_P G vwCl [oX10 q, oX2 q ca_size, aI K (q 19) 25 ca_far] H := hP.sub [0, 1, 2] rfl
    have hD : va_D A [oX10 q, oX2 q ca_size, aI K (q 19) 25 ca_far] := hD.sub [0, 1, 2] (by decide) rfl
    refine lv_if_ne (pc := 11) (tgt := 16) hx hb dX10_farness_11 (by decide) (fun c_4 => ?_) (fun c_4 => ?_)
    · replace hw := hw.2 c_4
      refine lv_iload_n (pc := 16) hx hb dX10_farness_16 rfl (lv_at hl 3 rfl) ?_
      refine lv_iconst (pc := 17) (v := (0 : Int32)) hx hb dX10_farness_17 (by decide) ?_
      refine lv_bipush (pc := 18) (v := (99 : Int32)) hx hb dX10_farness_18 (by decide) ?_
      refine hCallI (pc := 20) (wr := [oX10 q, oX2 q ca_size, aI K (q 19) 25 ca_far]) (wsf := fun (u : Unit) => []) [] [0, 1, 2] (va_runS (As := [.int p3, .int (0 : Int32), .int (99 : Int32)]) (rest := []) ⟨hx, hb, hml, hown, hts⟩ (c_X10_within l G K tb q H.size _ p3 (0 : Int32) (99 : Int32) hw) (va_cwS 3 hts gX10_farness_X10_within rfl rfl rfl (by decide +kernel) ⟨Nat.le_of_ble_eq_true rfl, Nat.le_of_ble_eq_true rfl⟩) (hPreS hE hP hK hD hS hA [] (by decide) rfl rfl) rfl rfl hl.1 rfl (lv_room (Nat.le_of_ble_eq_true rfl)) dX10_farness_20 ⟨Nat.zero_le _, Nat.zero_le _⟩) hP hD hS hA rfl rfl (by decide) (by decide) (fun r_5 u H locs hw hP hD hS => ?_)
      have hP : va_P G vwCl [oX10 q, oX2 q ca_size, aI K (q 19) 25 ca_far] H := hP.sub [0, 1, 2] rfl
      have hD : va_D A [oX10 q, oX2 q ca_size, aI K (q 19) 25 ca_far] := hD.sub [0, 1, 2] (by decide) rfl
      refine lv_if_ne (pc := 23) (tgt := 29) hx hb dX10_farness_23 (by decide) (fun c_6 => ?_) (fun c_6 => ?_)
      · replace hw := hw.2 c_6
        refine lv_iload_n (pc := 29) hx hb dX10_farness_29 rfl (lv_at hl 1 rfl) ?_
        refine lv_iload_n (pc := 30) hx hb dX10_farness_30 rfl (lv_at hl 2 rfl) ?_
        refine lv_icmp_ne (pc := 31) (tgt := 39) hx hb dX10_farness_31 (by decide) (fun c_7 => ?_) (fun c_7 => ?_)
        · replace hw := hw.2 c_7
          refine lv_aload_n (pc := 39) hx hb dX10_farness_39 rfl (lv_at hl 0 rfl) ?_
          refine va_get (pc := 40) (D := G) (ci := 10) (v := .ref (q 18)) (C := RX10) (T := TX10) (N := 10) hx hb hts iw_X10_farness_X10 hown hK hP 0 rfl rfl 4 (by decide) (hts _ (List.mem_of_getElem? (i := 1) rfl)) (fun _ h9 => h9) rfl dX10_farness_40 ?_
          refine lv_iload_n (pc := 43) hx hb dX10_farness_43 rfl (lv_at hl 1 rfl) ?_
          refine lv_iload_n (pc := 44) hx hb dX10_farness_44 rfl (lv_at hl 2 rfl) ?_
          refine lv_iload_n (pc := 45) hx hb dX10_farness_45 rfl (lv_at hl 3 rfl) ?_
          refine hCallI (pc := 46) (wr := [oX10 q]) (wsf := fun (u : (Nat → Int32)) => [oX2 q ca_size, aI K (q 19) 25 u]) [1, 2] [0] (va_runVN (As := [.int p1, .int p2, .int p3]) (rest := []) ⟨hx, hb, hml, hown, hts⟩ (c_X2_setFar l G K tb q H.size ca_size _ p1 p2 p3 ca_far hw) ⟨va_cnB 3 hts gX10_farness_X2_setFar_n149 rfl rfl rfl (hE.nw 42 rfl) (hts _ (List.mem_of_getElem? (i := 10) rfl)) (by decide +kernel) ⟨Nat.le_of_ble_eq_true rfl, Nat.le_of_ble_eq_true rfl⟩, (hts _ (List.mem_of_getElem? (i := 9) rfl)), (hts _ (List.mem_of_getElem? (i := 11) rfl))⟩ (hPreV hE hP hK hD hS hA [1, 2] (by decide) rfl rfl rfl rfl (q0 := 1) (ci := 2) rfl) rfl rfl hl.1 rfl (lv_room (Nat.le_of_ble_eq_true rfl)) dX10_farness_46 ⟨Nat.zero_le _, Nat.zero_le _⟩) hP hD hS hA rfl rfl (by decide) (by decide) (fun r_8 u H locs hw hP hD hS => ?_)
          obtain ⟨ca_far_9, rfl⟩ : ∃ z, z = u := ⟨_, rfl⟩
          have hP : va_P G vwCl [oX10 q, oX2 q ca_size, aI K (q 19) 25 ca_far_9] H := hP.sub [0, 1, 2] rfl
          have hD : va_D A [oX10 q, oX2 q ca_size, aI K (q 19) 25 ca_far_9] := hD.sub [0, 1, 2] (by decide) rfl
          exact hRetI (S := (Nat → Int32)) ca_far_9 hx hb hr hlocks hQ hw hP hK hD hS dX10_farness_49
        · replace hw := hw.1 c_7
          refine lv_bipush (pc := 34) (v := (-3 : Int32)) hx hb dX10_farness_34 (by decide) ?_
          refine lv_goto (pc := 36) (tgt := 49) hx hb dX10_farness_36 (by decide) ?_
          exact hRetI (S := (Nat → Int32)) ca_far hx hb hr hlocks hQ hw hP hK hD hS dX10_farness_49
      · replace hw := hw.1 c_6
        refine lv_bipush (pc := 26) (v := (-2 : Int32)) hx hb dX10_farness_26 (by decide) ?_
        exact hRetI (S := (Nat → Int32)) ca_far hx hb hr hlocks hQ hw hP hK hD hS dX10_farness_28
    · replace hw := hw.1 c_4
      refine lv_iconst (pc := 14) (v := (-1 : Int32)) hx hb dX10_farness_14 (by decide) ?_
      exact hRetI (S := (Nat → Int32)) ca_far hx hb hr hlocks hQ hw hP hK hD hS dX10_farness_15
def P_X10_inNeed (post : Int32 → (Nat → Int32) → (Nat → Int32) → Int32 → Prop) (p1 : Int32) (kd_size : Int32) (st_booked : Nat → Int32) (ev_day : Nat → Int32) (ev_kind : Nat → Int32) (ev_need : Nat → Int32) (ev_on : Nat → Int32) (ev_size : Int32) (ca_served : Nat → Int32) (ca_rank : Nat → Int32) (ca_size : Int32) : Prop :=
  P_X4_has (fun r_1 => ((r_1 = (0 : Int32) → post (-1 : Int32) ca_served ca_rank ca_size) ∧ (¬ r_1 = (0 : Int32) → P_X2_firstShortDay (fun r_3 ca_served_4 ca_rank_5 ca_size_6 => post r_3 ca_served_4 ca_rank_5 ca_size_6) p1 st_booked ev_day ev_kind ev_need ev_on ev_size ca_served ca_rank ca_size))) p1 kd_size
abbrev rm_X10_inNeed : Room := { frames := 3, cells := 0, slots := 0, locals := 72 }
theorem iw_X10_inNeed_X10 : ∀ w ∈ wsX100, w ∈ wsX10_inNeed := by decide +kernel
set_option maxHeartbeats 4000000 in
set_option maxRecDepth 100000 in
theorem c_X10_inNeed (l : Launch) (G : va_G) (K : ClassId × ClassId × ClassId) (tb q : Nat → Nat) (sz : Nat) (post : Int32 → (Nat → Int32) → (Nat → Int32) → Int32 → Prop) (p1 : Int32) (kd_size : Int32) (st_booked : Nat → Int32) (ev_day : Nat → Int32) (ev_kind : Nat → Int32) (ev_need : Nat → Int32) (ev_on : Nat → Int32) (ev_size : Int32) (ca_served : Nat → Int32) (ca_rank : Nat → Int32) (ca_size : Int32) (hw : P_X10_inNeed post p1 kd_size st_booked ev_day ev_kind ev_need ev_on ev_size ca_served ca_rank ca_size) : Met l yX10_inNeed wsX10_inNeed rm_X10_inNeed (va_Pc [.ref (q 0), .int p1] (hPre G K tb [oX10 q, oX4 q kd_size, oX8 q, aI K (q 5) 30 st_booked, oX3 q ev_size, aI K (q 13) 12 ev_day, aI K (q 15) 12 ev_kind, aI K (q 16) 12 ev_need, aZ K (q 17) 12 ev_on, oX2 q ca_size, aI K (q 21) 12 ca_served, aI K (q 22) 12 ca_rank] sz)) (va_Qi (fun (r : Int32) (u : (Nat → Int32) × (Nat → Int32) × Int32) => post r u.1 u.2.1 u.2.2) (fun u => hB G K (va_A [oX10 q, oX4 q kd_size, oX8 q, aI K (q 5) 30 st_booked, oX3 q ev_size, aI K (q 13) 12 ev_day, aI K (q 15) 12 ev_kind, aI K (q 16) 12 ev_need, aZ K (q 17) 12 ev_on, oX2 q ca_size, aI K (q 21) 12 ca_served, aI K (q 22) 12 ca_rank] sz) [oX10 q, oX4 q kd_size, oX8 q, aI K (q 5) 30 st_booked, oX3 q ev_size, aI K (q 13) 12 ev_day, aI K (q 15) 12 ev_kind, aI K (q 16) 12 ev_need, aZ K (q 17) 12 ev_on, oX2 q u.2.2, aI K (q 21) 12 u.1, aI K (q 22) 12 u.2.1]) (va_A [oX10 q, oX4 q kd_size, oX8 q, aI K (q 5) 30 st_booked, oX3 q ev_size, aI K (q 13) 12 ev_day, aI K (q 15) 12 ev_kind, aI K (q 16) 12 ev_need, aZ K (q 17) 12 ev_on, oX2 q ca_size, aI K (q 21) 12 ca_served, aI K (q 22) 12 ca_rank] sz)) 0 0 (va_A [oX10 q, oX4 q kd_size, oX8 q, aI K (q 5) 30 st_booked, oX3 q ev_size, aI K (q 13) 12 ev_day, aI K (q 15) 12 ev_kind, aI K (q 16) 12 ev_need, aZ K (q 17) 12 ev_on, oX2 q ca_size, aI K (q 21) 12 ca_served, aI K (q 22) 12 ca_rank] sz) := by
  refine hMet (fun A => va_Qi (fun (r : Int32) (u : (Nat → Int32) × (Nat → Int32) × Int32) => post r u.1 u.2.1 u.2.2) (fun u => hB G K A [oX10 q, oX4 q kd_size, oX8 q, aI K (q 5) 30 st_booked, oX3 q ev_size, aI K (q 13) 12 ev_day, aI K (q 15) 12 ev_kind, aI K (q 16) 12 ev_need, aZ K (q 17) 12 ev_on, oX2 q u.2.2, aI K (q 21) 12 u.1, aI K (q 22) 12 u.2.1]) A) (by decide) rfl (Nat.le_of_ble_eq_true rfl) ?_
  intro p e s m av below meth c A Q ls hx hb hr hml hts hown hlocks hnm hA hP hK hD hS hE hQ hl
  have hts : ∀ w ∈ wsX10_inNeed, w.before av s = true := hts
  have hown : s.vm.findClass RX10 = some m.cls := hown
  have hl : lv_has ls 2 [(0, .ref (q 0)), (1, .int p1)] := hl
  unfold P_X10_inNeed at hw
  refine lv_aload_n (pc := 0) hx hb dX10_inNeed_0 rfl (lv_at hl 0 rfl) ?_
  refine va_get (pc := 1) (D := G) (ci := 10) (v := .ref (q 1)) (C := RX10) (T := TX10) (N := 10) hx hb hts iw_X10_inNeed_X10 hown hK hP 0 rfl rfl 0 (by decide) (hts _ (List.mem_of_getElem? (i := 1) rfl)) (fun _ h9 => h9) rfl dX10_inNeed_1 ?_
  refine lv_iload_n (pc := 4) hx hb dX10_inNeed_4 rfl (lv_at hl 1 rfl) ?_
  refine hCallI (pc := 5) (wr := [oX10 q, oX8 q, aI K (q 5) 30 st_booked, oX3 q ev_size, aI K (q 13) 12 ev_day, aI K (q 15) 12 ev_kind, aI K (q 16) 12 ev_need, aZ K (q 17) 12 ev_on, oX2 q ca_size, aI K (q 21) 12 ca_served, aI K (q 22) 12 ca_rank]) (wsf := fun (u : Unit) => [oX4 q kd_size]) [1] [0, 2, 3, 4, 5, 6, 7, 8, 9, 10, 11] (va_runVN (As := [.int p1]) (rest := []) ⟨hx, hb, hml, hown, hts⟩ (c_X4_has l G K tb q s.heap.size _ p1 kd_size hw) ⟨va_cnB 1 hts gX10_inNeed_X4_has_n159 rfl rfl rfl (hE.nw 29 rfl) (hts _ (List.mem_of_getElem? (i := 6) rfl)) (by decide +kernel) ⟨Nat.le_of_ble_eq_true rfl, Nat.le_of_ble_eq_true rfl⟩, (hts _ (List.mem_of_getElem? (i := 5) rfl)), (hts _ (List.mem_of_getElem? (i := 7) rfl))⟩ (hPreV hE hP hK hD hS hA [1] (by decide) rfl rfl rfl rfl (q0 := 1) (ci := 4) rfl) rfl rfl hl.1 rfl (lv_room (Nat.le_of_ble_eq_true rfl)) dX10_inNeed_5 ⟨Nat.zero_le _, Nat.zero_le _⟩) hP hD hS hA rfl rfl (by decide) (by decide) (fun r_1 u H locs hw hP hD hS => ?_)
  have hP : va_P G vwCl [oX10 q, oX4 q kd_size, oX8 q, aI K (q 5) 30 st_booked, oX3 q ev_size, aI K (q 13) 12 ev_day, aI K (q 15) 12 ev_kind, aI K (q 16) 12 ev_need, aZ K (q 17) 12 ev_on, oX2 q ca_size, aI K (q 21) 12 ca_served, aI K (q 22) 12 ca_rank] H := hP.sub [0, 11, 1, 2, 3, 4, 5, 6, 7, 8, 9, 10] rfl
  have hD : va_D A [oX10 q, oX4 q kd_size, oX8 q, aI K (q 5) 30 st_booked, oX3 q ev_size, aI K (q 13) 12 ev_day, aI K (q 15) 12 ev_kind, aI K (q 16) 12 ev_need, aZ K (q 17) 12 ev_on, oX2 q ca_size, aI K (q 21) 12 ca_served, aI K (q 22) 12 ca_rank] := hD.sub [0, 11, 1, 2, 3, 4, 5, 6, 7, 8, 9, 10] (by decide) rfl
  refine lv_if_eq (pc := 8) (tgt := 30) hx hb dX10_inNeed_8 (by decide) (fun c_2 => ?_) (fun c_2 => ?_)
  · replace hw := hw.1 c_2
    refine lv_iconst (pc := 30) (v := (-1 : Int32)) hx hb dX10_inNeed_30 (by decide) ?_
    exact hRetI (S := (Nat → Int32) × (Nat → Int32) × Int32) (ca_served, ca_rank, ca_size) hx hb hr hlocks hQ hw hP hK hD hS dX10_inNeed_31
  · replace hw := hw.2 c_2
    refine lv_aload_n (pc := 11) hx hb dX10_inNeed_11 rfl (lv_at hl 0 rfl) ?_
    refine va_get (pc := 12) (D := G) (ci := 10) (v := .ref (q 18)) (C := RX10) (T := TX10) (N := 10) hx hb hts iw_X10_inNeed_X10 hown hK hP 0 rfl rfl 4 (by decide) (hts _ (List.mem_of_getElem? (i := 2) rfl)) (fun _ h9 => h9) rfl dX10_inNeed_12 ?_
    refine lv_aload_n (pc := 15) hx hb dX10_inNeed_15 rfl (lv_at hl 0 rfl) ?_
    refine va_get (pc := 16) (D := G) (ci := 10) (v := .ref (q 12)) (C := RX10) (T := TX10) (N := 10) hx hb hts iw_X10_inNeed_X10 hown hK hP 0 rfl rfl 3 (by decide) (hts _ (List.mem_of_getElem? (i := 3) rfl)) (fun _ h9 => h9) rfl dX10_inNeed_16 ?_
    refine lv_aload_n (pc := 19) hx hb dX10_inNeed_19 rfl (lv_at hl 0 rfl) ?_
    refine va_get (pc := 20) (D := G) (ci := 10) (v := .ref (q 4)) (C := RX10) (T := TX10) (N := 10) hx hb hts iw_X10_inNeed_X10 hown hK hP 0 rfl rfl 1 (by decide) (hts _ (List.mem_of_getElem? (i := 4) rfl)) (fun _ h9 => h9) rfl dX10_inNeed_20 ?_
    refine lv_iload_n (pc := 23) hx hb dX10_inNeed_23 rfl (lv_at hl 1 rfl) ?_
    refine hCallI (pc := 24) (wr := [oX10 q, oX4 q kd_size]) (wsf := fun (u : (Nat → Int32) × (Nat → Int32) × Int32) => [oX8 q, aI K (q 5) 30 st_booked, oX3 q ev_size, aI K (q 13) 12 ev_day, aI K (q 15) 12 ev_kind, aI K (q 16) 12 ev_need, aZ K (q 17) 12 ev_on, oX2 q u.2.2, aI K (q 21) 12 u.1, aI K (q 22) 12 u.2.1]) [2, 3, 4, 5, 6, 7, 8, 9, 10, 11] [0, 1] (va_runVN (As := [.ref (q 12), .ref (q 4), .int p1]) (rest := []) ⟨hx, hb, hml, hown, hts⟩ (c_X2_firstShortDay l G K tb q H.size _ p1 st_booked ev_day ev_kind ev_need ev_on ev_size ca_served ca_rank ca_size hw) ⟨va_cnB 3 hts gX10_inNeed_X2_firstShortDay_n164 rfl rfl rfl (hE.nw 51 rfl) (hts _ (List.mem_of_getElem? (i := 14) rfl)) (by decide +kernel) ⟨Nat.le_of_ble_eq_true rfl, Nat.le_of_ble_eq_true rfl⟩, (hts _ (List.mem_of_getElem? (i := 13) rfl)), (hts _ (List.mem_of_getElem? (i := 15) rfl))⟩ (hPreV hE hP hK hD hS hA [2, 3, 4, 5, 6, 7, 8, 9, 10, 11] (by decide) rfl rfl rfl rfl (q0 := 9) (ci := 2) rfl) rfl rfl hl.1 rfl (lv_room (Nat.le_of_ble_eq_true rfl)) dX10_inNeed_24 ⟨Nat.zero_le _, Nat.zero_le _⟩) hP hD hS hA rfl rfl (by decide) (by decide) (fun r_3 u H locs hw hP hD hS => ?_)
    obtain ⟨ca_served_4, ca_rank_5, ca_size_6⟩ := u
    have hP : va_P G vwCl [oX10 q, oX4 q kd_size, oX8 q, aI K (q 5) 30 st_booked, oX3 q ev_size, aI K (q 13) 12 ev_day, aI K (q 15) 12 ev_kind, aI K (q 16) 12 ev_need, aZ K (q 17) 12 ev_on, oX2 q ca_size_6, aI K (q 21) 12 ca_served_4, aI K (q 22) 12 ca_rank_5] H := hP.sub [0, 1, 2, 3, 4, 5, 6, 7, 8, 9, 10, 11] rfl
    have hD : va_D A [oX10 q, oX4 q kd_size, oX8 q, aI K (q 5) 30 st_booked, oX3 q ev_size, aI K (q 13) 12 ev_day, aI K (q 15) 12 ev_kind, aI K (q 16) 12 ev_need, aZ K (q 17) 12 ev_on, oX2 q ca_size_6, aI K (q 21) 12 ca_served_4, aI K (q 22) 12 ca_rank_5] := hD.sub [0, 1, 2, 3, 4, 5, 6, 7, 8, 9, 10, 11] (by decide) rfl
    refine lv_goto (pc := 27) (tgt := 31) hx hb dX10_inNeed_27 (by decide) ?_
    exact hRetI (S := (Nat → Int32) × (Nat → Int32) × Int32) (ca_served_4, ca_rank_5, ca_size_6) hx hb hr hlocks hQ hw hP hK hD hS dX10_inNeed_31
def P_X10_join (post : Int32 → (Nat → Int64) → (Nat → Int64) → Prop) (p1 : Int32) (mk_sign : Nat → Int32) (mk_weight : Nat → Int32) (mk_pieces : Int32) (mk_finds : Int32) (pr_best : Nat → Int64) (pr_gain : Nat → Int64) : Prop :=
  ((p1 = (0 : Int32) → P_X6_mostPairs (fun r_2 pr_best_3 pr_gain_4 => post r_2 pr_best_3 pr_gain_4) mk_sign mk_weight mk_pieces mk_finds pr_best pr_gain) ∧ (¬ p1 = (0 : Int32) → P_X6_bestPrice (fun r_5 pr_best_6 pr_gain_7 => post r_5 pr_best_6 pr_gain_7) mk_sign mk_weight mk_pieces mk_finds pr_best pr_gain))
abbrev rm_X10_join : Room := { frames := 6, cells := 0, slots := 0, locals := 141 }
theorem iw_X10_join_X10 : ∀ w ∈ wsX100, w ∈ wsX10_join := by decide +kernel
set_option maxHeartbeats 4000000 in
set_option maxRecDepth 100000 in
theorem c_X10_join (l : Launch) (G : va_G) (K : ClassId × ClassId × ClassId) (tb q : Nat → Nat) (sz : Nat) (post : Int32 → (Nat → Int64) → (Nat → Int64) → Prop) (p1 : Int32) (mk_sign : Nat → Int32) (mk_weight : Nat → Int32) (mk_pieces : Int32) (mk_finds : Int32) (pr_best : Nat → Int64) (pr_gain : Nat → Int64) (hw : P_X10_join post p1 mk_sign mk_weight mk_pieces mk_finds pr_best pr_gain) : Met l yX10_join wsX10_join rm_X10_join (va_Pc [.ref (q 0), .int p1] (hPre G K tb [oX10 q, oX5 q mk_pieces mk_finds, aI K (q 36) 48 mk_sign, aI K (q 37) 16 mk_weight, oX6 q, aJ K (q 39) 256 pr_best, aJ K (q 40) 8 pr_gain] sz)) (va_Qi (fun (r : Int32) (u : (Nat → Int64) × (Nat → Int64)) => post r u.1 u.2) (fun u => hB G K (va_A [oX10 q, oX5 q mk_pieces mk_finds, aI K (q 36) 48 mk_sign, aI K (q 37) 16 mk_weight, oX6 q, aJ K (q 39) 256 pr_best, aJ K (q 40) 8 pr_gain] sz) [oX10 q, oX5 q mk_pieces mk_finds, aI K (q 36) 48 mk_sign, aI K (q 37) 16 mk_weight, oX6 q, aJ K (q 39) 256 u.1, aJ K (q 40) 8 u.2]) (va_A [oX10 q, oX5 q mk_pieces mk_finds, aI K (q 36) 48 mk_sign, aI K (q 37) 16 mk_weight, oX6 q, aJ K (q 39) 256 pr_best, aJ K (q 40) 8 pr_gain] sz)) 0 0 (va_A [oX10 q, oX5 q mk_pieces mk_finds, aI K (q 36) 48 mk_sign, aI K (q 37) 16 mk_weight, oX6 q, aJ K (q 39) 256 pr_best, aJ K (q 40) 8 pr_gain] sz) := by
  refine hMet (fun A => va_Qi (fun (r : Int32) (u : (Nat → Int64) × (Nat → Int64)) => post r u.1 u.2) (fun u => hB G K A [oX10 q, oX5 q mk_pieces mk_finds, aI K (q 36) 48 mk_sign, aI K (q 37) 16 mk_weight, oX6 q, aJ K (q 39) 256 u.1, aJ K (q 40) 8 u.2]) A) (by decide) rfl (Nat.le_of_ble_eq_true rfl) ?_
  intro p e s m av below meth c A Q ls hx hb hr hml hts hown hlocks hnm hA hP hK hD hS hE hQ hl
  have hts : ∀ w ∈ wsX10_join, w.before av s = true := hts
  have hown : s.vm.findClass RX10 = some m.cls := hown
  have hl : lv_has ls 2 [(0, .ref (q 0)), (1, .int p1)] := hl
  unfold P_X10_join at hw
  refine lv_iload_n (pc := 0) hx hb dX10_join_0 rfl (lv_at hl 1 rfl) ?_
  refine lv_if_eq (pc := 1) (tgt := 18) hx hb dX10_join_1 (by decide) (fun c_1 => ?_) (fun c_1 => ?_)
  · replace hw := hw.1 c_1
    refine lv_aload_n (pc := 18) hx hb dX10_join_18 rfl (lv_at hl 0 rfl) ?_
    refine va_get (pc := 19) (D := G) (ci := 10) (v := .ref (q 38)) (C := RX10) (T := TX10) (N := 10) hx hb hts iw_X10_join_X10 hown hK hP 0 rfl rfl 7 (by decide) (hts _ (List.mem_of_getElem? (i := 1) rfl)) (fun _ h9 => h9) rfl dX10_join_19 ?_
    refine lv_aload_n (pc := 22) hx hb dX10_join_22 rfl (lv_at hl 0 rfl) ?_
    refine va_get (pc := 23) (D := G) (ci := 10) (v := .ref (q 35)) (C := RX10) (T := TX10) (N := 10) hx hb hts iw_X10_join_X10 hown hK hP 0 rfl rfl 6 (by decide) (hts _ (List.mem_of_getElem? (i := 2) rfl)) (fun _ h9 => h9) rfl dX10_join_23 ?_
    refine hCallI (pc := 26) (wr := [oX10 q]) (wsf := fun (u : (Nat → Int64) × (Nat → Int64)) => [oX5 q mk_pieces mk_finds, aI K (q 36) 48 mk_sign, aI K (q 37) 16 mk_weight, oX6 q, aJ K (q 39) 256 u.1, aJ K (q 40) 8 u.2]) [1, 2, 3, 4, 5, 6] [0] (va_runVN (As := [.ref (q 35)]) (rest := []) ⟨hx, hb, hml, hown, hts⟩ (c_X6_mostPairs l G K tb q s.heap.size _ mk_sign mk_weight mk_pieces mk_finds pr_best pr_gain hw) ⟨va_cnB 1 hts gX10_join_X6_mostPairs_n237 rfl rfl rfl (hE.nw 65 rfl) (hts _ (List.mem_of_getElem? (i := 4) rfl)) (by decide +kernel) ⟨Nat.le_of_ble_eq_true rfl, Nat.le_of_ble_eq_true rfl⟩, (hts _ (List.mem_of_getElem? (i := 44) rfl)), (hts _ (List.mem_of_getElem? (i := 45) rfl))⟩ (hPreV hE hP hK hD hS hA [1, 2, 3, 4, 5, 6] (by decide) rfl rfl rfl rfl (q0 := 4) (ci := 6) rfl) rfl rfl hl.1 rfl (lv_room (Nat.le_of_ble_eq_true rfl)) dX10_join_26 ⟨Nat.zero_le _, Nat.zero_le _⟩) hP hD hS hA rfl rfl (by decide) (by decide) (fun r_2 u H locs hw hP hD hS => ?_)
    obtain ⟨pr_best_3, pr_gain_4⟩ := u
    have hP : va_P G vwCl [oX10 q, oX5 q mk_pieces mk_finds, aI K (q 36) 48 mk_sign, aI K (q 37) 16 mk_weight, oX6 q, aJ K (q 39) 256 pr_best_3, aJ K (q 40) 8 pr_gain_4] H := hP.sub [0, 1, 2, 3, 4, 5, 6] rfl
    have hD : va_D A [oX10 q, oX5 q mk_pieces mk_finds, aI K (q 36) 48 mk_sign, aI K (q 37) 16 mk_weight, oX6 q, aJ K (q 39) 256 pr_best_3, aJ K (q 40) 8 pr_gain_4] := hD.sub [0, 1, 2, 3, 4, 5, 6] (by decide) rfl
    exact hRetI (S := (Nat → Int64) × (Nat → Int64)) (pr_best_3, pr_gain_4) hx hb hr hlocks hQ hw hP hK hD hS dX10_join_29
  · replace hw := hw.2 c_1
    refine lv_aload_n (pc := 4) hx hb dX10_join_4 rfl (lv_at hl 0 rfl) ?_
    refine va_get (pc := 5) (D := G) (ci := 10) (v := .ref (q 38)) (C := RX10) (T := TX10) (N := 10) hx hb hts iw_X10_join_X10 hown hK hP 0 rfl rfl 7 (by decide) (hts _ (List.mem_of_getElem? (i := 1) rfl)) (fun _ h9 => h9) rfl dX10_join_5 ?_
    refine lv_aload_n (pc := 8) hx hb dX10_join_8 rfl (lv_at hl 0 rfl) ?_
    refine va_get (pc := 9) (D := G) (ci := 10) (v := .ref (q 35)) (C := RX10) (T := TX10) (N := 10) hx hb hts iw_X10_join_X10 hown hK hP 0 rfl rfl 6 (by decide) (hts _ (List.mem_of_getElem? (i := 2) rfl)) (fun _ h9 => h9) rfl dX10_join_9 ?_
    refine hCallI (pc := 12) (wr := [oX10 q]) (wsf := fun (u : (Nat → Int64) × (Nat → Int64)) => [oX5 q mk_pieces mk_finds, aI K (q 36) 48 mk_sign, aI K (q 37) 16 mk_weight, oX6 q, aJ K (q 39) 256 u.1, aJ K (q 40) 8 u.2]) [1, 2, 3, 4, 5, 6] [0] (va_runVN (As := [.ref (q 35)]) (rest := []) ⟨hx, hb, hml, hown, hts⟩ (c_X6_bestPrice l G K tb q s.heap.size _ mk_sign mk_weight mk_pieces mk_finds pr_best pr_gain hw) ⟨va_cnB 1 hts gX10_join_X6_bestPrice_n233 rfl rfl rfl (hE.nw 63 rfl) (hts _ (List.mem_of_getElem? (i := 4) rfl)) (by decide +kernel) ⟨Nat.le_of_ble_eq_true rfl, Nat.le_of_ble_eq_true rfl⟩, (hts _ (List.mem_of_getElem? (i := 3) rfl)), (hts _ (List.mem_of_getElem? (i := 5) rfl))⟩ (hPreV hE hP hK hD hS hA [1, 2, 3, 4, 5, 6] (by decide) rfl rfl rfl rfl (q0 := 4) (ci := 6) rfl) rfl rfl hl.1 rfl (lv_room (Nat.le_of_ble_eq_true rfl)) dX10_join_12 ⟨Nat.zero_le _, Nat.zero_le _⟩) hP hD hS hA rfl rfl (by decide) (by decide) (fun r_5 u H locs hw hP hD hS => ?_)
    obtain ⟨pr_best_6, pr_gain_7⟩ := u
    have hP : va_P G vwCl [oX10 q, oX5 q mk_pieces mk_finds, aI K (q 36) 48 mk_sign, aI K (q 37) 16 mk_weight, oX6 q, aJ K (q 39) 256 pr_best_6, aJ K (q 40) 8 pr_gain_7] H := hP.sub [0, 1, 2, 3, 4, 5, 6] rfl
    have hD : va_D A [oX10 q, oX5 q mk_pieces mk_finds, aI K (q 36) 48 mk_sign, aI K (q 37) 16 mk_weight, oX6 q, aJ K (q 39) 256 pr_best_6, aJ K (q 40) 8 pr_gain_7] := hD.sub [0, 1, 2, 3, 4, 5, 6] (by decide) rfl
    refine lv_goto (pc := 15) (tgt := 29) hx hb dX10_join_15 (by decide) ?_
    exact hRetI (S := (Nat → Int64) × (Nat → Int64)) (pr_best_6, pr_gain_7) hx hb hr hlocks hQ hw hP hK hD hS dX10_join_29
def P_X10_joined (post : Int32 → (Nat → Int64) → (Nat → Int64) → Prop) (p1 : Int32) (mk_sign : Nat → Int32) (mk_weight : Nat → Int32) (mk_pieces : Int32) (mk_finds : Int32) (pr_best : Nat → Int64) (pr_gain : Nat → Int64) : Prop :=
  P_X10_isPiece (fun r_1 => ((r_1 = (0 : Int32) → post (-1 : Int32) pr_best pr_gain) ∧ (¬ r_1 = (0 : Int32) → P_X6_findOf (fun r_3 pr_best_4 pr_gain_5 => post r_3 pr_best_4 pr_gain_5) p1 mk_sign mk_weight mk_pieces mk_finds pr_best pr_gain))) p1 mk_pieces
abbrev rm_X10_joined : Room := { frames := 6, cells := 0, slots := 0, locals := 141 }
theorem iw_X10_joined_X10 : ∀ w ∈ wsX100, w ∈ wsX10_joined := by decide +kernel
set_option maxHeartbeats 4000000 in
set_option maxRecDepth 100000 in
theorem c_X10_joined (l : Launch) (G : va_G) (K : ClassId × ClassId × ClassId) (tb q : Nat → Nat) (sz : Nat) (post : Int32 → (Nat → Int64) → (Nat → Int64) → Prop) (p1 : Int32) (mk_sign : Nat → Int32) (mk_weight : Nat → Int32) (mk_pieces : Int32) (mk_finds : Int32) (pr_best : Nat → Int64) (pr_gain : Nat → Int64) (hw : P_X10_joined post p1 mk_sign mk_weight mk_pieces mk_finds pr_best pr_gain) : Met l yX10_joined wsX10_joined rm_X10_joined (va_Pc [.ref (q 0), .int p1] (hPre G K tb [oX10 q, oX5 q mk_pieces mk_finds, aI K (q 36) 48 mk_sign, aI K (q 37) 16 mk_weight, oX6 q, aJ K (q 39) 256 pr_best, aJ K (q 40) 8 pr_gain] sz)) (va_Qi (fun (r : Int32) (u : (Nat → Int64) × (Nat → Int64)) => post r u.1 u.2) (fun u => hB G K (va_A [oX10 q, oX5 q mk_pieces mk_finds, aI K (q 36) 48 mk_sign, aI K (q 37) 16 mk_weight, oX6 q, aJ K (q 39) 256 pr_best, aJ K (q 40) 8 pr_gain] sz) [oX10 q, oX5 q mk_pieces mk_finds, aI K (q 36) 48 mk_sign, aI K (q 37) 16 mk_weight, oX6 q, aJ K (q 39) 256 u.1, aJ K (q 40) 8 u.2]) (va_A [oX10 q, oX5 q mk_pieces mk_finds, aI K (q 36) 48 mk_sign, aI K (q 37) 16 mk_weight, oX6 q, aJ K (q 39) 256 pr_best, aJ K (q 40) 8 pr_gain] sz)) 0 0 (va_A [oX10 q, oX5 q mk_pieces mk_finds, aI K (q 36) 48 mk_sign, aI K (q 37) 16 mk_weight, oX6 q, aJ K (q 39) 256 pr_best, aJ K (q 40) 8 pr_gain] sz) := by
  refine hMet (fun A => va_Qi (fun (r : Int32) (u : (Nat → Int64) × (Nat → Int64)) => post r u.1 u.2) (fun u => hB G K A [oX10 q, oX5 q mk_pieces mk_finds, aI K (q 36) 48 mk_sign, aI K (q 37) 16 mk_weight, oX6 q, aJ K (q 39) 256 u.1, aJ K (q 40) 8 u.2]) A) (by decide) rfl (Nat.le_of_ble_eq_true rfl) ?_
  intro p e s m av below meth c A Q ls hx hb hr hml hts hown hlocks hnm hA hP hK hD hS hE hQ hl
  have hts : ∀ w ∈ wsX10_joined, w.before av s = true := hts
  have hown : s.vm.findClass RX10 = some m.cls := hown
  have hl : lv_has ls 2 [(0, .ref (q 0)), (1, .int p1)] := hl
  unfold P_X10_joined at hw
  refine lv_aload_n (pc := 0) hx hb dX10_joined_0 rfl (lv_at hl 0 rfl) ?_
  refine lv_iload_n (pc := 1) hx hb dX10_joined_1 rfl (lv_at hl 1 rfl) ?_
  refine hCallI (pc := 2) (wr := [aI K (q 36) 48 mk_sign, aI K (q 37) 16 mk_weight, oX6 q, aJ K (q 39) 256 pr_best, aJ K (q 40) 8 pr_gain]) (wsf := fun (u : Unit) => [oX10 q, oX5 q mk_pieces mk_finds]) [0, 1] [2, 3, 4, 5, 6] (va_runV (As := [.int p1]) (rest := []) ⟨hx, hb, hml, hown, hts⟩ (c_X10_isPiece l G K tb q s.heap.size mk_finds _ p1 mk_pieces hw) (cwV 1 hts gX10_joined_X10_isPiece rfl rfl rfl (by decide +kernel) ⟨Nat.le_of_ble_eq_true rfl, Nat.le_of_ble_eq_true rfl⟩) (hPreV hE hP hK hD hS hA [0, 1] (by decide) rfl rfl rfl rfl (q0 := 0) (ci := 10) rfl) rfl rfl hl.1 rfl (lv_room (Nat.le_of_ble_eq_true rfl)) dX10_joined_2 ⟨Nat.zero_le _, Nat.zero_le _⟩) hP hD hS hA rfl rfl (by decide) (by decide) (fun r_1 u H locs hw hP hD hS => ?_)
  have hP : va_P G vwCl [oX10 q, oX5 q mk_pieces mk_finds, aI K (q 36) 48 mk_sign, aI K (q 37) 16 mk_weight, oX6 q, aJ K (q 39) 256 pr_best, aJ K (q 40) 8 pr_gain] H := hP.sub [5, 6, 0, 1, 2, 3, 4] rfl
  have hD : va_D A [oX10 q, oX5 q mk_pieces mk_finds, aI K (q 36) 48 mk_sign, aI K (q 37) 16 mk_weight, oX6 q, aJ K (q 39) 256 pr_best, aJ K (q 40) 8 pr_gain] := hD.sub [5, 6, 0, 1, 2, 3, 4] (by decide) rfl
  refine lv_if_eq (pc := 5) (tgt := 23) hx hb dX10_joined_5 (by decide) (fun c_2 => ?_) (fun c_2 => ?_)
  · replace hw := hw.1 c_2
    refine lv_iconst (pc := 23) (v := (-1 : Int32)) hx hb dX10_joined_23 (by decide) ?_
    exact hRetI (S := (Nat → Int64) × (Nat → Int64)) (pr_best, pr_gain) hx hb hr hlocks hQ hw hP hK hD hS dX10_joined_24
  · replace hw := hw.2 c_2
    refine lv_aload_n (pc := 8) hx hb dX10_joined_8 rfl (lv_at hl 0 rfl) ?_
    refine va_get (pc := 9) (D := G) (ci := 10) (v := .ref (q 38)) (C := RX10) (T := TX10) (N := 10) hx hb hts iw_X10_joined_X10 hown hK hP 0 rfl rfl 7 (by decide) (hts _ (List.mem_of_getElem? (i := 1) rfl)) (fun _ h9 => h9) rfl dX10_joined_9 ?_
    refine lv_aload_n (pc := 12) hx hb dX10_joined_12 rfl (lv_at hl 0 rfl) ?_
    refine va_get (pc := 13) (D := G) (ci := 10) (v := .ref (q 35)) (C := RX10) (T := TX10) (N := 10) hx hb hts iw_X10_joined_X10 hown hK hP 0 rfl rfl 6 (by decide) (hts _ (List.mem_of_getElem? (i := 2) rfl)) (fun _ h9 => h9) rfl dX10_joined_13 ?_
    refine lv_iload_n (pc := 16) hx hb dX10_joined_16 rfl (lv_at hl 1 rfl) ?_
    refine hCallI (pc := 17) (wr := [oX10 q]) (wsf := fun (u : (Nat → Int64) × (Nat → Int64)) => [oX5 q mk_pieces mk_finds, aI K (q 36) 48 mk_sign, aI K (q 37) 16 mk_weight, oX6 q, aJ K (q 39) 256 u.1, aJ K (q 40) 8 u.2]) [1, 2, 3, 4, 5, 6] [0] (va_runVN (As := [.ref (q 35), .int p1]) (rest := []) ⟨hx, hb, hml, hown, hts⟩ (c_X6_findOf l G K tb q H.size _ p1 mk_sign mk_weight mk_pieces mk_finds pr_best pr_gain hw) ⟨va_cnB 2 hts gX10_joined_X6_findOf_n240 rfl rfl rfl (hE.nw 66 rfl) (hts _ (List.mem_of_getElem? (i := 12) rfl)) (by decide +kernel) ⟨Nat.le_of_ble_eq_true rfl, Nat.le_of_ble_eq_true rfl⟩, (hts _ (List.mem_of_getElem? (i := 11) rfl)), (hts _ (List.mem_of_getElem? (i := 13) rfl))⟩ (hPreV hE hP hK hD hS hA [1, 2, 3, 4, 5, 6] (by decide) rfl rfl rfl rfl (q0 := 4) (ci := 6) rfl) rfl rfl hl.1 rfl (lv_room (Nat.le_of_ble_eq_true rfl)) dX10_joined_17 ⟨Nat.zero_le _, Nat.zero_le _⟩) hP hD hS hA rfl rfl (by decide) (by decide) (fun r_3 u H locs hw hP hD hS => ?_)
    obtain ⟨pr_best_4, pr_gain_5⟩ := u
    have hP : va_P G vwCl [oX10 q, oX5 q mk_pieces mk_finds, aI K (q 36) 48 mk_sign, aI K (q 37) 16 mk_weight, oX6 q, aJ K (q 39) 256 pr_best_4, aJ K (q 40) 8 pr_gain_5] H := hP.sub [0, 1, 2, 3, 4, 5, 6] rfl
    have hD : va_D A [oX10 q, oX5 q mk_pieces mk_finds, aI K (q 36) 48 mk_sign, aI K (q 37) 16 mk_weight, oX6 q, aJ K (q 39) 256 pr_best_4, aJ K (q 40) 8 pr_gain_5] := hD.sub [0, 1, 2, 3, 4, 5, 6] (by decide) rfl
    refine lv_goto (pc := 20) (tgt := 24) hx hb dX10_joined_20 (by decide) ?_
    exact hRetI (S := (Nat → Int64) × (Nat → Int64)) (pr_best_4, pr_gain_5) hx hb hr hlocks hQ hw hP hK hD hS dX10_joined_24
def P_X10_kind (post : Int32 → (Nat → Int32) → (Nat → Int32) → Int32 → Prop) (p1 : Int32) (p2 : Int32) (kd_low : Nat → Int32) (kd_high : Nat → Int32) (kd_size : Int32) : Prop :=
  P_X10_within (fun r_1 => ((r_1 = (0 : Int32) → post (-2 : Int32) kd_low kd_high kd_size) ∧ (¬ r_1 = (0 : Int32) → P_X10_within (fun r_3 => ((r_3 = (0 : Int32) → post (-2 : Int32) kd_low kd_high kd_size) ∧ (¬ r_3 = (0 : Int32) → ((kd_size < (6 : Int32) → P_X4_add (fun r_6 kd_low_7 kd_high_8 kd_size_9 => post r_6 kd_low_7 kd_high_8 kd_size_9) p1 p2 kd_low kd_high kd_size) ∧ (¬ kd_size < (6 : Int32) → post (-4 : Int32) kd_low kd_high kd_size))))) p2 p1 (2000 : Int32)))) p1 (1 : Int32) (2000 : Int32)
abbrev rm_X10_kind : Room := { frames := 1, cells := 0, slots := 0, locals := 22 }
theorem iw_X10_kind_X10 : ∀ w ∈ wsX100, w ∈ wsX10_kind := by decide +kernel
theorem iw_X10_kind_X4 : ∀ w ∈ wsX40, w ∈ wsX10_kind := by decide +kernel
set_option maxHeartbeats 4000000 in
set_option maxRecDepth 100000 in
theorem c_X10_kind (l : Launch) (G : va_G) (K : ClassId × ClassId × ClassId) (tb q : Nat → Nat) (sz : Nat) (post : Int32 → (Nat → Int32) → (Nat → Int32) → Int32 → Prop) (p1 : Int32) (p2 : Int32) (kd_low : Nat → Int32) (kd_high : Nat → Int32) (kd_size : Int32) (hw : P_X10_kind post p1 p2 kd_low kd_high kd_size) : Met l yX10_kind wsX10_kind rm_X10_kind (va_Pc [.ref (q 0), .int p1, .int p2] (hPre G K tb [oX10 q, oX4 q kd_size, aI K (q 2) 6 kd_low, aI K (q 3) 6 kd_high] sz)) (va_Qi (fun (r : Int32) (u : (Nat → Int32) × (Nat → Int32) × Int32) => post r u.1 u.2.1 u.2.2) (fun u => hB G K (va_A [oX10 q, oX4 q kd_size, aI K (q 2) 6 kd_low, aI K (q 3) 6 kd_high] sz) [oX10 q, oX4 q u.2.2, aI K (q 2) 6 u.1, aI K (q 3) 6 u.2.1]) (va_A [oX10 q, oX4 q kd_size, aI K (q 2) 6 kd_low, aI K (q 3) 6 kd_high] sz)) 0 0 (va_A [oX10 q, oX4 q kd_size, aI K (q 2) 6 kd_low, aI K (q 3) 6 kd_high] sz) := by
  refine hMet (fun A => va_Qi (fun (r : Int32) (u : (Nat → Int32) × (Nat → Int32) × Int32) => post r u.1 u.2.1 u.2.2) (fun u => hB G K A [oX10 q, oX4 q u.2.2, aI K (q 2) 6 u.1, aI K (q 3) 6 u.2.1]) A) (by decide) rfl (Nat.le_of_ble_eq_true rfl) ?_
  intro p e s m av below meth c A Q ls hx hb hr hml hts hown hlocks hnm hA hP hK hD hS hE hQ hl
  have hts : ∀ w ∈ wsX10_kind, w.before av s = true := hts
  have hown : s.vm.findClass RX10 = some m.cls := hown
  have hl : lv_has ls 3 [(0, .ref (q 0)), (1, .int p1), (2, .int p2)] := hl
  unfold P_X10_kind at hw
  refine lv_iload_n (pc := 0) hx hb dX10_kind_0 rfl (lv_at hl 1 rfl) ?_
  refine lv_iconst (pc := 1) (v := (1 : Int32)) hx hb dX10_kind_1 (by decide) ?_
  refine lv_sipush (pc := 2) (v := (2000 : Int32)) hx hb dX10_kind_2 (by decide) ?_
  refine hCallI (pc := 5) (wr := [oX10 q, oX4 q kd_size, aI K (q 2) 6 kd_low, aI K (q 3) 6 kd_high]) (wsf := fun (u : Unit) => []) [] [0, 1, 2, 3] (va_runS (As := [.int p1, .int (1 : Int32), .int (2000 : Int32)]) (rest := []) ⟨hx, hb, hml, hown, hts⟩ (c_X10_within l G K tb q s.heap.size _ p1 (1 : Int32) (2000 : Int32) hw) (va_cwS 3 hts gX10_kind_X10_within rfl rfl rfl (by decide +kernel) ⟨Nat.le_of_ble_eq_true rfl, Nat.le_of_ble_eq_true rfl⟩) (hPreS hE hP hK hD hS hA [] (by decide) rfl rfl) rfl rfl hl.1 rfl (lv_room (Nat.le_of_ble_eq_true rfl)) dX10_kind_5 ⟨Nat.zero_le _, Nat.zero_le _⟩) hP hD hS hA rfl rfl (by decide) (by decide) (fun r_1 u H locs hw hP hD hS => ?_)
  have hP : va_P G vwCl [oX10 q, oX4 q kd_size, aI K (q 2) 6 kd_low, aI K (q 3) 6 kd_high] H := hP.sub [0, 1, 2, 3] rfl
  have hD : va_D A [oX10 q, oX4 q kd_size, aI K (q 2) 6 kd_low, aI K (q 3) 6 kd_high] := hD.sub [0, 1, 2, 3] (by decide) rfl
  refine lv_if_eq (pc := 8) (tgt := 22) hx hb dX10_kind_8 (by decide) (fun c_2 => ?_) (fun c_2 => ?_)
  · replace hw := hw.1 c_2
    refine lv_bipush (pc := 22) (v := (-2 : Int32)) hx hb dX10_kind_22 (by decide) ?_
    exact hRetI (S := (Nat → Int32) × (Nat → Int32) × Int32) (kd_low, kd_high, kd_size) hx hb hr hlocks hQ hw hP hK hD hS dX10_kind_24
  · replace hw := hw.2 c_2
    refine lv_iload_n (pc := 11) hx hb dX10_kind_11 rfl (lv_at hl 2 rfl) ?_
    refine lv_iload_n (pc := 12) hx hb dX10_kind_12 rfl (lv_at hl 1 rfl) ?_
    refine lv_sipush (pc := 13) (v := (2000 : Int32)) hx hb dX10_kind_13 (by decide) ?_
    refine hCallI (pc := 16) (wr := [oX10 q, oX4 q kd_size, aI K (q 2) 6 kd_low, aI K (q 3) 6 kd_high]) (wsf := fun (u : Unit) => []) [] [0, 1, 2, 3] (va_runS (As := [.int p2, .int p1, .int (2000 : Int32)]) (rest := []) ⟨hx, hb, hml, hown, hts⟩ (c_X10_within l G K tb q H.size _ p2 p1 (2000 : Int32) hw) (va_cwS 3 hts gX10_kind_X10_within rfl rfl rfl (by decide +kernel) ⟨Nat.le_of_ble_eq_true rfl, Nat.le_of_ble_eq_true rfl⟩) (hPreS hE hP hK hD hS hA [] (by decide) rfl rfl) rfl rfl hl.1 rfl (lv_room (Nat.le_of_ble_eq_true rfl)) dX10_kind_16 ⟨Nat.zero_le _, Nat.zero_le _⟩) hP hD hS hA rfl rfl (by decide) (by decide) (fun r_3 u H locs hw hP hD hS => ?_)
    have hP : va_P G vwCl [oX10 q, oX4 q kd_size, aI K (q 2) 6 kd_low, aI K (q 3) 6 kd_high] H := hP.sub [0, 1, 2, 3] rfl
    have hD : va_D A [oX10 q, oX4 q kd_size, aI K (q 2) 6 kd_low, aI K (q 3) 6 kd_high] := hD.sub [0, 1, 2, 3] (by decide) rfl
    refine lv_if_ne (pc := 19) (tgt := 25) hx hb dX10_kind_19 (by decide) (fun c_4 => ?_) (fun c_4 => ?_)
    · replace hw := hw.2 c_4
      refine lv_aload_n (pc := 25) hx hb dX10_kind_25 rfl (lv_at hl 0 rfl) ?_
      refine va_get (pc := 26) (D := G) (ci := 10) (v := .ref (q 1)) (C := RX10) (T := TX10) (N := 10) hx hb hts iw_X10_kind_X10 hown hK hP 0 rfl rfl 0 (by decide) (hts _ (List.mem_of_getElem? (i := 1) rfl)) (fun _ h9 => h9) rfl dX10_kind_26 ?_
      refine va_getN (pc := 29) (D := G) (host := RX10) (ci := 4) (v := .int kd_size) (C := RX4) (T := TX4) (N := 3) hx hb hts iw_X10_kind_X4 hown hK hP 1 rfl rfl 2 (by decide) (hE.use 1 rfl) (fun _ h9 => h9) rfl dX10_kind_29 ?_
      refine lv_bipush (pc := 32) (v := (6 : Int32)) hx hb dX10_kind_32 (by decide) ?_
      refine lv_icmp_lt (pc := 34) (tgt := 42) hx hb dX10_kind_34 (by decide) (fun c_5 => ?_) (fun c_5 => ?_)
      · replace hw := hw.1 c_5
        refine lv_aload_n (pc := 42) hx hb dX10_kind_42 rfl (lv_at hl 0 rfl) ?_
        refine va_get (pc := 43) (D := G) (ci := 10) (v := .ref (q 1)) (C := RX10) (T := TX10) (N := 10) hx hb hts iw_X10_kind_X10 hown hK hP 0 rfl rfl 0 (by decide) (hts _ (List.mem_of_getElem? (i := 1) rfl)) (fun _ h9 => h9) rfl dX10_kind_43 ?_
        refine lv_iload_n (pc := 46) hx hb dX10_kind_46 rfl (lv_at hl 1 rfl) ?_
        refine lv_iload_n (pc := 47) hx hb dX10_kind_47 rfl (lv_at hl 2 rfl) ?_
        refine hCallI (pc := 48) (wr := [oX10 q]) (wsf := fun (u : (Nat → Int32) × (Nat → Int32) × Int32) => [oX4 q u.2.2, aI K (q 2) 6 u.1, aI K (q 3) 6 u.2.1]) [1, 2, 3] [0] (va_runVN (As := [.int p1, .int p2]) (rest := []) ⟨hx, hb, hml, hown, hts⟩ (c_X4_add l G K tb q H.size _ p1 p2 kd_low kd_high kd_size hw) ⟨va_cnB 2 hts gX10_kind_X4_add_n87 rfl rfl rfl (hE.nw 28 rfl) (hts _ (List.mem_of_getElem? (i := 7) rfl)) (by decide +kernel) ⟨Nat.le_of_ble_eq_true rfl, Nat.le_of_ble_eq_true rfl⟩, (hts _ (List.mem_of_getElem? (i := 6) rfl)), (hts _ (List.mem_of_getElem? (i := 8) rfl))⟩ (hPreV hE hP hK hD hS hA [1, 2, 3] (by decide) rfl rfl rfl rfl (q0 := 1) (ci := 4) rfl) rfl rfl hl.1 rfl (lv_room (Nat.le_of_ble_eq_true rfl)) dX10_kind_48 ⟨Nat.zero_le _, Nat.zero_le _⟩) hP hD hS hA rfl rfl (by decide) (by decide) (fun r_6 u H locs hw hP hD hS => ?_)
        obtain ⟨kd_low_7, kd_high_8, kd_size_9⟩ := u
        have hP : va_P G vwCl [oX10 q, oX4 q kd_size_9, aI K (q 2) 6 kd_low_7, aI K (q 3) 6 kd_high_8] H := hP.sub [0, 1, 2, 3] rfl
        have hD : va_D A [oX10 q, oX4 q kd_size_9, aI K (q 2) 6 kd_low_7, aI K (q 3) 6 kd_high_8] := hD.sub [0, 1, 2, 3] (by decide) rfl
        exact hRetI (S := (Nat → Int32) × (Nat → Int32) × Int32) (kd_low_7, kd_high_8, kd_size_9) hx hb hr hlocks hQ hw hP hK hD hS dX10_kind_51
      · replace hw := hw.2 c_5
        refine lv_bipush (pc := 37) (v := (-4 : Int32)) hx hb dX10_kind_37 (by decide) ?_
        refine lv_goto (pc := 39) (tgt := 51) hx hb dX10_kind_39 (by decide) ?_
        exact hRetI (S := (Nat → Int32) × (Nat → Int32) × Int32) (kd_low, kd_high, kd_size) hx hb hr hlocks hQ hw hP hK hD hS dX10_kind_51
    · replace hw := hw.1 c_4
      refine lv_bipush (pc := 22) (v := (-2 : Int32)) hx hb dX10_kind_22 (by decide) ?_
      exact hRetI (S := (Nat → Int32) × (Nat → Int32) × Int32) (kd_low, kd_high, kd_size) hx hb hr hlocks hQ hw hP hK hD hS dX10_kind_24
def P_X10_ledger (post : Int32 → (Nat → Int32) → Prop) (p1 : Int32) (p2 : Int32) (p3 : Int32) (p4 : Int32) (kd_size : Int32) (st_parted : Nat → Int32) : Prop :=
  P_X10_isCell (fun r_1 => ((r_1 = (0 : Int32) → post (-1 : Int32) st_parted) ∧ (¬ r_1 = (0 : Int32) → P_X10_within (fun r_3 => ((r_3 = (0 : Int32) → post (-2 : Int32) st_parted) ∧ (¬ r_3 = (0 : Int32) → P_X10_within (fun r_5 => ((r_5 = (0 : Int32) → post (-2 : Int32) st_parted) ∧ (¬ r_5 = (0 : Int32) → P_X10_cell (fun r_7 => P_X8_setParted (fun r_8 st_parted_9 => post r_8 st_parted_9) r_7 p3 p4 st_parted) p1 p2))) p4 (0 : Int32) (999 : Int32)))) p3 (0 : Int32) (2 : Int32)))) p1 p2 kd_size
abbrev rm_X10_ledger : Room := { frames := 3, cells := 0, slots := 0, locals := 65 }
theorem iw_X10_ledger_X10 : ∀ w ∈ wsX100, w ∈ wsX10_ledger := by decide +kernel
set_option maxHeartbeats 4000000 in
set_option maxRecDepth 100000 in
theorem c_X10_ledger (l : Launch) (G : va_G) (K : ClassId × ClassId × ClassId) (tb q : Nat → Nat) (sz : Nat) (post : Int32 → (Nat → Int32) → Prop) (p1 : Int32) (p2 : Int32) (p3 : Int32) (p4 : Int32) (kd_size : Int32) (st_parted : Nat → Int32) (hw : P_X10_ledger post p1 p2 p3 p4 kd_size st_parted) : Met l yX10_ledger wsX10_ledger rm_X10_ledger (va_Pc [.ref (q 0), .int p1, .int p2, .int p3, .int p4] (hPre G K tb [oX10 q, oX4 q kd_size, oX8 q, aI K (q 6) 90 st_parted] sz)) (va_Qi (fun (r : Int32) (u : (Nat → Int32)) => post r u) (fun u => hB G K (va_A [oX10 q, oX4 q kd_size, oX8 q, aI K (q 6) 90 st_parted] sz) [oX10 q, oX4 q kd_size, oX8 q, aI K (q 6) 90 u]) (va_A [oX10 q, oX4 q kd_size, oX8 q, aI K (q 6) 90 st_parted] sz)) 0 0 (va_A [oX10 q, oX4 q kd_size, oX8 q, aI K (q 6) 90 st_parted] sz) := by
  refine hMet (fun A => va_Qi (fun (r : Int32) (u : (Nat → Int32)) => post r u) (fun u => hB G K A [oX10 q, oX4 q kd_size, oX8 q, aI K (q 6) 90 u]) A) (by decide) rfl (Nat.le_of_ble_eq_true rfl) ?_
  intro p e s m av below meth c A Q ls hx hb hr hml hts hown hlocks hnm hA hP hK hD hS hE hQ hl
  have hts : ∀ w ∈ wsX10_ledger, w.before av s = true := hts
  have hown : s.vm.findClass RX10 = some m.cls := hown
  have hl : lv_has ls 5 [(0, .ref (q 0)), (1, .int p1), (2, .int p2), (3, .int p3), (4, .int p4)] := hl
  unfold P_X10_ledger at hw
  refine lv_aload_n (pc := 0) hx hb dX10_ledger_0 rfl (lv_at hl 0 rfl) ?_
  refine lv_iload_n (pc := 1) hx hb dX10_ledger_1 rfl (lv_at hl 1 rfl) ?_
  refine lv_iload_n (pc := 2) hx hb dX10_ledger_2 rfl (lv_at hl 2 rfl) ?_
  refine hCallI (pc := 3) (wr := [oX8 q, aI K (q 6) 90 st_parted]) (wsf := fun (u : Unit) => [oX10 q, oX4 q kd_size]) [0, 1] [2, 3] (va_runV (As := [.int p1, .int p2]) (rest := []) ⟨hx, hb, hml, hown, hts⟩ (c_X10_isCell l G K tb q s.heap.size _ p1 p2 kd_size hw) (cwV 2 hts gX10_ledger_X10_isCell rfl rfl rfl (by decide +kernel) ⟨Nat.le_of_ble_eq_true rfl, Nat.le_of_ble_eq_true rfl⟩) (hPreV hE hP hK hD hS hA [0, 1] (by decide) rfl rfl rfl rfl (q0 := 0) (ci := 10) rfl) rfl rfl hl.1 rfl (lv_room (Nat.le_of_ble_eq_true rfl)) dX10_ledger_3 ⟨Nat.zero_le _, Nat.zero_le _⟩) hP hD hS hA rfl rfl (by decide) (by decide) (fun r_1 u H locs hw hP hD hS => ?_)
  have hP : va_P G vwCl [oX10 q, oX4 q kd_size, oX8 q, aI K (q 6) 90 st_parted] H := hP.sub [2, 3, 0, 1] rfl
  have hD : va_D A [oX10 q, oX4 q kd_size, oX8 q, aI K (q 6) 90 st_parted] := hD.sub [2, 3, 0, 1] (by decide) rfl
  refine lv_if_ne (pc := 6) (tgt := 11) hx hb dX10_ledger_6 (by decide) (fun c_2 => ?_) (fun c_2 => ?_)
  · replace hw := hw.2 c_2
    refine lv_iload_n (pc := 11) hx hb dX10_ledger_11 rfl (lv_at hl 3 rfl) ?_
    refine lv_iconst (pc := 12) (v := (0 : Int32)) hx hb dX10_ledger_12 (by decide) ?_
    refine lv_iconst (pc := 13) (v := (2 : Int32)) hx hb dX10_ledger_13 (by decide) ?_
    refine hCallI (pc := 14) (wr := [oX10 q, oX4 q kd_size, oX8 q, aI K (q 6) 90 st_parted]) (wsf := fun (u : Unit) => []) [] [0, 1, 2, 3] (va_runS (As := [.int p3, .int (0 : Int32), .int (2 : Int32)]) (rest := []) ⟨hx, hb, hml, hown, hts⟩ (c_X10_within l G K tb q H.size _ p3 (0 : Int32) (2 : Int32) hw) (va_cwS 3 hts gX10_ledger_X10_within rfl rfl rfl (by decide +kernel) ⟨Nat.le_of_ble_eq_true rfl, Nat.le_of_ble_eq_true rfl⟩) (hPreS hE hP hK hD hS hA [] (by decide) rfl rfl) rfl rfl hl.1 rfl (lv_room (Nat.le_of_ble_eq_true rfl)) dX10_ledger_14 ⟨Nat.zero_le _, Nat.zero_le _⟩) hP hD hS hA rfl rfl (by decide) (by decide) (fun r_3 u H locs hw hP hD hS => ?_)
    have hP : va_P G vwCl [oX10 q, oX4 q kd_size, oX8 q, aI K (q 6) 90 st_parted] H := hP.sub [0, 1, 2, 3] rfl
    have hD : va_D A [oX10 q, oX4 q kd_size, oX8 q, aI K (q 6) 90 st_parted] := hD.sub [0, 1, 2, 3] (by decide) rfl
    refine lv_if_eq (pc := 17) (tgt := 32) hx hb dX10_ledger_17 (by decide) (fun c_4 => ?_) (fun c_4 => ?_)
    · replace hw := hw.1 c_4
      refine lv_bipush (pc := 32) (v := (-2 : Int32)) hx hb dX10_ledger_32 (by decide) ?_
      exact hRetI (S := (Nat → Int32)) st_parted hx hb hr hlocks hQ hw hP hK hD hS dX10_ledger_34
    · replace hw := hw.2 c_4
      refine lv_iload (pc := 20) hx hb dX10_ledger_20 (lv_at hl 4 rfl) ?_
      refine lv_iconst (pc := 22) (v := (0 : Int32)) hx hb dX10_ledger_22 (by decide) ?_
      refine lv_sipush (pc := 23) (v := (999 : Int32)) hx hb dX10_ledger_23 (by decide) ?_
      refine hCallI (pc := 26) (wr := [oX10 q, oX4 q kd_size, oX8 q, aI K (q 6) 90 st_parted]) (wsf := fun (u : Unit) => []) [] [0, 1, 2, 3] (va_runS (As := [.int p4, .int (0 : Int32), .int (999 : Int32)]) (rest := []) ⟨hx, hb, hml, hown, hts⟩ (c_X10_within l G K tb q H.size _ p4 (0 : Int32) (999 : Int32) hw) (va_cwS 3 hts gX10_ledger_X10_within rfl rfl rfl (by decide +kernel) ⟨Nat.le_of_ble_eq_true rfl, Nat.le_of_ble_eq_true rfl⟩) (hPreS hE hP hK hD hS hA [] (by decide) rfl rfl) rfl rfl hl.1 rfl (lv_room (Nat.le_of_ble_eq_true rfl)) dX10_ledger_26 ⟨Nat.zero_le _, Nat.zero_le _⟩) hP hD hS hA rfl rfl (by decide) (by decide) (fun r_5 u H locs hw hP hD hS => ?_)
      have hP : va_P G vwCl [oX10 q, oX4 q kd_size, oX8 q, aI K (q 6) 90 st_parted] H := hP.sub [0, 1, 2, 3] rfl
      have hD : va_D A [oX10 q, oX4 q kd_size, oX8 q, aI K (q 6) 90 st_parted] := hD.sub [0, 1, 2, 3] (by decide) rfl
      refine lv_if_ne (pc := 29) (tgt := 35) hx hb dX10_ledger_29 (by decide) (fun c_6 => ?_) (fun c_6 => ?_)
      · replace hw := hw.2 c_6
        refine lv_aload_n (pc := 35) hx hb dX10_ledger_35 rfl (lv_at hl 0 rfl) ?_
        refine va_get (pc := 36) (D := G) (ci := 10) (v := .ref (q 4)) (C := RX10) (T := TX10) (N := 10) hx hb hts iw_X10_ledger_X10 hown hK hP 0 rfl rfl 1 (by decide) (hts _ (List.mem_of_getElem? (i := 1) rfl)) (fun _ h9 => h9) rfl dX10_ledger_36 ?_
        refine lv_iload_n (pc := 39) hx hb dX10_ledger_39 rfl (lv_at hl 1 rfl) ?_
        refine lv_iload_n (pc := 40) hx hb dX10_ledger_40 rfl (lv_at hl 2 rfl) ?_
        refine hCallI (pc := 41) (wr := [oX10 q, oX4 q kd_size, oX8 q, aI K (q 6) 90 st_parted]) (wsf := fun (u : Unit) => []) [] [0, 1, 2, 3] (va_runS (As := [.int p1, .int p2]) (rest := [.ref (q 4)]) ⟨hx, hb, hml, hown, hts⟩ (c_X10_cell l G K tb q H.size _ p1 p2 hw) (va_cwS 2 hts gX10_ledger_X10_cell rfl rfl rfl (by decide +kernel) ⟨Nat.le_of_ble_eq_true rfl, Nat.le_of_ble_eq_true rfl⟩) (hPreS hE hP hK hD hS hA [] (by decide) rfl rfl) rfl rfl hl.1 rfl (lv_room (Nat.le_of_ble_eq_true rfl)) dX10_ledger_41 ⟨Nat.zero_le _, Nat.zero_le _⟩) hP hD hS hA rfl rfl (by decide) (by decide) (fun r_7 u H locs hw hP hD hS => ?_)
        have hP : va_P G vwCl [oX10 q, oX4 q kd_size, oX8 q, aI K (q 6) 90 st_parted] H := hP.sub [0, 1, 2, 3] rfl
        have hD : va_D A [oX10 q, oX4 q kd_size, oX8 q, aI K (q 6) 90 st_parted] := hD.sub [0, 1, 2, 3] (by decide) rfl
        refine lv_iload_n (pc := 44) hx hb dX10_ledger_44 rfl (lv_at hl 3 rfl) ?_
        refine lv_iload (pc := 45) hx hb dX10_ledger_45 (lv_at hl 4 rfl) ?_
        refine hCallI (pc := 47) (wr := [oX10 q, oX4 q kd_size]) (wsf := fun (u : (Nat → Int32)) => [oX8 q, aI K (q 6) 90 u]) [2, 3] [0, 1] (va_runVN (As := [.int r_7, .int p3, .int p4]) (rest := []) ⟨hx, hb, hml, hown, hts⟩ (c_X8_setParted l G K tb q H.size _ r_7 p3 p4 st_parted hw) ⟨va_cnB 3 hts gX10_ledger_X8_setParted_n137 rfl rfl rfl (hE.nw 40 rfl) (hts _ (List.mem_of_getElem? (i := 23) rfl)) (by decide +kernel) ⟨Nat.le_of_ble_eq_true rfl, Nat.le_of_ble_eq_true rfl⟩, (hts _ (List.mem_of_getElem? (i := 22) rfl)), (hts _ (List.mem_of_getElem? (i := 24) rfl))⟩ (hPreV hE hP hK hD hS hA [2, 3] (by decide) rfl rfl rfl rfl (q0 := 2) (ci := 8) rfl) rfl rfl hl.1 rfl (lv_room (Nat.le_of_ble_eq_true rfl)) dX10_ledger_47 ⟨Nat.zero_le _, Nat.zero_le _⟩) hP hD hS hA rfl rfl (by decide) (by decide) (fun r_8 u H locs hw hP hD hS => ?_)
        obtain ⟨st_parted_9, rfl⟩ : ∃ z, z = u := ⟨_, rfl⟩
        have hP : va_P G vwCl [oX10 q, oX4 q kd_size, oX8 q, aI K (q 6) 90 st_parted_9] H := hP.sub [0, 1, 2, 3] rfl
        have hD : va_D A [oX10 q, oX4 q kd_size, oX8 q, aI K (q 6) 90 st_parted_9] := hD.sub [0, 1, 2, 3] (by decide) rfl
        exact hRetI (S := (Nat → Int32)) st_parted_9 hx hb hr hlocks hQ hw hP hK hD hS dX10_ledger_50
      · replace hw := hw.1 c_6
        refine lv_bipush (pc := 32) (v := (-2 : Int32)) hx hb dX10_ledger_32 (by decide) ?_
        exact hRetI (S := (Nat → Int32)) st_parted hx hb hr hlocks hQ hw hP hK hD hS dX10_ledger_34
  · replace hw := hw.1 c_2
    refine lv_iconst (pc := 9) (v := (-1 : Int32)) hx hb dX10_ledger_9 (by decide) ?_
    exact hRetI (S := (Nat → Int32)) st_parted hx hb hr hlocks hQ hw hP hK hD hS dX10_ledger_10
def P_X10_lot (post : Int32 → (Nat → Int32) → (Nat → Int64) → Prop) (p1 : Int32) (p2 : Int32) (p3 : Int32) (pl_values : Nat → Int32) (pl_found : Nat → Int64) : Prop :=
  P_X10_isLot (fun r_1 => ((r_1 = (0 : Int32) → post (-1 : Int32) pl_values pl_found) ∧ (¬ r_1 = (0 : Int32) → P_X10_within (fun r_3 => ((r_3 = (0 : Int32) → post (-2 : Int32) pl_values pl_found) ∧ (¬ r_3 = (0 : Int32) → vp_in p2 4 ∧ P_X10_within (fun r_6 => ((r_6 = (0 : Int32) → post (-2 : Int32) pl_values pl_found) ∧ (¬ r_6 = (0 : Int32) → P_X7_setValue (fun r_8 pl_values_9 pl_found_10 => post r_8 pl_values_9 pl_found_10) p1 p2 p3 pl_values pl_found))) p3 (tLo p2.toNatClampNeg) (tHi p2.toNatClampNeg)))) p2 (0 : Int32) (3 : Int32)))) p1
abbrev rm_X10_lot : Room := { frames := 2, cells := 0, slots := 0, locals := 49 }
theorem iw_X10_lot_X10 : ∀ w ∈ wsX100, w ∈ wsX10_lot := by decide +kernel
set_option maxHeartbeats 4000000 in
set_option maxRecDepth 100000 in
theorem c_X10_lot (l : Launch) (G : va_G) (K : ClassId × ClassId × ClassId) (tb q : Nat → Nat) (sz : Nat) (pl_hands : Int32) (post : Int32 → (Nat → Int32) → (Nat → Int64) → Prop) (p1 : Int32) (p2 : Int32) (p3 : Int32) (pl_values : Nat → Int32) (pl_found : Nat → Int64) (hw : P_X10_lot post p1 p2 p3 pl_values pl_found) : Met l yX10_lot wsX10_lot rm_X10_lot (va_Pc [.ref (q 0), .int p1, .int p2, .int p3] (hPre G K tb [oX10 q, oX7 q pl_hands, aI K (q 32) 16 pl_values, aJ K (q 34) 878 pl_found] sz)) (va_Qi (fun (r : Int32) (u : (Nat → Int32) × (Nat → Int64)) => post r u.1 u.2) (fun u => hB G K (va_A [oX10 q, oX7 q pl_hands, aI K (q 32) 16 pl_values, aJ K (q 34) 878 pl_found] sz) [oX10 q, oX7 q pl_hands, aI K (q 32) 16 u.1, aJ K (q 34) 878 u.2]) (va_A [oX10 q, oX7 q pl_hands, aI K (q 32) 16 pl_values, aJ K (q 34) 878 pl_found] sz)) 0 0 (va_A [oX10 q, oX7 q pl_hands, aI K (q 32) 16 pl_values, aJ K (q 34) 878 pl_found] sz) := by
  refine hMet (fun A => va_Qi (fun (r : Int32) (u : (Nat → Int32) × (Nat → Int64)) => post r u.1 u.2) (fun u => hB G K A [oX10 q, oX7 q pl_hands, aI K (q 32) 16 u.1, aJ K (q 34) 878 u.2]) A) (by decide) rfl (Nat.le_of_ble_eq_true rfl) ?_
  intro p e s m av below meth c A Q ls hx hb hr hml hts hown hlocks hnm hA hP hK hD hS hE hQ hl
  have hts : ∀ w ∈ wsX10_lot, w.before av s = true := hts
  have hown : s.vm.findClass RX10 = some m.cls := hown
  have hl : lv_has ls 4 [(0, .ref (q 0)), (1, .int p1), (2, .int p2), (3, .int p3)] := hl
  unfold P_X10_lot at hw
  refine lv_iload_n (pc := 0) hx hb dX10_lot_0 rfl (lv_at hl 1 rfl) ?_
  refine hCallI (pc := 1) (wr := [oX10 q, oX7 q pl_hands, aI K (q 32) 16 pl_values, aJ K (q 34) 878 pl_found]) (wsf := fun (u : Unit) => []) [] [0, 1, 2, 3] (va_runS (As := [.int p1]) (rest := []) ⟨hx, hb, hml, hown, hts⟩ (c_X10_isLot l G K tb q s.heap.size _ p1 hw) (va_cwS 1 hts gX10_lot_X10_isLot rfl rfl rfl (by decide +kernel) ⟨Nat.le_of_ble_eq_true rfl, Nat.le_of_ble_eq_true rfl⟩) (hPreS hE hP hK hD hS hA [] (by decide) rfl rfl) rfl rfl hl.1 rfl (lv_room (Nat.le_of_ble_eq_true rfl)) dX10_lot_1 ⟨Nat.zero_le _, Nat.zero_le _⟩) hP hD hS hA rfl rfl (by decide) (by decide) (fun r_1 u H locs hw hP hD hS => ?_)
  have hP : va_P G vwCl [oX10 q, oX7 q pl_hands, aI K (q 32) 16 pl_values, aJ K (q 34) 878 pl_found] H := hP.sub [0, 1, 2, 3] rfl
  have hD : va_D A [oX10 q, oX7 q pl_hands, aI K (q 32) 16 pl_values, aJ K (q 34) 878 pl_found] := hD.sub [0, 1, 2, 3] (by decide) rfl
  refine lv_if_ne (pc := 4) (tgt := 9) hx hb dX10_lot_4 (by decide) (fun c_2 => ?_) (fun c_2 => ?_)
  · replace hw := hw.2 c_2
    refine lv_iload_n (pc := 9) hx hb dX10_lot_9 rfl (lv_at hl 2 rfl) ?_
    refine lv_iconst (pc := 10) (v := (0 : Int32)) hx hb dX10_lot_10 (by decide) ?_
    refine lv_iconst (pc := 11) (v := (3 : Int32)) hx hb dX10_lot_11 (by decide) ?_
    refine hCallI (pc := 12) (wr := [oX10 q, oX7 q pl_hands, aI K (q 32) 16 pl_values, aJ K (q 34) 878 pl_found]) (wsf := fun (u : Unit) => []) [] [0, 1, 2, 3] (va_runS (As := [.int p2, .int (0 : Int32), .int (3 : Int32)]) (rest := []) ⟨hx, hb, hml, hown, hts⟩ (c_X10_within l G K tb q H.size _ p2 (0 : Int32) (3 : Int32) hw) (va_cwS 3 hts gX10_lot_X10_within rfl rfl rfl (by decide +kernel) ⟨Nat.le_of_ble_eq_true rfl, Nat.le_of_ble_eq_true rfl⟩) (hPreS hE hP hK hD hS hA [] (by decide) rfl rfl) rfl rfl hl.1 rfl (lv_room (Nat.le_of_ble_eq_true rfl)) dX10_lot_12 ⟨Nat.zero_le _, Nat.zero_le _⟩) hP hD hS hA rfl rfl (by decide) (by decide) (fun r_3 u H locs hw hP hD hS => ?_)
    have hP : va_P G vwCl [oX10 q, oX7 q pl_hands, aI K (q 32) 16 pl_values, aJ K (q 34) 878 pl_found] H := hP.sub [0, 1, 2, 3] rfl
    have hD : va_D A [oX10 q, oX7 q pl_hands, aI K (q 32) 16 pl_values, aJ K (q 34) 878 pl_found] := hD.sub [0, 1, 2, 3] (by decide) rfl
    refine lv_if_eq (pc := 15) (tgt := 35) hx hb dX10_lot_15 (by decide) (fun c_4 => ?_) (fun c_4 => ?_)
    · replace hw := hw.1 c_4
      refine lv_bipush (pc := 35) (v := (-2 : Int32)) hx hb dX10_lot_35 (by decide) ?_
      exact hRetI (S := (Nat → Int32) × (Nat → Int64)) (pl_values, pl_found) hx hb hr hlocks hQ hw hP hK hD hS dX10_lot_37
    · replace hw := hw.2 c_4
      refine lv_iload_n (pc := 18) hx hb dX10_lot_18 rfl (lv_at hl 3 rfl) ?_
      refine va_getsN (pc := 19) (host := RX10) hx hb hE.2.2.1.1 hS hown (hE.use 52 rfl) (fun _ h9 => h9) dX10_lot_19 ?_
      refine lv_iload_n (pc := 22) hx hb dX10_lot_22 rfl (lv_at hl 2 rfl) ?_
      obtain ⟨h_5, hw⟩ := hw
      refine va_ti (pc := 23) (v := .int (tLo p2.toNatClampNeg)) hx hb hE.2.2.1.2 hS h_5 rfl dX10_lot_23 ?_
      refine va_getsN (pc := 24) (host := RX10) hx hb hE.2.2.2.1.1 hS hown (hE.use 53 rfl) (fun _ h9 => h9) dX10_lot_24 ?_
      refine lv_iload_n (pc := 27) hx hb dX10_lot_27 rfl (lv_at hl 2 rfl) ?_
      refine va_ti (pc := 28) (v := .int (tHi p2.toNatClampNeg)) hx hb hE.2.2.2.1.2 hS h_5 rfl dX10_lot_28 ?_
      refine hCallI (pc := 29) (wr := [oX10 q, oX7 q pl_hands, aI K (q 32) 16 pl_values, aJ K (q 34) 878 pl_found]) (wsf := fun (u : Unit) => []) [] [0, 1, 2, 3] (va_runS (As := [.int p3, .int (tLo p2.toNatClampNeg), .int (tHi p2.toNatClampNeg)]) (rest := []) ⟨hx, hb, hml, hown, hts⟩ (c_X10_within l G K tb q H.size _ p3 (tLo p2.toNatClampNeg) (tHi p2.toNatClampNeg) hw) (va_cwS 3 hts gX10_lot_X10_within rfl rfl rfl (by decide +kernel) ⟨Nat.le_of_ble_eq_true rfl, Nat.le_of_ble_eq_true rfl⟩) (hPreS hE hP hK hD hS hA [] (by decide) rfl rfl) rfl rfl hl.1 rfl (lv_room (Nat.le_of_ble_eq_true rfl)) dX10_lot_29 ⟨Nat.zero_le _, Nat.zero_le _⟩) hP hD hS hA rfl rfl (by decide) (by decide) (fun r_6 u H locs hw hP hD hS => ?_)
      have hP : va_P G vwCl [oX10 q, oX7 q pl_hands, aI K (q 32) 16 pl_values, aJ K (q 34) 878 pl_found] H := hP.sub [0, 1, 2, 3] rfl
      have hD : va_D A [oX10 q, oX7 q pl_hands, aI K (q 32) 16 pl_values, aJ K (q 34) 878 pl_found] := hD.sub [0, 1, 2, 3] (by decide) rfl
      refine lv_if_ne (pc := 32) (tgt := 38) hx hb dX10_lot_32 (by decide) (fun c_7 => ?_) (fun c_7 => ?_)
      · replace hw := hw.2 c_7
        refine lv_aload_n (pc := 38) hx hb dX10_lot_38 rfl (lv_at hl 0 rfl) ?_
        refine va_get (pc := 39) (D := G) (ci := 10) (v := .ref (q 31)) (C := RX10) (T := TX10) (N := 10) hx hb hts iw_X10_lot_X10 hown hK hP 0 rfl rfl 5 (by decide) (hts _ (List.mem_of_getElem? (i := 1) rfl)) (fun _ h9 => h9) rfl dX10_lot_39 ?_
        refine lv_iload_n (pc := 42) hx hb dX10_lot_42 rfl (lv_at hl 1 rfl) ?_
        refine lv_iload_n (pc := 43) hx hb dX10_lot_43 rfl (lv_at hl 2 rfl) ?_
        refine lv_iload_n (pc := 44) hx hb dX10_lot_44 rfl (lv_at hl 3 rfl) ?_
        refine hCallI (pc := 45) (wr := [oX10 q]) (wsf := fun (u : (Nat → Int32) × (Nat → Int64)) => [oX7 q pl_hands, aI K (q 32) 16 u.1, aJ K (q 34) 878 u.2]) [1, 2, 3] [0] (va_runVN (As := [.int p1, .int p2, .int p3]) (rest := []) ⟨hx, hb, hml, hown, hts⟩ (c_X7_setValue l G K tb q H.size pl_hands _ p1 p2 p3 pl_values pl_found hw) ⟨va_cnB 3 hts gX10_lot_X7_setValue_n185 rfl rfl rfl (hE.nw 54 rfl) (hts _ (List.mem_of_getElem? (i := 10) rfl)) (by decide +kernel) ⟨Nat.le_of_ble_eq_true rfl, Nat.le_of_ble_eq_true rfl⟩, (hts _ (List.mem_of_getElem? (i := 9) rfl)), (hts _ (List.mem_of_getElem? (i := 11) rfl))⟩ (hPreV hE hP hK hD hS hA [1, 2, 3] (by decide) rfl rfl rfl rfl (q0 := 1) (ci := 7) rfl) rfl rfl hl.1 rfl (lv_room (Nat.le_of_ble_eq_true rfl)) dX10_lot_45 ⟨Nat.zero_le _, Nat.zero_le _⟩) hP hD hS hA rfl rfl (by decide) (by decide) (fun r_8 u H locs hw hP hD hS => ?_)
        obtain ⟨pl_values_9, pl_found_10⟩ := u
        have hP : va_P G vwCl [oX10 q, oX7 q pl_hands, aI K (q 32) 16 pl_values_9, aJ K (q 34) 878 pl_found_10] H := hP.sub [0, 1, 2, 3] rfl
        have hD : va_D A [oX10 q, oX7 q pl_hands, aI K (q 32) 16 pl_values_9, aJ K (q 34) 878 pl_found_10] := hD.sub [0, 1, 2, 3] (by decide) rfl
        exact hRetI (S := (Nat → Int32) × (Nat → Int64)) (pl_values_9, pl_found_10) hx hb hr hlocks hQ hw hP hK hD hS dX10_lot_48
      · replace hw := hw.1 c_7
        refine lv_bipush (pc := 35) (v := (-2 : Int32)) hx hb dX10_lot_35 (by decide) ?_
        exact hRetI (S := (Nat → Int32) × (Nat → Int64)) (pl_values, pl_found) hx hb hr hlocks hQ hw hP hK hD hS dX10_lot_37
  · replace hw := hw.1 c_2
    refine lv_iconst (pc := 7) (v := (-1 : Int32)) hx hb dX10_lot_7 (by decide) ?_
    exact hRetI (S := (Nat → Int32) × (Nat → Int64)) (pl_values, pl_found) hx hb hr hlocks hQ hw hP hK hD hS dX10_lot_8
def P_X10_mark (post : Int32 → (Nat → Int32) → (Nat → Int32) → Int32 → Int32 → Prop) (p1 : Int32) (p2 : Int32) (p3 : Int32) (p4 : Int32) (p5 : Int32) (mk_sign : Nat → Int32) (mk_weight : Nat → Int32) (mk_pieces : Int32) (mk_finds : Int32) : Prop :=
  P_X10_isSign (fun r_1 => ((r_1 = (0 : Int32) → post (-2 : Int32) mk_sign mk_weight mk_pieces mk_finds) ∧ (¬ r_1 = (0 : Int32) → P_X10_isSign (fun r_3 => ((r_3 = (0 : Int32) → post (-2 : Int32) mk_sign mk_weight mk_pieces mk_finds) ∧ (¬ r_3 = (0 : Int32) → P_X10_isSign (fun r_5 => ((r_5 = (0 : Int32) → post (-2 : Int32) mk_sign mk_weight mk_pieces mk_finds) ∧ (¬ r_5 = (0 : Int32) → P_X10_within (fun r_7 => ((r_7 = (0 : Int32) → post (-2 : Int32) mk_sign mk_weight mk_pieces mk_finds) ∧ (¬ r_7 = (0 : Int32) → ∀ v_10 : Int32, v_10 = (if p1 = (0 : Int32) then mk_pieces else mk_finds) → ((v_10 < (8 : Int32) → P_X5_add (fun r_12 mk_sign_13 mk_weight_14 mk_pieces_15 mk_finds_16 => post r_12 mk_sign_13 mk_weight_14 mk_pieces_15 mk_finds_16) p1 p2 p3 p4 p5 mk_sign mk_weight mk_pieces mk_finds) ∧ (¬ v_10 < (8 : Int32) → post (-4 : Int32) mk_sign mk_weight mk_pieces mk_finds))))) p5 (1 : Int32) (2000 : Int32)))) p4))) p3))) p2
abbrev rm_X10_mark : Room := { frames := 2, cells := 0, slots := 0, locals := 42 }
theorem iw_X10_mark_X10 : ∀ w ∈ wsX100, w ∈ wsX10_mark := by decide +kernel
theorem iw_X10_mark_X5 : ∀ w ∈ wsX50, w ∈ wsX10_mark := by decide +kernel
set_option maxHeartbeats 4000000 in
set_option maxRecDepth 100000 in
theorem c_X10_mark (l : Launch) (G : va_G) (K : ClassId × ClassId × ClassId) (tb q : Nat → Nat) (sz : Nat) (post : Int32 → (Nat → Int32) → (Nat → Int32) → Int32 → Int32 → Prop) (p1 : Int32) (p2 : Int32) (p3 : Int32) (p4 : Int32) (p5 : Int32) (mk_sign : Nat → Int32) (mk_weight : Nat → Int32) (mk_pieces : Int32) (mk_finds : Int32) (hw : P_X10_mark post p1 p2 p3 p4 p5 mk_sign mk_weight mk_pieces mk_finds) : Met l yX10_mark wsX10_mark rm_X10_mark (va_Pc [.ref (q 0), .int p1, .int p2, .int p3, .int p4, .int p5] (hPre G K tb [oX10 q, oX5 q mk_pieces mk_finds, aI K (q 36) 48 mk_sign, aI K (q 37) 16 mk_weight] sz)) (va_Qi (fun (r : Int32) (u : (Nat → Int32) × (Nat → Int32) × Int32 × Int32) => post r u.1 u.2.1 u.2.2.1 u.2.2.2) (fun u => hB G K (va_A [oX10 q, oX5 q mk_pieces mk_finds, aI K (q 36) 48 mk_sign, aI K (q 37) 16 mk_weight] sz) [oX10 q, oX5 q u.2.2.1 u.2.2.2, aI K (q 36) 48 u.1, aI K (q 37) 16 u.2.1]) (va_A [oX10 q, oX5 q mk_pieces mk_finds, aI K (q 36) 48 mk_sign, aI K (q 37) 16 mk_weight] sz)) 0 0 (va_A [oX10 q, oX5 q mk_pieces mk_finds, aI K (q 36) 48 mk_sign, aI K (q 37) 16 mk_weight] sz) := by
  refine hMet (fun A => va_Qi (fun (r : Int32) (u : (Nat → Int32) × (Nat → Int32) × Int32 × Int32) => post r u.1 u.2.1 u.2.2.1 u.2.2.2) (fun u => hB G K A [oX10 q, oX5 q u.2.2.1 u.2.2.2, aI K (q 36) 48 u.1, aI K (q 37) 16 u.2.1]) A) (by decide) rfl (Nat.le_of_ble_eq_true rfl) ?_
  intro p e s m av below meth c A Q ls hx hb hr hml hts hown hlocks hnm hA hP hK hD hS hE hQ hl
  have hts : ∀ w ∈ wsX10_mark, w.before av s = true := hts
  have hown : s.vm.findClass RX10 = some m.cls := hown
  have hl : lv_has ls 6 [(0, .ref (q 0)), (1, .int p1), (2, .int p2), (3, .int p3), (4, .int p4), (5, .int p5)] := hl
  unfold P_X10_mark at hw
  refine lv_iload_n (pc := 0) hx hb dX10_mark_0 rfl (lv_at hl 2 rfl) ?_
  refine hCallI (pc := 1) (wr := [oX10 q, oX5 q mk_pieces mk_finds, aI K (q 36) 48 mk_sign, aI K (q 37) 16 mk_weight]) (wsf := fun (u : Unit) => []) [] [0, 1, 2, 3] (va_runS (As := [.int p2]) (rest := []) ⟨hx, hb, hml, hown, hts⟩ (c_X10_isSign l G K tb q s.heap.size _ p2 hw) (va_cwS 1 hts gX10_mark_X10_isSign rfl rfl rfl (by decide +kernel) ⟨Nat.le_of_ble_eq_true rfl, Nat.le_of_ble_eq_true rfl⟩) (hPreS hE hP hK hD hS hA [] (by decide) rfl rfl) rfl rfl hl.1 rfl (lv_room (Nat.le_of_ble_eq_true rfl)) dX10_mark_1 ⟨Nat.zero_le _, Nat.zero_le _⟩) hP hD hS hA rfl rfl (by decide) (by decide) (fun r_1 u H locs hw hP hD hS => ?_)
  have hP : va_P G vwCl [oX10 q, oX5 q mk_pieces mk_finds, aI K (q 36) 48 mk_sign, aI K (q 37) 16 mk_weight] H := hP.sub [0, 1, 2, 3] rfl
  have hD : va_D A [oX10 q, oX5 q mk_pieces mk_finds, aI K (q 36) 48 mk_sign, aI K (q 37) 16 mk_weight] := hD.sub [0, 1, 2, 3] (by decide) rfl
  refine lv_if_eq (pc := 4) (tgt := 34) hx hb dX10_mark_4 (by decide) (fun c_2 => ?_) (fun c_2 => ?_)
  · replace hw := hw.1 c_2
    refine lv_bipush (pc := 34) (v := (-2 : Int32)) hx hb dX10_mark_34 (by decide) ?_
    exact hRetI (S := (Nat → Int32) × (Nat → Int32) × Int32 × Int32) (mk_sign, mk_weight, mk_pieces, mk_finds) hx hb hr hlocks hQ hw hP hK hD hS dX10_mark_36
  · replace hw := hw.2 c_2
    refine lv_iload_n (pc := 7) hx hb dX10_mark_7 rfl (lv_at hl 3 rfl) ?_
    refine hCallI (pc := 8) (wr := [oX10 q, oX5 q mk_pieces mk_finds, aI K (q 36) 48 mk_sign, aI K (q 37) 16 mk_weight]) (wsf := fun (u : Unit) => []) [] [0, 1, 2, 3] (va_runS (As := [.int p3]) (rest := []) ⟨hx, hb, hml, hown, hts⟩ (c_X10_isSign l G K tb q H.size _ p3 hw) (va_cwS 1 hts gX10_mark_X10_isSign rfl rfl rfl (by decide +kernel) ⟨Nat.le_of_ble_eq_true rfl, Nat.le_of_ble_eq_true rfl⟩) (hPreS hE hP hK hD hS hA [] (by decide) rfl rfl) rfl rfl hl.1 rfl (lv_room (Nat.le_of_ble_eq_true rfl)) dX10_mark_8 ⟨Nat.zero_le _, Nat.zero_le _⟩) hP hD hS hA rfl rfl (by decide) (by decide) (fun r_3 u H locs hw hP hD hS => ?_)
    have hP : va_P G vwCl [oX10 q, oX5 q mk_pieces mk_finds, aI K (q 36) 48 mk_sign, aI K (q 37) 16 mk_weight] H := hP.sub [0, 1, 2, 3] rfl
    have hD : va_D A [oX10 q, oX5 q mk_pieces mk_finds, aI K (q 36) 48 mk_sign, aI K (q 37) 16 mk_weight] := hD.sub [0, 1, 2, 3] (by decide) rfl
    refine lv_if_eq (pc := 11) (tgt := 34) hx hb dX10_mark_11 (by decide) (fun c_4 => ?_) (fun c_4 => ?_)
    · replace hw := hw.1 c_4
      refine lv_bipush (pc := 34) (v := (-2 : Int32)) hx hb dX10_mark_34 (by decide) ?_
      exact hRetI (S := (Nat → Int32) × (Nat → Int32) × Int32 × Int32) (mk_sign, mk_weight, mk_pieces, mk_finds) hx hb hr hlocks hQ hw hP hK hD hS dX10_mark_36
    · replace hw := hw.2 c_4
      refine lv_iload (pc := 14) hx hb dX10_mark_14 (lv_at hl 4 rfl) ?_
      refine hCallI (pc := 16) (wr := [oX10 q, oX5 q mk_pieces mk_finds, aI K (q 36) 48 mk_sign, aI K (q 37) 16 mk_weight]) (wsf := fun (u : Unit) => []) [] [0, 1, 2, 3] (va_runS (As := [.int p4]) (rest := []) ⟨hx, hb, hml, hown, hts⟩ (c_X10_isSign l G K tb q H.size _ p4 hw) (va_cwS 1 hts gX10_mark_X10_isSign rfl rfl rfl (by decide +kernel) ⟨Nat.le_of_ble_eq_true rfl, Nat.le_of_ble_eq_true rfl⟩) (hPreS hE hP hK hD hS hA [] (by decide) rfl rfl) rfl rfl hl.1 rfl (lv_room (Nat.le_of_ble_eq_true rfl)) dX10_mark_16 ⟨Nat.zero_le _, Nat.zero_le _⟩) hP hD hS hA rfl rfl (by decide) (by decide) (fun r_5 u H locs hw hP hD hS => ?_)
      have hP : va_P G vwCl [oX10 q, oX5 q mk_pieces mk_finds, aI K (q 36) 48 mk_sign, aI K (q 37) 16 mk_weight] H := hP.sub [0, 1, 2, 3] rfl
      have hD : va_D A [oX10 q, oX5 q mk_pieces mk_finds, aI K (q 36) 48 mk_sign, aI K (q 37) 16 mk_weight] := hD.sub [0, 1, 2, 3] (by decide) rfl
      refine lv_if_eq (pc := 19) (tgt := 34) hx hb dX10_mark_19 (by decide) (fun c_6 => ?_) (fun c_6 => ?_)
      · replace hw := hw.1 c_6
        refine lv_bipush (pc := 34) (v := (-2 : Int32)) hx hb dX10_mark_34 (by decide) ?_
        exact hRetI (S := (Nat → Int32) × (Nat → Int32) × Int32 × Int32) (mk_sign, mk_weight, mk_pieces, mk_finds) hx hb hr hlocks hQ hw hP hK hD hS dX10_mark_36
      · replace hw := hw.2 c_6
        refine lv_iload (pc := 22) hx hb dX10_mark_22 (lv_at hl 5 rfl) ?_
        refine lv_iconst (pc := 24) (v := (1 : Int32)) hx hb dX10_mark_24 (by decide) ?_
        refine lv_sipush (pc := 25) (v := (2000 : Int32)) hx hb dX10_mark_25 (by decide) ?_
        refine hCallI (pc := 28) (wr := [oX10 q, oX5 q mk_pieces mk_finds, aI K (q 36) 48 mk_sign, aI K (q 37) 16 mk_weight]) (wsf := fun (u : Unit) => []) [] [0, 1, 2, 3] (va_runS (As := [.int p5, .int (1 : Int32), .int (2000 : Int32)]) (rest := []) ⟨hx, hb, hml, hown, hts⟩ (c_X10_within l G K tb q H.size _ p5 (1 : Int32) (2000 : Int32) hw) (va_cwS 3 hts gX10_mark_X10_within rfl rfl rfl (by decide +kernel) ⟨Nat.le_of_ble_eq_true rfl, Nat.le_of_ble_eq_true rfl⟩) (hPreS hE hP hK hD hS hA [] (by decide) rfl rfl) rfl rfl hl.1 rfl (lv_room (Nat.le_of_ble_eq_true rfl)) dX10_mark_28 ⟨Nat.zero_le _, Nat.zero_le _⟩) hP hD hS hA rfl rfl (by decide) (by decide) (fun r_7 u H locs hw hP hD hS => ?_)
        have hP : va_P G vwCl [oX10 q, oX5 q mk_pieces mk_finds, aI K (q 36) 48 mk_sign, aI K (q 37) 16 mk_weight] H := hP.sub [0, 1, 2, 3] rfl
        have hD : va_D A [oX10 q, oX5 q mk_pieces mk_finds, aI K (q 36) 48 mk_sign, aI K (q 37) 16 mk_weight] := hD.sub [0, 1, 2, 3] (by decide) rfl
        refine lv_if_ne (pc := 31) (tgt := 37) hx hb dX10_mark_31 (by decide) (fun c_8 => ?_) (fun c_8 => ?_)
        · replace hw := hw.2 c_8
          refine lv_iload_n (pc := 37) hx hb dX10_mark_37 rfl (lv_at hl 1 rfl) ?_
          have K_v_10 : ∀ v_10 : Int32, v_10 = (if p1 = (0 : Int32) then mk_pieces else mk_finds) → W p l e rm_X10_mark s m av below meth c H locs 0 0 Q (F0 m 58 ls [.int v_10]) := by
            intro v_10 ev_10
            replace hw := hw v_10 ev_10
            refine lv_bipush (pc := 58) (v := (8 : Int32)) hx hb dX10_mark_58 (by decide) ?_
            refine lv_icmp_lt (pc := 60) (tgt := 66) hx hb dX10_mark_60 (by decide) (fun c_11 => ?_) (fun c_11 => ?_)
            · replace hw := hw.1 c_11
              refine lv_aload_n (pc := 66) hx hb dX10_mark_66 rfl (lv_at hl 0 rfl) ?_
              refine va_get (pc := 67) (D := G) (ci := 10) (v := .ref (q 35)) (C := RX10) (T := TX10) (N := 10) hx hb hts iw_X10_mark_X10 hown hK hP 0 rfl rfl 6 (by decide) (hts _ (List.mem_of_getElem? (i := 1) rfl)) (fun _ h9 => h9) rfl dX10_mark_67 ?_
              refine lv_iload_n (pc := 70) hx hb dX10_mark_70 rfl (lv_at hl 1 rfl) ?_
              refine lv_iload_n (pc := 71) hx hb dX10_mark_71 rfl (lv_at hl 2 rfl) ?_
              refine lv_iload_n (pc := 72) hx hb dX10_mark_72 rfl (lv_at hl 3 rfl) ?_
              refine lv_iload (pc := 73) hx hb dX10_mark_73 (lv_at hl 4 rfl) ?_
              refine lv_iload (pc := 75) hx hb dX10_mark_75 (lv_at hl 5 rfl) ?_
              refine hCallI (pc := 77) (wr := [oX10 q]) (wsf := fun (u : (Nat → Int32) × (Nat → Int32) × Int32 × Int32) => [oX5 q u.2.2.1 u.2.2.2, aI K (q 36) 48 u.1, aI K (q 37) 16 u.2.1]) [1, 2, 3] [0] (va_runVN (As := [.int p1, .int p2, .int p3, .int p4, .int p5]) (rest := []) ⟨hx, hb, hml, hown, hts⟩ (c_X5_add l G K tb q H.size _ p1 p2 p3 p4 p5 mk_sign mk_weight mk_pieces mk_finds hw) ⟨va_cnB 5 hts gX10_mark_X5_add_n220 rfl rfl rfl (hE.nw 60 rfl) (hts _ (List.mem_of_getElem? (i := 10) rfl)) (by decide +kernel) ⟨Nat.le_of_ble_eq_true rfl, Nat.le_of_ble_eq_true rfl⟩, (hts _ (List.mem_of_getElem? (i := 9) rfl)), (hts _ (List.mem_of_getElem? (i := 11) rfl))⟩ (hPreV hE hP hK hD hS hA [1, 2, 3] (by decide) rfl rfl rfl rfl (q0 := 1) (ci := 5) rfl) rfl rfl hl.1 rfl (lv_room (Nat.le_of_ble_eq_true rfl)) dX10_mark_77 ⟨Nat.zero_le _, Nat.zero_le _⟩) hP hD hS hA rfl rfl (by decide) (by decide) (fun r_12 u H locs hw hP hD hS => ?_)
              obtain ⟨mk_sign_13, mk_weight_14, mk_pieces_15, mk_finds_16⟩ := u
              have hP : va_P G vwCl [oX10 q, oX5 q mk_pieces_15 mk_finds_16, aI K (q 36) 48 mk_sign_13, aI K (q 37) 16 mk_weight_14] H := hP.sub [0, 1, 2, 3] rfl
              have hD : va_D A [oX10 q, oX5 q mk_pieces_15 mk_finds_16, aI K (q 36) 48 mk_sign_13, aI K (q 37) 16 mk_weight_14] := hD.sub [0, 1, 2, 3] (by decide) rfl
              exact hRetI (S := (Nat → Int32) × (Nat → Int32) × Int32 × Int32) (mk_sign_13, mk_weight_14, mk_pieces_15, mk_finds_16) hx hb hr hlocks hQ hw hP hK hD hS dX10_mark_80
            · replace hw := hw.2 c_11
              refine lv_bipush (pc := 63) (v := (-4 : Int32)) hx hb dX10_mark_63 (by decide) ?_
              exact hRetI (S := (Nat → Int32) × (Nat → Int32) × Int32 × Int32) (mk_sign, mk_weight, mk_pieces, mk_finds) hx hb hr hlocks hQ hw hP hK hD hS dX10_mark_65
          refine lv_if_eq (pc := 38) (tgt := 51) hx hb dX10_mark_38 (by decide) (fun c_9 => ?_) (fun c_9 => ?_)
          · skip
            refine lv_aload_n (pc := 51) hx hb dX10_mark_51 rfl (lv_at hl 0 rfl) ?_
            refine va_get (pc := 52) (D := G) (ci := 10) (v := .ref (q 35)) (C := RX10) (T := TX10) (N := 10) hx hb hts iw_X10_mark_X10 hown hK hP 0 rfl rfl 6 (by decide) (hts _ (List.mem_of_getElem? (i := 1) rfl)) (fun _ h9 => h9) rfl dX10_mark_52 ?_
            refine va_getN (pc := 55) (D := G) (host := RX10) (ci := 5) (v := .int mk_pieces) (C := RX5) (T := TX5) (N := 4) hx hb hts iw_X10_mark_X5 hown hK hP 1 rfl rfl 2 (by decide) (hE.use 21 rfl) (fun _ h9 => h9) rfl dX10_mark_55 ?_
            exact K_v_10 _ (by rw [if_pos c_9])
          · skip
            refine lv_aload_n (pc := 41) hx hb dX10_mark_41 rfl (lv_at hl 0 rfl) ?_
            refine va_get (pc := 42) (D := G) (ci := 10) (v := .ref (q 35)) (C := RX10) (T := TX10) (N := 10) hx hb hts iw_X10_mark_X10 hown hK hP 0 rfl rfl 6 (by decide) (hts _ (List.mem_of_getElem? (i := 1) rfl)) (fun _ h9 => h9) rfl dX10_mark_42 ?_
            refine va_getN (pc := 45) (D := G) (host := RX10) (ci := 5) (v := .int mk_finds) (C := RX5) (T := TX5) (N := 4) hx hb hts iw_X10_mark_X5 hown hK hP 1 rfl rfl 3 (by decide) (hE.use 23 rfl) (fun _ h9 => h9) rfl dX10_mark_45 ?_
            refine lv_goto (pc := 48) (tgt := 58) hx hb dX10_mark_48 (by decide) ?_
            exact K_v_10 _ (by rw [if_neg c_9])
        · replace hw := hw.1 c_8
          refine lv_bipush (pc := 34) (v := (-2 : Int32)) hx hb dX10_mark_34 (by decide) ?_
          exact hRetI (S := (Nat → Int32) × (Nat → Int32) × Int32 × Int32) (mk_sign, mk_weight, mk_pieces, mk_finds) hx hb hr hlocks hQ hw hP hK hD hS dX10_mark_36
def P_X10_match (post : Int32 → Prop) (p1 : Int32) (p2 : Int32) (p3 : Int32) (pl_values : Nat → Int32) : Prop :=
  P_X10_isLot (fun r_1 => ((r_1 = (0 : Int32) → post (-1 : Int32)) ∧ (¬ r_1 = (0 : Int32) → P_X10_isLot (fun r_3 => ((r_3 = (0 : Int32) → post (-1 : Int32)) ∧ (¬ r_3 = (0 : Int32) → P_X10_within (fun r_5 => ((r_5 = (0 : Int32) → post (-2 : Int32)) ∧ (¬ r_5 = (0 : Int32) → P_X7_apart (fun r_7 => ∀ v_9 : Int32, v_9 = (if p3 < r_7 then (0 : Int32) else (1 : Int32)) → post v_9) p1 p2 pl_values))) p3 (0 : Int32) (200 : Int32)))) p2))) p1
abbrev rm_X10_match : Room := { frames := 2, cells := 0, slots := 0, locals := 45 }
theorem iw_X10_match_X10 : ∀ w ∈ wsX100, w ∈ wsX10_match := by decide +kernel
set_option maxHeartbeats 4000000 in
set_option maxRecDepth 100000 in
theorem c_X10_match (l : Launch) (G : va_G) (K : ClassId × ClassId × ClassId) (tb q : Nat → Nat) (sz : Nat) (pl_hands : Int32) (post : Int32 → Prop) (p1 : Int32) (p2 : Int32) (p3 : Int32) (pl_values : Nat → Int32) (hw : P_X10_match post p1 p2 p3 pl_values) : Met l yX10_match wsX10_match rm_X10_match (va_Pc [.ref (q 0), .int p1, .int p2, .int p3] (hPre G K tb [oX10 q, oX7 q pl_hands, aI K (q 32) 16 pl_values] sz)) (va_Qi (fun (r : Int32) (u : Unit) => post r) (fun u => hB G K (va_A [oX10 q, oX7 q pl_hands, aI K (q 32) 16 pl_values] sz) [oX10 q, oX7 q pl_hands, aI K (q 32) 16 pl_values]) (va_A [oX10 q, oX7 q pl_hands, aI K (q 32) 16 pl_values] sz)) 0 0 (va_A [oX10 q, oX7 q pl_hands, aI K (q 32) 16 pl_values] sz) := by
  refine hMet (fun A => va_Qi (fun (r : Int32) (u : Unit) => post r) (fun u => hB G K A [oX10 q, oX7 q pl_hands, aI K (q 32) 16 pl_values]) A) (by decide) rfl (Nat.le_of_ble_eq_true rfl) ?_
  intro p e s m av below meth c A Q ls hx hb hr hml hts hown hlocks hnm hA hP hK hD hS hE hQ hl
  have hts : ∀ w ∈ wsX10_match, w.before av s = true := hts
  have hown : s.vm.findClass RX10 = some m.cls := hown
  have hl : lv_has ls 4 [(0, .ref (q 0)), (1, .int p1), (2, .int p2), (3, .int p3)] := hl
  unfold P_X10_match at hw
  refine lv_iload_n (pc := 0) hx hb dX10_match_0 rfl (lv_at hl 1 rfl) ?_
  refine hCallI (pc := 1) (wr := [oX10 q, oX7 q pl_hands, aI K (q 32) 16 pl_values]) (wsf := fun (u : Unit) => []) [] [0, 1, 2] (va_runS (As := [.int p1]) (rest := []) ⟨hx, hb, hml, hown, hts⟩ (c_X10_isLot l G K tb q s.heap.size _ p1 hw) (va_cwS 1 hts gX10_match_X10_isLot rfl rfl rfl (by decide +kernel) ⟨Nat.le_of_ble_eq_true rfl, Nat.le_of_ble_eq_true rfl⟩) (hPreS hE hP hK hD hS hA [] (by decide) rfl rfl) rfl rfl hl.1 rfl (lv_room (Nat.le_of_ble_eq_true rfl)) dX10_match_1 ⟨Nat.zero_le _, Nat.zero_le _⟩) hP hD hS hA rfl rfl (by decide) (by decide) (fun r_1 u H locs hw hP hD hS => ?_)
  have hP : va_P G vwCl [oX10 q, oX7 q pl_hands, aI K (q 32) 16 pl_values] H := hP.sub [0, 1, 2] rfl
  have hD : va_D A [oX10 q, oX7 q pl_hands, aI K (q 32) 16 pl_values] := hD.sub [0, 1, 2] (by decide) rfl
  refine lv_if_eq (pc := 4) (tgt := 14) hx hb dX10_match_4 (by decide) (fun c_2 => ?_) (fun c_2 => ?_)
  · replace hw := hw.1 c_2
    refine lv_iconst (pc := 14) (v := (-1 : Int32)) hx hb dX10_match_14 (by decide) ?_
    exact hRetI (S := Unit) () hx hb hr hlocks hQ hw hP hK hD hS dX10_match_15
  · replace hw := hw.2 c_2
    refine lv_iload_n (pc := 7) hx hb dX10_match_7 rfl (lv_at hl 2 rfl) ?_
    refine hCallI (pc := 8) (wr := [oX10 q, oX7 q pl_hands, aI K (q 32) 16 pl_values]) (wsf := fun (u : Unit) => []) [] [0, 1, 2] (va_runS (As := [.int p2]) (rest := []) ⟨hx, hb, hml, hown, hts⟩ (c_X10_isLot l G K tb q H.size _ p2 hw) (va_cwS 1 hts gX10_match_X10_isLot rfl rfl rfl (by decide +kernel) ⟨Nat.le_of_ble_eq_true rfl, Nat.le_of_ble_eq_true rfl⟩) (hPreS hE hP hK hD hS hA [] (by decide) rfl rfl) rfl rfl hl.1 rfl (lv_room (Nat.le_of_ble_eq_true rfl)) dX10_match_8 ⟨Nat.zero_le _, Nat.zero_le _⟩) hP hD hS hA rfl rfl (by decide) (by decide) (fun r_3 u H locs hw hP hD hS => ?_)
    have hP : va_P G vwCl [oX10 q, oX7 q pl_hands, aI K (q 32) 16 pl_values] H := hP.sub [0, 1, 2] rfl
    have hD : va_D A [oX10 q, oX7 q pl_hands, aI K (q 32) 16 pl_values] := hD.sub [0, 1, 2] (by decide) rfl
    refine lv_if_ne (pc := 11) (tgt := 16) hx hb dX10_match_11 (by decide) (fun c_4 => ?_) (fun c_4 => ?_)
    · replace hw := hw.2 c_4
      refine lv_iload_n (pc := 16) hx hb dX10_match_16 rfl (lv_at hl 3 rfl) ?_
      refine lv_iconst (pc := 17) (v := (0 : Int32)) hx hb dX10_match_17 (by decide) ?_
      refine lv_sipush (pc := 18) (v := (200 : Int32)) hx hb dX10_match_18 (by decide) ?_
      refine hCallI (pc := 21) (wr := [oX10 q, oX7 q pl_hands, aI K (q 32) 16 pl_values]) (wsf := fun (u : Unit) => []) [] [0, 1, 2] (va_runS (As := [.int p3, .int (0 : Int32), .int (200 : Int32)]) (rest := []) ⟨hx, hb, hml, hown, hts⟩ (c_X10_within l G K tb q H.size _ p3 (0 : Int32) (200 : Int32) hw) (va_cwS 3 hts gX10_match_X10_within rfl rfl rfl (by decide +kernel) ⟨Nat.le_of_ble_eq_true rfl, Nat.le_of_ble_eq_true rfl⟩) (hPreS hE hP hK hD hS hA [] (by decide) rfl rfl) rfl rfl hl.1 rfl (lv_room (Nat.le_of_ble_eq_true rfl)) dX10_match_21 ⟨Nat.zero_le _, Nat.zero_le _⟩) hP hD hS hA rfl rfl (by decide) (by decide) (fun r_5 u H locs hw hP hD hS => ?_)
      have hP : va_P G vwCl [oX10 q, oX7 q pl_hands, aI K (q 32) 16 pl_values] H := hP.sub [0, 1, 2] rfl
      have hD : va_D A [oX10 q, oX7 q pl_hands, aI K (q 32) 16 pl_values] := hD.sub [0, 1, 2] (by decide) rfl
      refine lv_if_ne (pc := 24) (tgt := 30) hx hb dX10_match_24 (by decide) (fun c_6 => ?_) (fun c_6 => ?_)
      · replace hw := hw.2 c_6
        refine lv_aload_n (pc := 30) hx hb dX10_match_30 rfl (lv_at hl 0 rfl) ?_
        refine va_get (pc := 31) (D := G) (ci := 10) (v := .ref (q 31)) (C := RX10) (T := TX10) (N := 10) hx hb hts iw_X10_match_X10 hown hK hP 0 rfl rfl 5 (by decide) (hts _ (List.mem_of_getElem? (i := 1) rfl)) (fun _ h9 => h9) rfl dX10_match_31 ?_
        refine lv_iload_n (pc := 34) hx hb dX10_match_34 rfl (lv_at hl 1 rfl) ?_
        refine lv_iload_n (pc := 35) hx hb dX10_match_35 rfl (lv_at hl 2 rfl) ?_
        refine hCallI (pc := 36) (wr := [oX10 q]) (wsf := fun (u : Unit) => [oX7 q pl_hands, aI K (q 32) 16 pl_values]) [1, 2] [0] (va_runVN (As := [.int p1, .int p2]) (rest := []) ⟨hx, hb, hml, hown, hts⟩ (c_X7_apart l G K tb q H.size pl_hands _ p1 p2 pl_values hw) ⟨va_cnB 2 hts gX10_match_X7_apart_n208 rfl rfl rfl (hE.nw 59 rfl) (hts _ (List.mem_of_getElem? (i := 10) rfl)) (by decide +kernel) ⟨Nat.le_of_ble_eq_true rfl, Nat.le_of_ble_eq_true rfl⟩, (hts _ (List.mem_of_getElem? (i := 9) rfl)), (hts _ (List.mem_of_getElem? (i := 11) rfl))⟩ (hPreV hE hP hK hD hS hA [1, 2] (by decide) rfl rfl rfl rfl (q0 := 1) (ci := 7) rfl) rfl rfl hl.1 rfl (lv_room (Nat.le_of_ble_eq_true rfl)) dX10_match_36 ⟨Nat.zero_le _, Nat.zero_le _⟩) hP hD hS hA rfl rfl (by decide) (by decide) (fun r_7 u H locs hw hP hD hS => ?_)
        have hP : va_P G vwCl [oX10 q, oX7 q pl_hands, aI K (q 32) 16 pl_values] H := hP.sub [0, 1, 2] rfl
        have hD : va_D A [oX10 q, oX7 q pl_hands, aI K (q 32) 16 pl_values] := hD.sub [0, 1, 2] (by decide) rfl
        refine lv_iload_n (pc := 39) hx hb dX10_match_39 rfl (lv_at hl 3 rfl) ?_
        have K_v_9 : ∀ v_9 : Int32, v_9 = (if p3 < r_7 then (0 : Int32) else (1 : Int32)) → W p l e rm_X10_match s m av below meth c H locs 0 0 Q (F0 m 48 ls [.int v_9]) := by
          intro v_9 ev_9
          replace hw := hw v_9 ev_9
          exact hRetI (S := Unit) () hx hb hr hlocks hQ hw hP hK hD hS dX10_match_48
        refine lv_icmp_gt (pc := 40) (tgt := 47) hx hb dX10_match_40 (by decide) (fun c_8 => ?_) (fun c_8 => ?_)
        · skip
          refine lv_iconst (pc := 47) (v := (0 : Int32)) hx hb dX10_match_47 (by decide) ?_
          exact K_v_9 _ (by rw [if_pos c_8])
        · skip
          refine lv_iconst (pc := 43) (v := (1 : Int32)) hx hb dX10_match_43 (by decide) ?_
          refine lv_goto (pc := 44) (tgt := 48) hx hb dX10_match_44 (by decide) ?_
          exact K_v_9 _ (by rw [if_neg c_8])
      · replace hw := hw.1 c_6
        refine lv_bipush (pc := 27) (v := (-2 : Int32)) hx hb dX10_match_27 (by decide) ?_
        exact hRetI (S := Unit) () hx hb hr hlocks hQ hw hP hK hD hS dX10_match_29
    · replace hw := hw.1 c_4
      refine lv_iconst (pc := 14) (v := (-1 : Int32)) hx hb dX10_match_14 (by decide) ?_
      exact hRetI (S := Unit) () hx hb hr hlocks hQ hw hP hK hD hS dX10_match_15
def P_X10_missingIn (post : Int32 → Prop) (p1 : Int32) (p2 : Int32) (st_booked : Nat → Int32) (st_parted : Nat → Int32) (wg_cellOf : Nat → Int32) (wg_fewest : Nat → Int32) (wg_most : Nat → Int32) (wg_counts : Nat → Int32) (wg_size : Int32) : Prop :=
  ∀ v_2 : Int32, v_2 = (if p2 = (0 : Int32) then (1 : Int32) else (0 : Int32)) → P_X9_edge (fun r_3 => ((r_3 = (-9 : Int32) → post (-9 : Int32)) ∧ (¬ r_3 = (-9 : Int32) → P_X8_lost (fun r_5 => ∀ y_6 : Int32, y_6 = (if (0 : Int32) < (r_5 - r_3) then (r_5 - r_3) else (0 : Int32)) → post y_6) p1 st_booked st_parted))) p1 v_2 wg_cellOf wg_fewest wg_most wg_counts wg_size
abbrev rm_X10_missingIn : Room := { frames := 2, cells := 0, slots := 0, locals := 48 }
theorem iw_X10_missingIn_X10 : ∀ w ∈ wsX100, w ∈ wsX10_missingIn := by decide +kernel
set_option maxHeartbeats 4000000 in
set_option maxRecDepth 100000 in
theorem c_X10_missingIn (l : Launch) (G : va_G) (K : ClassId × ClassId × ClassId) (tb q : Nat → Nat) (sz : Nat) (post : Int32 → Prop) (p1 : Int32) (p2 : Int32) (st_booked : Nat → Int32) (st_parted : Nat → Int32) (wg_cellOf : Nat → Int32) (wg_fewest : Nat → Int32) (wg_most : Nat → Int32) (wg_counts : Nat → Int32) (wg_size : Int32) (hw : P_X10_missingIn post p1 p2 st_booked st_parted wg_cellOf wg_fewest wg_most wg_counts wg_size) : Met l yX10_missingIn wsX10_missingIn rm_X10_missingIn (va_Pc [.ref (q 0), .int p1, .int p2] (hPre G K tb [oX10 q, oX8 q, aI K (q 5) 30 st_booked, aI K (q 6) 90 st_parted, oX9 q wg_size, aI K (q 8) 40 wg_cellOf, aI K (q 9) 40 wg_fewest, aI K (q 10) 40 wg_most, aZ K (q 11) 40 wg_counts] sz)) (va_Qi (fun (r : Int32) (u : Unit) => post r) (fun u => hB G K (va_A [oX10 q, oX8 q, aI K (q 5) 30 st_booked, aI K (q 6) 90 st_parted, oX9 q wg_size, aI K (q 8) 40 wg_cellOf, aI K (q 9) 40 wg_fewest, aI K (q 10) 40 wg_most, aZ K (q 11) 40 wg_counts] sz) [oX10 q, oX8 q, aI K (q 5) 30 st_booked, aI K (q 6) 90 st_parted, oX9 q wg_size, aI K (q 8) 40 wg_cellOf, aI K (q 9) 40 wg_fewest, aI K (q 10) 40 wg_most, aZ K (q 11) 40 wg_counts]) (va_A [oX10 q, oX8 q, aI K (q 5) 30 st_booked, aI K (q 6) 90 st_parted, oX9 q wg_size, aI K (q 8) 40 wg_cellOf, aI K (q 9) 40 wg_fewest, aI K (q 10) 40 wg_most, aZ K (q 11) 40 wg_counts] sz)) 0 0 (va_A [oX10 q, oX8 q, aI K (q 5) 30 st_booked, aI K (q 6) 90 st_parted, oX9 q wg_size, aI K (q 8) 40 wg_cellOf, aI K (q 9) 40 wg_fewest, aI K (q 10) 40 wg_most, aZ K (q 11) 40 wg_counts] sz) := by
  refine hMet (fun A => va_Qi (fun (r : Int32) (u : Unit) => post r) (fun u => hB G K A [oX10 q, oX8 q, aI K (q 5) 30 st_booked, aI K (q 6) 90 st_parted, oX9 q wg_size, aI K (q 8) 40 wg_cellOf, aI K (q 9) 40 wg_fewest, aI K (q 10) 40 wg_most, aZ K (q 11) 40 wg_counts]) A) (by decide) rfl (Nat.le_of_ble_eq_true rfl) ?_
  intro p e s m av below meth c A Q ls hx hb hr hml hts hown hlocks hnm hA hP hK hD hS hE hQ hl
  have hts : ∀ w ∈ wsX10_missingIn, w.before av s = true := hts
  have hown : s.vm.findClass RX10 = some m.cls := hown
  have hl : lv_has ls 4 [(0, .ref (q 0)), (1, .int p1), (2, .int p2)] := hl
  unfold P_X10_missingIn at hw
  refine lv_aload_n (pc := 0) hx hb dX10_missingIn_0 rfl (lv_at hl 0 rfl) ?_
  refine va_get (pc := 1) (D := G) (ci := 10) (v := .ref (q 7)) (C := RX10) (T := TX10) (N := 10) hx hb hts iw_X10_missingIn_X10 hown hK hP 0 rfl rfl 2 (by decide) (hts _ (List.mem_of_getElem? (i := 1) rfl)) (fun _ h9 => h9) rfl dX10_missingIn_1 ?_
  refine lv_iload_n (pc := 4) hx hb dX10_missingIn_4 rfl (lv_at hl 1 rfl) ?_
  refine lv_iload_n (pc := 5) hx hb dX10_missingIn_5 rfl (lv_at hl 2 rfl) ?_
  have K_v_2 : ∀ v_2 : Int32, v_2 = (if p2 = (0 : Int32) then (1 : Int32) else (0 : Int32)) → W p l e rm_X10_missingIn s m av below meth c s.heap [] 0 0 Q (F0 m 14 ls [.int v_2, .int p1, .ref (q 7)]) := by
    intro v_2 ev_2
    replace hw := hw v_2 ev_2
    refine hCallI (pc := 14) (wr := [oX10 q, oX8 q, aI K (q 5) 30 st_booked, aI K (q 6) 90 st_parted]) (wsf := fun (u : Unit) => [oX9 q wg_size, aI K (q 8) 40 wg_cellOf, aI K (q 9) 40 wg_fewest, aI K (q 10) 40 wg_most, aZ K (q 11) 40 wg_counts]) [4, 5, 6, 7, 8] [0, 1, 2, 3] (va_runVN (As := [.int p1, .int v_2]) (rest := []) ⟨hx, hb, hml, hown, hts⟩ (c_X9_edge l G K tb q s.heap.size _ p1 v_2 wg_cellOf wg_fewest wg_most wg_counts wg_size hw) ⟨va_cnB 2 hts gX10_missingIn_X9_edge_n118 rfl rfl rfl (hE.nw 36 rfl) (hts _ (List.mem_of_getElem? (i := 8) rfl)) (by decide +kernel) ⟨Nat.le_of_ble_eq_true rfl, Nat.le_of_ble_eq_true rfl⟩, (hts _ (List.mem_of_getElem? (i := 7) rfl)), (hts _ (List.mem_of_getElem? (i := 9) rfl))⟩ (hPreV hE hP hK hD hS hA [4, 5, 6, 7, 8] (by decide) rfl rfl rfl rfl (q0 := 4) (ci := 9) rfl) rfl rfl hl.1 rfl (lv_room (Nat.le_of_ble_eq_true rfl)) dX10_missingIn_14 ⟨Nat.zero_le _, Nat.zero_le _⟩) hP hD hS hA rfl rfl (by decide) (by decide) (fun r_3 u H locs hw hP hD hS => ?_)
    have hP : va_P G vwCl [oX10 q, oX8 q, aI K (q 5) 30 st_booked, aI K (q 6) 90 st_parted, oX9 q wg_size, aI K (q 8) 40 wg_cellOf, aI K (q 9) 40 wg_fewest, aI K (q 10) 40 wg_most, aZ K (q 11) 40 wg_counts] H := hP.sub [0, 1, 2, 3, 4, 5, 6, 7, 8] rfl
    have hD : va_D A [oX10 q, oX8 q, aI K (q 5) 30 st_booked, aI K (q 6) 90 st_parted, oX9 q wg_size, aI K (q 8) 40 wg_cellOf, aI K (q 9) 40 wg_fewest, aI K (q 10) 40 wg_most, aZ K (q 11) 40 wg_counts] := hD.sub [0, 1, 2, 3, 4, 5, 6, 7, 8] (by decide) rfl
    refine lv_istore_n (pc := 17) (lv' := [(3, .int r_3), (0, .ref (q 0)), (1, .int p1), (2, .int p2)]) hx hb dX10_missingIn_17 rfl hl (by decide) rfl (fun ls hl => ?_)
    refine lv_iload_n (pc := 18) hx hb dX10_missingIn_18 rfl (lv_at hl 0 rfl) ?_
    refine lv_bipush (pc := 19) (v := (-9 : Int32)) hx hb dX10_missingIn_19 (by decide) ?_
    refine lv_icmp_ne (pc := 21) (tgt := 29) hx hb dX10_missingIn_21 (by decide) (fun c_4 => ?_) (fun c_4 => ?_)
    · replace hw := hw.2 c_4
      refine lv_iconst (pc := 29) (v := (0 : Int32)) hx hb dX10_missingIn_29 (by decide) ?_
      refine lv_aload_n (pc := 30) hx hb dX10_missingIn_30 rfl (lv_at hl 1 rfl) ?_
      refine va_get (pc := 31) (D := G) (ci := 10) (v := .ref (q 4)) (C := RX10) (T := TX10) (N := 10) hx hb hts iw_X10_missingIn_X10 hown hK hP 0 rfl rfl 1 (by decide) (hts _ (List.mem_of_getElem? (i := 2) rfl)) (fun _ h9 => h9) rfl dX10_missingIn_31 ?_
      refine lv_iload_n (pc := 34) hx hb dX10_missingIn_34 rfl (lv_at hl 2 rfl) ?_
      refine hCallI (pc := 35) (wr := [oX10 q, oX9 q wg_size, aI K (q 8) 40 wg_cellOf, aI K (q 9) 40 wg_fewest, aI K (q 10) 40 wg_most, aZ K (q 11) 40 wg_counts]) (wsf := fun (u : Unit) => [oX8 q, aI K (q 5) 30 st_booked, aI K (q 6) 90 st_parted]) [1, 2, 3] [0, 4, 5, 6, 7, 8] (va_runVN (As := [.int p1]) (rest := [.int (0 : Int32)]) ⟨hx, hb, hml, hown, hts⟩ (c_X8_lost l G K tb q H.size _ p1 st_booked st_parted hw) ⟨va_cnB 1 hts gX10_missingIn_X8_lost_n276 rfl rfl rfl (hE.nw 41 rfl) (hts _ (List.mem_of_getElem? (i := 25) rfl)) (by decide +kernel) ⟨Nat.le_of_ble_eq_true rfl, Nat.le_of_ble_eq_true rfl⟩, (hts _ (List.mem_of_getElem? (i := 24) rfl)), (hts _ (List.mem_of_getElem? (i := 26) rfl))⟩ (hPreV hE hP hK hD hS hA [1, 2, 3] (by decide) rfl rfl rfl rfl (q0 := 1) (ci := 8) rfl) rfl rfl hl.1 rfl (lv_room (Nat.le_of_ble_eq_true rfl)) dX10_missingIn_35 ⟨Nat.zero_le _, Nat.zero_le _⟩) hP hD hS hA rfl rfl (by decide) (by decide) (fun r_5 u H locs hw hP hD hS => ?_)
      have hP : va_P G vwCl [oX10 q, oX8 q, aI K (q 5) 30 st_booked, aI K (q 6) 90 st_parted, oX9 q wg_size, aI K (q 8) 40 wg_cellOf, aI K (q 9) 40 wg_fewest, aI K (q 10) 40 wg_most, aZ K (q 11) 40 wg_counts] H := hP.sub [0, 6, 7, 8, 1, 2, 3, 4, 5] rfl
      have hD : va_D A [oX10 q, oX8 q, aI K (q 5) 30 st_booked, aI K (q 6) 90 st_parted, oX9 q wg_size, aI K (q 8) 40 wg_cellOf, aI K (q 9) 40 wg_fewest, aI K (q 10) 40 wg_most, aZ K (q 11) 40 wg_counts] := hD.sub [0, 6, 7, 8, 1, 2, 3, 4, 5] (by decide) rfl
      refine lv_iload_n (pc := 38) hx hb dX10_missingIn_38 rfl (lv_at hl 0 rfl) ?_
      refine lv_isub (pc := 39) hx hb dX10_missingIn_39 ?_
      refine va_mmax (pc := 40) hx hb (hml.trans hl.1.symm) hown (hts _ (List.mem_of_getElem? (i := 3) rfl)) (hts _ (List.mem_of_getElem? (i := 4) rfl)) (hts _ (List.mem_of_getElem? (i := 5) rfl)) (hts _ (List.mem_of_getElem? (i := 6) rfl)) (Nat.le_of_ble_eq_true rfl) (Nat.le_of_ble_eq_true rfl) (Nat.zero_le _) (Nat.zero_le _) dX10_missingIn_40 ?_
      refine lv_topi (fun y_6 ey_6 => ?_)
      replace hw := hw y_6 ey_6
      exact hRetI (S := Unit) () hx hb hr hlocks hQ hw hP hK hD hS dX10_missingIn_43
    · replace hw := hw.1 c_4
      refine lv_bipush (pc := 24) (v := (-9 : Int32)) hx hb dX10_missingIn_24 (by decide) ?_
      refine lv_goto (pc := 26) (tgt := 43) hx hb dX10_missingIn_26 (by decide) ?_
      exact hRetI (S := Unit) () hx hb hr hlocks hQ hw hP hK hD hS dX10_missingIn_43
  refine lv_if_ne (pc := 6) (tgt := 13) hx hb dX10_missingIn_6 (by decide) (fun c_1 => ?_) (fun c_1 => ?_)
  · skip
    refine lv_iconst (pc := 13) (v := (0 : Int32)) hx hb dX10_missingIn_13 (by decide) ?_
    exact K_v_2 _ (by rw [if_neg c_1])
  · skip
    refine lv_iconst (pc := 9) (v := (1 : Int32)) hx hb dX10_missingIn_9 (by decide) ?_
    refine lv_goto (pc := 10) (tgt := 14) hx hb dX10_missingIn_10 (by decide) ?_
    exact K_v_2 _ (by rw [if_pos c_1])
def P_X10_missing (post : Int32 → Prop) (p1 : Int32) (p2 : Int32) (p3 : Int32) (kd_size : Int32) (st_booked : Nat → Int32) (st_parted : Nat → Int32) (wg_cellOf : Nat → Int32) (wg_fewest : Nat → Int32) (wg_most : Nat → Int32) (wg_counts : Nat → Int32) (wg_size : Int32) : Prop :=
  P_X10_isCell (fun r_1 => ((r_1 = (0 : Int32) → post (-1 : Int32)) ∧ (¬ r_1 = (0 : Int32) → P_X10_cell (fun r_3 => P_X10_missingIn (fun r_4 => ∀ v_6 : Int32, v_6 = (if r_4 = (-9 : Int32) then (-3 : Int32) else r_4) → post v_6) r_3 p3 st_booked st_parted wg_cellOf wg_fewest wg_most wg_counts wg_size) p1 p2))) p1 p2 kd_size
abbrev rm_X10_missing : Room := { frames := 3, cells := 0, slots := 0, locals := 71 }
set_option maxHeartbeats 4000000 in
set_option maxRecDepth 100000 in
theorem c_X10_missing (l : Launch) (G : va_G) (K : ClassId × ClassId × ClassId) (tb q : Nat → Nat) (sz : Nat) (post : Int32 → Prop) (p1 : Int32) (p2 : Int32) (p3 : Int32) (kd_size : Int32) (st_booked : Nat → Int32) (st_parted : Nat → Int32) (wg_cellOf : Nat → Int32) (wg_fewest : Nat → Int32) (wg_most : Nat → Int32) (wg_counts : Nat → Int32) (wg_size : Int32) (hw : P_X10_missing post p1 p2 p3 kd_size st_booked st_parted wg_cellOf wg_fewest wg_most wg_counts wg_size) : Met l yX10_missing wsX10_missing rm_X10_missing (va_Pc [.ref (q 0), .int p1, .int p2, .int p3] (hPre G K tb [oX10 q, oX4 q kd_size, oX8 q, aI K (q 5) 30 st_booked, aI K (q 6) 90 st_parted, oX9 q wg_size, aI K (q 8) 40 wg_cellOf, aI K (q 9) 40 wg_fewest, aI K (q 10) 40 wg_most, aZ K (q 11) 40 wg_counts] sz)) (va_Qi (fun (r : Int32) (u : Unit) => post r) (fun u => hB G K (va_A [oX10 q, oX4 q kd_size, oX8 q, aI K (q 5) 30 st_booked, aI K (q 6) 90 st_parted, oX9 q wg_size, aI K (q 8) 40 wg_cellOf, aI K (q 9) 40 wg_fewest, aI K (q 10) 40 wg_most, aZ K (q 11) 40 wg_counts] sz) [oX10 q, oX4 q kd_size, oX8 q, aI K (q 5) 30 st_booked, aI K (q 6) 90 st_parted, oX9 q wg_size, aI K (q 8) 40 wg_cellOf, aI K (q 9) 40 wg_fewest, aI K (q 10) 40 wg_most, aZ K (q 11) 40 wg_counts]) (va_A [oX10 q, oX4 q kd_size, oX8 q, aI K (q 5) 30 st_booked, aI K (q 6) 90 st_parted, oX9 q wg_size, aI K (q 8) 40 wg_cellOf, aI K (q 9) 40 wg_fewest, aI K (q 10) 40 wg_most, aZ K (q 11) 40 wg_counts] sz)) 0 0 (va_A [oX10 q, oX4 q kd_size, oX8 q, aI K (q 5) 30 st_booked, aI K (q 6) 90 st_parted, oX9 q wg_size, aI K (q 8) 40 wg_cellOf, aI K (q 9) 40 wg_fewest, aI K (q 10) 40 wg_most, aZ K (q 11) 40 wg_counts] sz) := by
  refine hMet (fun A => va_Qi (fun (r : Int32) (u : Unit) => post r) (fun u => hB G K A [oX10 q, oX4 q kd_size, oX8 q, aI K (q 5) 30 st_booked, aI K (q 6) 90 st_parted, oX9 q wg_size, aI K (q 8) 40 wg_cellOf, aI K (q 9) 40 wg_fewest, aI K (q 10) 40 wg_most, aZ K (q 11) 40 wg_counts]) A) (by decide) rfl (Nat.le_of_ble_eq_true rfl) ?_
  intro p e s m av below meth c A Q ls hx hb hr hml hts hown hlocks hnm hA hP hK hD hS hE hQ hl
  have hts : ∀ w ∈ wsX10_missing, w.before av s = true := hts
  have hown : s.vm.findClass RX10 = some m.cls := hown
  have hl : lv_has ls 5 [(0, .ref (q 0)), (1, .int p1), (2, .int p2), (3, .int p3)] := hl
  unfold P_X10_missing at hw
  refine lv_aload_n (pc := 0) hx hb dX10_missing_0 rfl (lv_at hl 0 rfl) ?_
  refine lv_iload_n (pc := 1) hx hb dX10_missing_1 rfl (lv_at hl 1 rfl) ?_
  refine lv_iload_n (pc := 2) hx hb dX10_missing_2 rfl (lv_at hl 2 rfl) ?_
  refine hCallI (pc := 3) (wr := [oX8 q, aI K (q 5) 30 st_booked, aI K (q 6) 90 st_parted, oX9 q wg_size, aI K (q 8) 40 wg_cellOf, aI K (q 9) 40 wg_fewest, aI K (q 10) 40 wg_most, aZ K (q 11) 40 wg_counts]) (wsf := fun (u : Unit) => [oX10 q, oX4 q kd_size]) [0, 1] [2, 3, 4, 5, 6, 7, 8, 9] (va_runV (As := [.int p1, .int p2]) (rest := []) ⟨hx, hb, hml, hown, hts⟩ (c_X10_isCell l G K tb q s.heap.size _ p1 p2 kd_size hw) (cwV 2 hts gX10_missing_X10_isCell rfl rfl rfl (by decide +kernel) ⟨Nat.le_of_ble_eq_true rfl, Nat.le_of_ble_eq_true rfl⟩) (hPreV hE hP hK hD hS hA [0, 1] (by decide) rfl rfl rfl rfl (q0 := 0) (ci := 10) rfl) rfl rfl hl.1 rfl (lv_room (Nat.le_of_ble_eq_true rfl)) dX10_missing_3 ⟨Nat.zero_le _, Nat.zero_le _⟩) hP hD hS hA rfl rfl (by decide) (by decide) (fun r_1 u H locs hw hP hD hS => ?_)
  have hP : va_P G vwCl [oX10 q, oX4 q kd_size, oX8 q, aI K (q 5) 30 st_booked, aI K (q 6) 90 st_parted, oX9 q wg_size, aI K (q 8) 40 wg_cellOf, aI K (q 9) 40 wg_fewest, aI K (q 10) 40 wg_most, aZ K (q 11) 40 wg_counts] H := hP.sub [8, 9, 0, 1, 2, 3, 4, 5, 6, 7] rfl
  have hD : va_D A [oX10 q, oX4 q kd_size, oX8 q, aI K (q 5) 30 st_booked, aI K (q 6) 90 st_parted, oX9 q wg_size, aI K (q 8) 40 wg_cellOf, aI K (q 9) 40 wg_fewest, aI K (q 10) 40 wg_most, aZ K (q 11) 40 wg_counts] := hD.sub [8, 9, 0, 1, 2, 3, 4, 5, 6, 7] (by decide) rfl
  refine lv_if_ne (pc := 6) (tgt := 11) hx hb dX10_missing_6 (by decide) (fun c_2 => ?_) (fun c_2 => ?_)
  · replace hw := hw.2 c_2
    refine lv_aload_n (pc := 11) hx hb dX10_missing_11 rfl (lv_at hl 0 rfl) ?_
    refine lv_iload_n (pc := 12) hx hb dX10_missing_12 rfl (lv_at hl 1 rfl) ?_
    refine lv_iload_n (pc := 13) hx hb dX10_missing_13 rfl (lv_at hl 2 rfl) ?_
    refine hCallI (pc := 14) (wr := [oX10 q, oX4 q kd_size, oX8 q, aI K (q 5) 30 st_booked, aI K (q 6) 90 st_parted, oX9 q wg_size, aI K (q 8) 40 wg_cellOf, aI K (q 9) 40 wg_fewest, aI K (q 10) 40 wg_most, aZ K (q 11) 40 wg_counts]) (wsf := fun (u : Unit) => []) [] [0, 1, 2, 3, 4, 5, 6, 7, 8, 9] (va_runS (As := [.int p1, .int p2]) (rest := [.ref (q 0)]) ⟨hx, hb, hml, hown, hts⟩ (c_X10_cell l G K tb q H.size _ p1 p2 hw) (va_cwS 2 hts gX10_missing_X10_cell rfl rfl rfl (by decide +kernel) ⟨Nat.le_of_ble_eq_true rfl, Nat.le_of_ble_eq_true rfl⟩) (hPreS hE hP hK hD hS hA [] (by decide) rfl rfl) rfl rfl hl.1 rfl (lv_room (Nat.le_of_ble_eq_true rfl)) dX10_missing_14 ⟨Nat.zero_le _, Nat.zero_le _⟩) hP hD hS hA rfl rfl (by decide) (by decide) (fun r_3 u H locs hw hP hD hS => ?_)
    have hP : va_P G vwCl [oX10 q, oX4 q kd_size, oX8 q, aI K (q 5) 30 st_booked, aI K (q 6) 90 st_parted, oX9 q wg_size, aI K (q 8) 40 wg_cellOf, aI K (q 9) 40 wg_fewest, aI K (q 10) 40 wg_most, aZ K (q 11) 40 wg_counts] H := hP.sub [0, 1, 2, 3, 4, 5, 6, 7, 8, 9] rfl
    have hD : va_D A [oX10 q, oX4 q kd_size, oX8 q, aI K (q 5) 30 st_booked, aI K (q 6) 90 st_parted, oX9 q wg_size, aI K (q 8) 40 wg_cellOf, aI K (q 9) 40 wg_fewest, aI K (q 10) 40 wg_most, aZ K (q 11) 40 wg_counts] := hD.sub [0, 1, 2, 3, 4, 5, 6, 7, 8, 9] (by decide) rfl
    refine lv_iload_n (pc := 17) hx hb dX10_missing_17 rfl (lv_at hl 3 rfl) ?_
    refine hCallI (pc := 18) (wr := [oX4 q kd_size]) (wsf := fun (u : Unit) => [oX10 q, oX8 q, aI K (q 5) 30 st_booked, aI K (q 6) 90 st_parted, oX9 q wg_size, aI K (q 8) 40 wg_cellOf, aI K (q 9) 40 wg_fewest, aI K (q 10) 40 wg_most, aZ K (q 11) 40 wg_counts]) [0, 2, 3, 4, 5, 6, 7, 8, 9] [1] (va_runV (As := [.int r_3, .int p3]) (rest := []) ⟨hx, hb, hml, hown, hts⟩ (c_X10_missingIn l G K tb q H.size _ r_3 p3 st_booked st_parted wg_cellOf wg_fewest wg_most wg_counts wg_size hw) (cwV 2 hts gX10_missing_X10_missingIn rfl rfl rfl (by decide +kernel) ⟨Nat.le_of_ble_eq_true rfl, Nat.le_of_ble_eq_true rfl⟩) (hPreV hE hP hK hD hS hA [0, 2, 3, 4, 5, 6, 7, 8, 9] (by decide) rfl rfl rfl rfl (q0 := 0) (ci := 10) rfl) rfl rfl hl.1 rfl (lv_room (Nat.le_of_ble_eq_true rfl)) dX10_missing_18 ⟨Nat.zero_le _, Nat.zero_le _⟩) hP hD hS hA rfl rfl (by decide) (by decide) (fun r_4 u H locs hw hP hD hS => ?_)
    have hP : va_P G vwCl [oX10 q, oX4 q kd_size, oX8 q, aI K (q 5) 30 st_booked, aI K (q 6) 90 st_parted, oX9 q wg_size, aI K (q 8) 40 wg_cellOf, aI K (q 9) 40 wg_fewest, aI K (q 10) 40 wg_most, aZ K (q 11) 40 wg_counts] H := hP.sub [1, 0, 2, 3, 4, 5, 6, 7, 8, 9] rfl
    have hD : va_D A [oX10 q, oX4 q kd_size, oX8 q, aI K (q 5) 30 st_booked, aI K (q 6) 90 st_parted, oX9 q wg_size, aI K (q 8) 40 wg_cellOf, aI K (q 9) 40 wg_fewest, aI K (q 10) 40 wg_most, aZ K (q 11) 40 wg_counts] := hD.sub [1, 0, 2, 3, 4, 5, 6, 7, 8, 9] (by decide) rfl
    refine lv_istore (pc := 21) (lv' := [(4, .int r_4), (0, .ref (q 0)), (1, .int p1), (2, .int p2), (3, .int p3)]) hx hb dX10_missing_21 hl (by decide) rfl (fun ls hl => ?_)
    refine lv_iload (pc := 23) hx hb dX10_missing_23 (lv_at hl 0 rfl) ?_
    refine lv_bipush (pc := 25) (v := (-9 : Int32)) hx hb dX10_missing_25 (by decide) ?_
    have K_v_6 : ∀ v_6 : Int32, v_6 = (if r_4 = (-9 : Int32) then (-3 : Int32) else r_4) → W p l e rm_X10_missing s m av below meth c H locs 0 0 Q (F0 m 37 ls [.int v_6]) := by
      intro v_6 ev_6
      replace hw := hw v_6 ev_6
      exact hRetI (S := Unit) () hx hb hr hlocks hQ hw hP hK hD hS dX10_missing_37
    refine lv_icmp_ne (pc := 27) (tgt := 35) hx hb dX10_missing_27 (by decide) (fun c_5 => ?_) (fun c_5 => ?_)
    · skip
      refine lv_iload (pc := 35) hx hb dX10_missing_35 (lv_at hl 0 rfl) ?_
      exact K_v_6 _ (by rw [if_neg c_5])
    · skip
      refine lv_bipush (pc := 30) (v := (-3 : Int32)) hx hb dX10_missing_30 (by decide) ?_
      refine lv_goto (pc := 32) (tgt := 37) hx hb dX10_missing_32 (by decide) ?_
      exact K_v_6 _ (by rw [if_pos c_5])
  · replace hw := hw.1 c_2
    refine lv_iconst (pc := 9) (v := (-1 : Int32)) hx hb dX10_missing_9 (by decide) ?_
    exact hRetI (S := Unit) () hx hb hr hlocks hQ hw hP hK hD hS dX10_missing_10
def P_X10_missingInHouse (post : Int32 → Prop) (p1 : Int32) (kd_size : Int32) (st_booked : Nat → Int32) (st_parted : Nat → Int32) (wg_cellOf : Nat → Int32) (wg_fewest : Nat → Int32) (wg_most : Nat → Int32) (wg_counts : Nat → Int32) (wg_size : Int32) : Prop :=
  ∀ (X4 : Int32 → Int32 → Prop),
  (∀ (x2 : Int32) (x3 : Int32), (((kd_size ≤ x3 → post x2) ∧ (¬ kd_size ≤ x3 → P_X10_cell (fun r_2 => P_X10_missingIn (fun r_3 => ∀ y_4 : Int32, y_4 = (if (0 : Int32) < r_3 then r_3 else (0 : Int32)) → ∀ y_5 : Int32, y_5 = (x2 + y_4) → ∀ y_6 : Int32, y_6 = (x3 + (1 : Int32)) → X4 y_5 y_6) r_2 (0 : Int32) st_booked st_parted wg_cellOf wg_fewest wg_most wg_counts wg_size) p1 x3))) → X4 x2 x3) →
  X4 (0 : Int32) (0 : Int32)
abbrev rm_X10_missingInHouse : Room := { frames := 3, cells := 0, slots := 0, locals := 71 }
theorem iw_X10_missingInHouse_X10 : ∀ w ∈ wsX100, w ∈ wsX10_missingInHouse := by decide +kernel
theorem iw_X10_missingInHouse_X4 : ∀ w ∈ wsX40, w ∈ wsX10_missingInHouse := by decide +kernel
set_option maxHeartbeats 4000000 in
set_option maxRecDepth 100000 in
theorem c_X10_missingInHouse (l : Launch) (G : va_G) (K : ClassId × ClassId × ClassId) (tb q : Nat → Nat) (sz : Nat) (post : Int32 → Prop) (p1 : Int32) (kd_size : Int32) (st_booked : Nat → Int32) (st_parted : Nat → Int32) (wg_cellOf : Nat → Int32) (wg_fewest : Nat → Int32) (wg_most : Nat → Int32) (wg_counts : Nat → Int32) (wg_size : Int32) (hw : P_X10_missingInHouse post p1 kd_size st_booked st_parted wg_cellOf wg_fewest wg_most wg_counts wg_size) : Met l yX10_missingInHouse wsX10_missingInHouse rm_X10_missingInHouse (va_Pc [.ref (q 0), .int p1] (hPre G K tb [oX10 q, oX4 q kd_size, oX8 q, aI K (q 5) 30 st_booked, aI K (q 6) 90 st_parted, oX9 q wg_size, aI K (q 8) 40 wg_cellOf, aI K (q 9) 40 wg_fewest, aI K (q 10) 40 wg_most, aZ K (q 11) 40 wg_counts] sz)) (va_Qi (fun (r : Int32) (u : Unit) => post r) (fun u => hB G K (va_A [oX10 q, oX4 q kd_size, oX8 q, aI K (q 5) 30 st_booked, aI K (q 6) 90 st_parted, oX9 q wg_size, aI K (q 8) 40 wg_cellOf, aI K (q 9) 40 wg_fewest, aI K (q 10) 40 wg_most, aZ K (q 11) 40 wg_counts] sz) [oX10 q, oX4 q kd_size, oX8 q, aI K (q 5) 30 st_booked, aI K (q 6) 90 st_parted, oX9 q wg_size, aI K (q 8) 40 wg_cellOf, aI K (q 9) 40 wg_fewest, aI K (q 10) 40 wg_most, aZ K (q 11) 40 wg_counts]) (va_A [oX10 q, oX4 q kd_size, oX8 q, aI K (q 5) 30 st_booked, aI K (q 6) 90 st_parted, oX9 q wg_size, aI K (q 8) 40 wg_cellOf, aI K (q 9) 40 wg_fewest, aI K (q 10) 40 wg_most, aZ K (q 11) 40 wg_counts] sz)) 0 0 (va_A [oX10 q, oX4 q kd_size, oX8 q, aI K (q 5) 30 st_booked, aI K (q 6) 90 st_parted, oX9 q wg_size, aI K (q 8) 40 wg_cellOf, aI K (q 9) 40 wg_fewest, aI K (q 10) 40 wg_most, aZ K (q 11) 40 wg_counts] sz) := by
  refine hMet (fun A => va_Qi (fun (r : Int32) (u : Unit) => post r) (fun u => hB G K A [oX10 q, oX4 q kd_size, oX8 q, aI K (q 5) 30 st_booked, aI K (q 6) 90 st_parted, oX9 q wg_size, aI K (q 8) 40 wg_cellOf, aI K (q 9) 40 wg_fewest, aI K (q 10) 40 wg_most, aZ K (q 11) 40 wg_counts]) A) (by decide) rfl (Nat.le_of_ble_eq_true rfl) ?_
  intro p e s m av below meth c A Q ls hx hb hr hml hts hown hlocks hnm hA hP hK hD hS hE hQ hl
  have hts : ∀ w ∈ wsX10_missingInHouse, w.before av s = true := hts
  have hown : s.vm.findClass RX10 = some m.cls := hown
  have hl : lv_has ls 4 [(0, .ref (q 0)), (1, .int p1)] := hl
  unfold P_X10_missingInHouse at hw
  replace hw := hw (fun (x2 : Int32) (x3 : Int32) => ∀ (H : Heap) (locs : List Loc) (ls : Array Slot), va_P G vwCl [oX10 q, oX4 q kd_size, oX8 q, aI K (q 5) 30 st_booked, aI K (q 6) 90 st_parted, oX9 q wg_size, aI K (q 8) 40 wg_cellOf, aI K (q 9) 40 wg_fewest, aI K (q 10) 40 wg_most, aZ K (q 11) 40 wg_counts] H → va_D A [oX10 q, oX4 q kd_size, oX8 q, aI K (q 5) 30 st_booked, aI K (q 6) 90 st_parted, oX9 q wg_size, aI K (q 8) 40 wg_cellOf, aI K (q 9) 40 wg_fewest, aI K (q 10) 40 wg_most, aZ K (q 11) 40 wg_counts] → va_S A s.heap H locs → lv_has ls 4 [(0, .ref (q 0)), (1, .int p1), (2, .int x2), (3, .int x3)] → W p l e rm_X10_missingInHouse s m av below meth c H locs 0 0 Q (F0 m 4 ls []))
  replace hw := hw (by
    intro x2 x3 hw H locs ls hP hD hS hl
    refine lv_iload_n (pc := 4) hx hb dX10_missingInHouse_4 rfl (lv_at hl 3 rfl) ?_
    refine lv_aload_n (pc := 5) hx hb dX10_missingInHouse_5 rfl (lv_at hl 0 rfl) ?_
    refine va_get (pc := 6) (D := G) (ci := 10) (v := .ref (q 1)) (C := RX10) (T := TX10) (N := 10) hx hb hts iw_X10_missingInHouse_X10 hown hK hP 0 rfl rfl 0 (by decide) (hts _ (List.mem_of_getElem? (i := 1) rfl)) (fun _ h9 => h9) rfl dX10_missingInHouse_6 ?_
    refine va_getN (pc := 9) (D := G) (host := RX10) (ci := 4) (v := .int kd_size) (C := RX4) (T := TX4) (N := 3) hx hb hts iw_X10_missingInHouse_X4 hown hK hP 1 rfl rfl 2 (by decide) (hE.use 1 rfl) (fun _ h9 => h9) rfl dX10_missingInHouse_9 ?_
    refine lv_icmp_ge (pc := 12) (tgt := 38) hx hb dX10_missingInHouse_12 (by decide) (fun c_1 => ?_) (fun c_1 => ?_)
    · replace hw := hw.1 c_1
      refine lv_iload_n (pc := 38) hx hb dX10_missingInHouse_38 rfl (lv_at hl 2 rfl) ?_
      exact hRetI (S := Unit) () hx hb hr hlocks hQ hw hP hK hD hS dX10_missingInHouse_39
    · replace hw := hw.2 c_1
      refine lv_iload_n (pc := 15) hx hb dX10_missingInHouse_15 rfl (lv_at hl 2 rfl) ?_
      refine lv_iconst (pc := 16) (v := (0 : Int32)) hx hb dX10_missingInHouse_16 (by decide) ?_
      refine lv_aload_n (pc := 17) hx hb dX10_missingInHouse_17 rfl (lv_at hl 0 rfl) ?_
      refine lv_iload_n (pc := 18) hx hb dX10_missingInHouse_18 rfl (lv_at hl 1 rfl) ?_
      refine lv_iload_n (pc := 19) hx hb dX10_missingInHouse_19 rfl (lv_at hl 3 rfl) ?_
      refine hCallI (pc := 20) (wr := [oX10 q, oX4 q kd_size, oX8 q, aI K (q 5) 30 st_booked, aI K (q 6) 90 st_parted, oX9 q wg_size, aI K (q 8) 40 wg_cellOf, aI K (q 9) 40 wg_fewest, aI K (q 10) 40 wg_most, aZ K (q 11) 40 wg_counts]) (wsf := fun (u : Unit) => []) [] [0, 1, 2, 3, 4, 5, 6, 7, 8, 9] (va_runS (As := [.int p1, .int x3]) (rest := [.ref (q 0), .int (0 : Int32), .int x2]) ⟨hx, hb, hml, hown, hts⟩ (c_X10_cell l G K tb q H.size _ p1 x3 hw) (va_cwS 2 hts gX10_missingInHouse_X10_cell rfl rfl rfl (by decide +kernel) ⟨Nat.le_of_ble_eq_true rfl, Nat.le_of_ble_eq_true rfl⟩) (hPreS hE hP hK hD hS hA [] (by decide) rfl rfl) rfl rfl hl.1 rfl (lv_room (Nat.le_of_ble_eq_true rfl)) dX10_missingInHouse_20 ⟨Nat.zero_le _, Nat.zero_le _⟩) hP hD hS hA rfl rfl (by decide) (by decide) (fun r_2 u H locs hw hP hD hS => ?_)
      have hP : va_P G vwCl [oX10 q, oX4 q kd_size, oX8 q, aI K (q 5) 30 st_booked, aI K (q 6) 90 st_parted, oX9 q wg_size, aI K (q 8) 40 wg_cellOf, aI K (q 9) 40 wg_fewest, aI K (q 10) 40 wg_most, aZ K (q 11) 40 wg_counts] H := hP.sub [0, 1, 2, 3, 4, 5, 6, 7, 8, 9] rfl
      have hD : va_D A [oX10 q, oX4 q kd_size, oX8 q, aI K (q 5) 30 st_booked, aI K (q 6) 90 st_parted, oX9 q wg_size, aI K (q 8) 40 wg_cellOf, aI K (q 9) 40 wg_fewest, aI K (q 10) 40 wg_most, aZ K (q 11) 40 wg_counts] := hD.sub [0, 1, 2, 3, 4, 5, 6, 7, 8, 9] (by decide) rfl
      refine lv_iconst (pc := 23) (v := (0 : Int32)) hx hb dX10_missingInHouse_23 (by decide) ?_
      refine hCallI (pc := 24) (wr := [oX4 q kd_size]) (wsf := fun (u : Unit) => [oX10 q, oX8 q, aI K (q 5) 30 st_booked, aI K (q 6) 90 st_parted, oX9 q wg_size, aI K (q 8) 40 wg_cellOf, aI K (q 9) 40 wg_fewest, aI K (q 10) 40 wg_most, aZ K (q 11) 40 wg_counts]) [0, 2, 3, 4, 5, 6, 7, 8, 9] [1] (va_runV (As := [.int r_2, .int (0 : Int32)]) (rest := [.int (0 : Int32), .int x2]) ⟨hx, hb, hml, hown, hts⟩ (c_X10_missingIn l G K tb q H.size _ r_2 (0 : Int32) st_booked st_parted wg_cellOf wg_fewest wg_most wg_counts wg_size hw) (cwV 2 hts gX10_missingInHouse_X10_missingIn rfl rfl rfl (by decide +kernel) ⟨Nat.le_of_ble_eq_true rfl, Nat.le_of_ble_eq_true rfl⟩) (hPreV hE hP hK hD hS hA [0, 2, 3, 4, 5, 6, 7, 8, 9] (by decide) rfl rfl rfl rfl (q0 := 0) (ci := 10) rfl) rfl rfl hl.1 rfl (lv_room (Nat.le_of_ble_eq_true rfl)) dX10_missingInHouse_24 ⟨Nat.zero_le _, Nat.zero_le _⟩) hP hD hS hA rfl rfl (by decide) (by decide) (fun r_3 u H locs hw hP hD hS => ?_)
      have hP : va_P G vwCl [oX10 q, oX4 q kd_size, oX8 q, aI K (q 5) 30 st_booked, aI K (q 6) 90 st_parted, oX9 q wg_size, aI K (q 8) 40 wg_cellOf, aI K (q 9) 40 wg_fewest, aI K (q 10) 40 wg_most, aZ K (q 11) 40 wg_counts] H := hP.sub [1, 0, 2, 3, 4, 5, 6, 7, 8, 9] rfl
      have hD : va_D A [oX10 q, oX4 q kd_size, oX8 q, aI K (q 5) 30 st_booked, aI K (q 6) 90 st_parted, oX9 q wg_size, aI K (q 8) 40 wg_cellOf, aI K (q 9) 40 wg_fewest, aI K (q 10) 40 wg_most, aZ K (q 11) 40 wg_counts] := hD.sub [1, 0, 2, 3, 4, 5, 6, 7, 8, 9] (by decide) rfl
      refine va_mmax (pc := 27) hx hb (hml.trans hl.1.symm) hown (hts _ (List.mem_of_getElem? (i := 2) rfl)) (hts _ (List.mem_of_getElem? (i := 3) rfl)) (hts _ (List.mem_of_getElem? (i := 4) rfl)) (hts _ (List.mem_of_getElem? (i := 5) rfl)) (Nat.le_of_ble_eq_true rfl) (Nat.le_of_ble_eq_true rfl) (Nat.zero_le _) (Nat.zero_le _) dX10_missingInHouse_27 ?_
      refine lv_topi (fun y_4 ey_4 => ?_)
      replace hw := hw y_4 ey_4
      refine lv_iadd (pc := 30) hx hb dX10_missingInHouse_30 ?_
      refine lv_topi (fun y_5 ey_5 => ?_)
      replace hw := hw y_5 ey_5
      refine lv_istore_n (pc := 31) (lv' := [(2, .int y_5), (0, .ref (q 0)), (1, .int p1), (3, .int x3)]) hx hb dX10_missingInHouse_31 rfl hl (by decide) rfl (fun ls hl => ?_)
      obtain ⟨y_6, ey_6⟩ : ∃ z : Int32, z = (x3 + (1 : Int32)) := ⟨_, rfl⟩
      replace hw := hw y_6 ey_6
      refine lv_iinc (pc := 32) (v := y_6) (lv' := [(3, .int y_6), (2, .int y_5), (0, .ref (q 0)), (1, .int p1)]) hx hb dX10_missingInHouse_32 hl (k := 3) rfl (by rw [ey_6]; rfl) (by decide) rfl (fun ls hl => ?_)
      refine lv_goto (pc := 35) (tgt := 4) hx hb dX10_missingInHouse_35 (by decide) ?_
      exact hw _ _ _ hP hD hS (lv_sub hl [2, 3, 1, 0] rfl))
  refine lv_iconst (pc := 0) (v := (0 : Int32)) hx hb dX10_missingInHouse_0 (by decide) ?_
  refine lv_istore_n (pc := 1) (lv' := [(2, .int (0 : Int32)), (0, .ref (q 0)), (1, .int p1)]) hx hb dX10_missingInHouse_1 rfl hl (by decide) rfl (fun ls hl => ?_)
  refine lv_iconst (pc := 2) (v := (0 : Int32)) hx hb dX10_missingInHouse_2 (by decide) ?_
  refine lv_istore_n (pc := 3) (lv' := [(3, .int (0 : Int32)), (2, .int (0 : Int32)), (0, .ref (q 0)), (1, .int p1)]) hx hb dX10_missingInHouse_3 rfl hl (by decide) rfl (fun ls hl => ?_)
  exact hw _ _ _ hP hD hS (lv_sub hl [2, 3, 1, 0] rfl)
def P_X10_month (post : Int32 → (Nat → Int32) → Prop) (p1 : Int32) (pl_values : Nat → Int32) (pl_hands : Int32) : Prop :=
  P_X10_within (fun r_1 => ((r_1 = (0 : Int32) → post (-2 : Int32) pl_values) ∧ (¬ r_1 = (0 : Int32) → P_J6_bitCount_0f7a4 (fun r_3 => ((r_3 ≤ pl_hands → P_X7_goBy (fun r_5 pl_values_6 => post r_5 pl_values_6) p1 pl_values) ∧ (¬ r_3 ≤ pl_hands → post (-3 : Int32) pl_values))) p1))) p1 (0 : Int32) (15 : Int32)
abbrev rm_X10_month : Room := { frames := 2, cells := 0, slots := 0, locals := 48 }
theorem iw_X10_month_X10 : ∀ w ∈ wsX100, w ∈ wsX10_month := by decide +kernel
theorem iw_X10_month_X7 : ∀ w ∈ wsX70, w ∈ wsX10_month := by decide +kernel
set_option maxHeartbeats 4000000 in
set_option maxRecDepth 100000 in
theorem c_X10_month (l : Launch) (G : va_G) (K : ClassId × ClassId × ClassId) (tb q : Nat → Nat) (sz : Nat) (post : Int32 → (Nat → Int32) → Prop) (p1 : Int32) (pl_values : Nat → Int32) (pl_hands : Int32) (hw : P_X10_month post p1 pl_values pl_hands) : Met l yX10_month wsX10_month rm_X10_month (va_Pc [.ref (q 0), .int p1] (hPre G K tb [oX10 q, oX7 q pl_hands, aI K (q 32) 16 pl_values] sz)) (va_Qi (fun (r : Int32) (u : (Nat → Int32)) => post r u) (fun u => hB G K (va_A [oX10 q, oX7 q pl_hands, aI K (q 32) 16 pl_values] sz) [oX10 q, oX7 q pl_hands, aI K (q 32) 16 u]) (va_A [oX10 q, oX7 q pl_hands, aI K (q 32) 16 pl_values] sz)) 0 0 (va_A [oX10 q, oX7 q pl_hands, aI K (q 32) 16 pl_values] sz) := by
  refine hMet (fun A => va_Qi (fun (r : Int32) (u : (Nat → Int32)) => post r u) (fun u => hB G K A [oX10 q, oX7 q pl_hands, aI K (q 32) 16 u]) A) (by decide) rfl (Nat.le_of_ble_eq_true rfl) ?_
  intro p e s m av below meth c A Q ls hx hb hr hml hts hown hlocks hnm hA hP hK hD hS hE hQ hl
  have hts : ∀ w ∈ wsX10_month, w.before av s = true := hts
  have hown : s.vm.findClass RX10 = some m.cls := hown
  have hl : lv_has ls 2 [(0, .ref (q 0)), (1, .int p1)] := hl
  unfold P_X10_month at hw
  refine lv_iload_n (pc := 0) hx hb dX10_month_0 rfl (lv_at hl 1 rfl) ?_
  refine lv_iconst (pc := 1) (v := (0 : Int32)) hx hb dX10_month_1 (by decide) ?_
  refine lv_bipush (pc := 2) (v := (15 : Int32)) hx hb dX10_month_2 (by decide) ?_
  refine hCallI (pc := 4) (wr := [oX10 q, oX7 q pl_hands, aI K (q 32) 16 pl_values]) (wsf := fun (u : Unit) => []) [] [0, 1, 2] (va_runS (As := [.int p1, .int (0 : Int32), .int (15 : Int32)]) (rest := []) ⟨hx, hb, hml, hown, hts⟩ (c_X10_within l G K tb q s.heap.size _ p1 (0 : Int32) (15 : Int32) hw) (va_cwS 3 hts gX10_month_X10_within rfl rfl rfl (by decide +kernel) ⟨Nat.le_of_ble_eq_true rfl, Nat.le_of_ble_eq_true rfl⟩) (hPreS hE hP hK hD hS hA [] (by decide) rfl rfl) rfl rfl hl.1 rfl (lv_room (Nat.le_of_ble_eq_true rfl)) dX10_month_4 ⟨Nat.zero_le _, Nat.zero_le _⟩) hP hD hS hA rfl rfl (by decide) (by decide) (fun r_1 u H locs hw hP hD hS => ?_)
  have hP : va_P G vwCl [oX10 q, oX7 q pl_hands, aI K (q 32) 16 pl_values] H := hP.sub [0, 1, 2] rfl
  have hD : va_D A [oX10 q, oX7 q pl_hands, aI K (q 32) 16 pl_values] := hD.sub [0, 1, 2] (by decide) rfl
  refine lv_if_ne (pc := 7) (tgt := 13) hx hb dX10_month_7 (by decide) (fun c_2 => ?_) (fun c_2 => ?_)
  · replace hw := hw.2 c_2
    refine lv_iload_n (pc := 13) hx hb dX10_month_13 rfl (lv_at hl 1 rfl) ?_
    refine hCallI (pc := 14) (wr := [oX10 q, oX7 q pl_hands, aI K (q 32) 16 pl_values]) (wsf := fun (u : Unit) => []) [] [0, 1, 2] (va_runS (As := [.int p1]) (rest := []) ⟨hx, hb, hml, hown, hts⟩ (c_J6_bitCount_0f7a4 l G K tb q H.size _ p1 hw) (va_cwS 1 hts gX10_month_J6_bitCount_0f7a4 rfl rfl rfl (by decide +kernel) ⟨Nat.le_of_ble_eq_true rfl, Nat.le_of_ble_eq_true rfl⟩) (hPreS hE hP hK hD hS hA [] (by decide) rfl rfl) rfl rfl hl.1 rfl (lv_room (Nat.le_of_ble_eq_true rfl)) dX10_month_14 ⟨Nat.zero_le _, Nat.zero_le _⟩) hP hD hS hA rfl rfl (by decide) (by decide) (fun r_3 u H locs hw hP hD hS => ?_)
    have hP : va_P G vwCl [oX10 q, oX7 q pl_hands, aI K (q 32) 16 pl_values] H := hP.sub [0, 1, 2] rfl
    have hD : va_D A [oX10 q, oX7 q pl_hands, aI K (q 32) 16 pl_values] := hD.sub [0, 1, 2] (by decide) rfl
    refine lv_aload_n (pc := 17) hx hb dX10_month_17 rfl (lv_at hl 0 rfl) ?_
    refine va_get (pc := 18) (D := G) (ci := 10) (v := .ref (q 31)) (C := RX10) (T := TX10) (N := 10) hx hb hts iw_X10_month_X10 hown hK hP 0 rfl rfl 5 (by decide) (hts _ (List.mem_of_getElem? (i := 1) rfl)) (fun _ h9 => h9) rfl dX10_month_18 ?_
    refine va_getN (pc := 21) (D := G) (host := RX10) (ci := 7) (v := .int pl_hands) (C := RX7) (T := TX7) (N := 4) hx hb hts iw_X10_month_X7 hown hK hP 1 rfl rfl 3 (by decide) (hE.use 18 rfl) (fun _ h9 => h9) rfl dX10_month_21 ?_
    refine lv_icmp_le (pc := 24) (tgt := 32) hx hb dX10_month_24 (by decide) (fun c_4 => ?_) (fun c_4 => ?_)
    · replace hw := hw.1 c_4
      refine lv_aload_n (pc := 32) hx hb dX10_month_32 rfl (lv_at hl 0 rfl) ?_
      refine va_get (pc := 33) (D := G) (ci := 10) (v := .ref (q 31)) (C := RX10) (T := TX10) (N := 10) hx hb hts iw_X10_month_X10 hown hK hP 0 rfl rfl 5 (by decide) (hts _ (List.mem_of_getElem? (i := 1) rfl)) (fun _ h9 => h9) rfl dX10_month_33 ?_
      refine lv_iload_n (pc := 36) hx hb dX10_month_36 rfl (lv_at hl 1 rfl) ?_
      refine hCallI (pc := 37) (wr := [oX10 q]) (wsf := fun (u : (Nat → Int32)) => [oX7 q pl_hands, aI K (q 32) 16 u]) [1, 2] [0] (va_runVN (As := [.int p1]) (rest := []) ⟨hx, hb, hml, hown, hts⟩ (c_X7_goBy l G K tb q H.size pl_hands _ p1 pl_values hw) ⟨va_cnB 1 hts gX10_month_X7_goBy_n205 rfl rfl rfl (hE.nw 58 rfl) (hts _ (List.mem_of_getElem? (i := 14) rfl)) (by decide +kernel) ⟨Nat.le_of_ble_eq_true rfl, Nat.le_of_ble_eq_true rfl⟩, (hts _ (List.mem_of_getElem? (i := 13) rfl)), (hts _ (List.mem_of_getElem? (i := 15) rfl))⟩ (hPreV hE hP hK hD hS hA [1, 2] (by decide) rfl rfl rfl rfl (q0 := 1) (ci := 7) rfl) rfl rfl hl.1 rfl (lv_room (Nat.le_of_ble_eq_true rfl)) dX10_month_37 ⟨Nat.zero_le _, Nat.zero_le _⟩) hP hD hS hA rfl rfl (by decide) (by decide) (fun r_5 u H locs hw hP hD hS => ?_)
      obtain ⟨pl_values_6, rfl⟩ : ∃ z, z = u := ⟨_, rfl⟩
      have hP : va_P G vwCl [oX10 q, oX7 q pl_hands, aI K (q 32) 16 pl_values_6] H := hP.sub [0, 1, 2] rfl
      have hD : va_D A [oX10 q, oX7 q pl_hands, aI K (q 32) 16 pl_values_6] := hD.sub [0, 1, 2] (by decide) rfl
      exact hRetI (S := (Nat → Int32)) pl_values_6 hx hb hr hlocks hQ hw hP hK hD hS dX10_month_40
    · replace hw := hw.2 c_4
      refine lv_bipush (pc := 27) (v := (-3 : Int32)) hx hb dX10_month_27 (by decide) ?_
      refine lv_goto (pc := 29) (tgt := 40) hx hb dX10_month_29 (by decide) ?_
      exact hRetI (S := (Nat → Int32)) pl_values hx hb hr hlocks hQ hw hP hK hD hS dX10_month_40
  · replace hw := hw.1 c_2
    refine lv_bipush (pc := 10) (v := (-2 : Int32)) hx hb dX10_month_10 (by decide) ?_
    exact hRetI (S := (Nat → Int32)) pl_values hx hb hr hlocks hQ hw hP hK hD hS dX10_month_12
def P_X10_off (post : Int32 → (Nat → Int32) → Prop) (p1 : Int32) (ev_on : Nat → Int32) (ev_size : Int32) : Prop :=
  P_X3_has (fun r_1 => ((r_1 = (0 : Int32) → post (-1 : Int32) ev_on) ∧ (¬ r_1 = (0 : Int32) → P_X3_stop (fun r_3 ev_on_4 => ∀ v_6 : Int32, v_6 = (if r_3 = (0 : Int32) then (-3 : Int32) else (1 : Int32)) → post v_6 ev_on_4) p1 ev_on))) p1 ev_size
abbrev rm_X10_off : Room := { frames := 2, cells := 0, slots := 0, locals := 43 }
theorem iw_X10_off_X10 : ∀ w ∈ wsX100, w ∈ wsX10_off := by decide +kernel
set_option maxHeartbeats 4000000 in
set_option maxRecDepth 100000 in
theorem c_X10_off (l : Launch) (G : va_G) (K : ClassId × ClassId × ClassId) (tb q : Nat → Nat) (sz : Nat) (post : Int32 → (Nat → Int32) → Prop) (p1 : Int32) (ev_on : Nat → Int32) (ev_size : Int32) (hw : P_X10_off post p1 ev_on ev_size) : Met l yX10_off wsX10_off rm_X10_off (va_Pc [.ref (q 0), .int p1] (hPre G K tb [oX10 q, oX3 q ev_size, aZ K (q 17) 12 ev_on] sz)) (va_Qi (fun (r : Int32) (u : (Nat → Int32)) => post r u) (fun u => hB G K (va_A [oX10 q, oX3 q ev_size, aZ K (q 17) 12 ev_on] sz) [oX10 q, oX3 q ev_size, aZ K (q 17) 12 u]) (va_A [oX10 q, oX3 q ev_size, aZ K (q 17) 12 ev_on] sz)) 0 0 (va_A [oX10 q, oX3 q ev_size, aZ K (q 17) 12 ev_on] sz) := by
  refine hMet (fun A => va_Qi (fun (r : Int32) (u : (Nat → Int32)) => post r u) (fun u => hB G K A [oX10 q, oX3 q ev_size, aZ K (q 17) 12 u]) A) (by decide) rfl (Nat.le_of_ble_eq_true rfl) ?_
  intro p e s m av below meth c A Q ls hx hb hr hml hts hown hlocks hnm hA hP hK hD hS hE hQ hl
  have hts : ∀ w ∈ wsX10_off, w.before av s = true := hts
  have hown : s.vm.findClass RX10 = some m.cls := hown
  have hl : lv_has ls 2 [(0, .ref (q 0)), (1, .int p1)] := hl
  unfold P_X10_off at hw
  refine lv_aload_n (pc := 0) hx hb dX10_off_0 rfl (lv_at hl 0 rfl) ?_
  refine va_get (pc := 1) (D := G) (ci := 10) (v := .ref (q 12)) (C := RX10) (T := TX10) (N := 10) hx hb hts iw_X10_off_X10 hown hK hP 0 rfl rfl 3 (by decide) (hts _ (List.mem_of_getElem? (i := 1) rfl)) (fun _ h9 => h9) rfl dX10_off_1 ?_
  refine lv_iload_n (pc := 4) hx hb dX10_off_4 rfl (lv_at hl 1 rfl) ?_
  refine hCallI (pc := 5) (wr := [oX10 q, aZ K (q 17) 12 ev_on]) (wsf := fun (u : Unit) => [oX3 q ev_size]) [1] [0, 2] (va_runVN (As := [.int p1]) (rest := []) ⟨hx, hb, hml, hown, hts⟩ (c_X3_has l G K tb q s.heap.size _ p1 ev_size hw) ⟨va_cnB 1 hts gX10_off_X3_has_n155 rfl rfl rfl (hE.nw 44 rfl) (hts _ (List.mem_of_getElem? (i := 3) rfl)) (by decide +kernel) ⟨Nat.le_of_ble_eq_true rfl, Nat.le_of_ble_eq_true rfl⟩, (hts _ (List.mem_of_getElem? (i := 2) rfl)), (hts _ (List.mem_of_getElem? (i := 4) rfl))⟩ (hPreV hE hP hK hD hS hA [1] (by decide) rfl rfl rfl rfl (q0 := 1) (ci := 3) rfl) rfl rfl hl.1 rfl (lv_room (Nat.le_of_ble_eq_true rfl)) dX10_off_5 ⟨Nat.zero_le _, Nat.zero_le _⟩) hP hD hS hA rfl rfl (by decide) (by decide) (fun r_1 u H locs hw hP hD hS => ?_)
  have hP : va_P G vwCl [oX10 q, oX3 q ev_size, aZ K (q 17) 12 ev_on] H := hP.sub [0, 2, 1] rfl
  have hD : va_D A [oX10 q, oX3 q ev_size, aZ K (q 17) 12 ev_on] := hD.sub [0, 2, 1] (by decide) rfl
  refine lv_if_ne (pc := 8) (tgt := 13) hx hb dX10_off_8 (by decide) (fun c_2 => ?_) (fun c_2 => ?_)
  · replace hw := hw.2 c_2
    refine lv_aload_n (pc := 13) hx hb dX10_off_13 rfl (lv_at hl 0 rfl) ?_
    refine va_get (pc := 14) (D := G) (ci := 10) (v := .ref (q 12)) (C := RX10) (T := TX10) (N := 10) hx hb hts iw_X10_off_X10 hown hK hP 0 rfl rfl 3 (by decide) (hts _ (List.mem_of_getElem? (i := 1) rfl)) (fun _ h9 => h9) rfl dX10_off_14 ?_
    refine lv_iload_n (pc := 17) hx hb dX10_off_17 rfl (lv_at hl 1 rfl) ?_
    refine hCallI (pc := 18) (wr := [oX10 q]) (wsf := fun (u : (Nat → Int32)) => [oX3 q ev_size, aZ K (q 17) 12 u]) [1, 2] [0] (va_runVN (As := [.int p1]) (rest := []) ⟨hx, hb, hml, hown, hts⟩ (c_X3_stop l G K tb q H.size ev_size _ p1 ev_on hw) ⟨va_cnB 1 hts gX10_off_X3_stop_n158 rfl rfl rfl (hE.nw 46 rfl) (hts _ (List.mem_of_getElem? (i := 3) rfl)) (by decide +kernel) ⟨Nat.le_of_ble_eq_true rfl, Nat.le_of_ble_eq_true rfl⟩, (hts _ (List.mem_of_getElem? (i := 10) rfl)), (hts _ (List.mem_of_getElem? (i := 11) rfl))⟩ (hPreV hE hP hK hD hS hA [1, 2] (by decide) rfl rfl rfl rfl (q0 := 1) (ci := 3) rfl) rfl rfl hl.1 rfl (lv_room (Nat.le_of_ble_eq_true rfl)) dX10_off_18 ⟨Nat.zero_le _, Nat.zero_le _⟩) hP hD hS hA rfl rfl (by decide) (by decide) (fun r_3 u H locs hw hP hD hS => ?_)
    obtain ⟨ev_on_4, rfl⟩ : ∃ z, z = u := ⟨_, rfl⟩
    have hP : va_P G vwCl [oX10 q, oX3 q ev_size, aZ K (q 17) 12 ev_on_4] H := hP.sub [0, 1, 2] rfl
    have hD : va_D A [oX10 q, oX3 q ev_size, aZ K (q 17) 12 ev_on_4] := hD.sub [0, 1, 2] (by decide) rfl
    have K_v_6 : ∀ v_6 : Int32, v_6 = (if r_3 = (0 : Int32) then (-3 : Int32) else (1 : Int32)) → W p l e rm_X10_off s m av below meth c H locs 0 0 Q (F0 m 30 ls [.int v_6]) := by
      intro v_6 ev_6
      replace hw := hw v_6 ev_6
      exact hRetI (S := (Nat → Int32)) ev_on_4 hx hb hr hlocks hQ hw hP hK hD hS dX10_off_30
    refine lv_if_eq (pc := 21) (tgt := 28) hx hb dX10_off_21 (by decide) (fun c_5 => ?_) (fun c_5 => ?_)
    · skip
      refine lv_bipush (pc := 28) (v := (-3 : Int32)) hx hb dX10_off_28 (by decide) ?_
      exact K_v_6 _ (by rw [if_pos c_5])
    · skip
      refine lv_iconst (pc := 24) (v := (1 : Int32)) hx hb dX10_off_24 (by decide) ?_
      refine lv_goto (pc := 25) (tgt := 30) hx hb dX10_off_25 (by decide) ?_
      exact K_v_6 _ (by rw [if_neg c_5])
  · replace hw := hw.1 c_2
    refine lv_iconst (pc := 11) (v := (-1 : Int32)) hx hb dX10_off_11 (by decide) ?_
    exact hRetI (S := (Nat → Int32)) ev_on hx hb hr hlocks hQ hw hP hK hD hS dX10_off_12
def P_X10_plan (post : Int32 → (Nat → Int32) → (Nat → Int64) → Prop) (p1 : Int32) (pl_values : Nat → Int32) (pl_renewed : Nat → Int32) (pl_found : Nat → Int64) (pl_hands : Int32) : Prop :=
  P_X10_within (fun r_1 => ((r_1 = (0 : Int32) → post (-2 : Int32) pl_renewed pl_found) ∧ (¬ r_1 = (0 : Int32) → P_X7_fewestOver (fun r_3 pl_renewed_4 pl_found_5 => post r_3 pl_renewed_4 pl_found_5) p1 pl_values pl_renewed pl_found pl_hands))) p1 (1 : Int32) (8 : Int32)
abbrev rm_X10_plan : Room := { frames := 13, cells := 0, slots := 0, locals := 361 }
theorem iw_X10_plan_X10 : ∀ w ∈ wsX100, w ∈ wsX10_plan := by decide +kernel
set_option maxHeartbeats 4000000 in
set_option maxRecDepth 100000 in
theorem c_X10_plan (l : Launch) (G : va_G) (K : ClassId × ClassId × ClassId) (tb q : Nat → Nat) (sz : Nat) (post : Int32 → (Nat → Int32) → (Nat → Int64) → Prop) (p1 : Int32) (pl_values : Nat → Int32) (pl_renewed : Nat → Int32) (pl_found : Nat → Int64) (pl_hands : Int32) (hw : P_X10_plan post p1 pl_values pl_renewed pl_found pl_hands) : Met l yX10_plan wsX10_plan rm_X10_plan (va_Pc [.ref (q 0), .int p1] (hPre G K tb [oX10 q, oX7 q pl_hands, aI K (q 32) 16 pl_values, aI K (q 33) 4 pl_renewed, aJ K (q 34) 878 pl_found] sz)) (va_Qi (fun (r : Int32) (u : (Nat → Int32) × (Nat → Int64)) => post r u.1 u.2) (fun u => hB G K (va_A [oX10 q, oX7 q pl_hands, aI K (q 32) 16 pl_values, aI K (q 33) 4 pl_renewed, aJ K (q 34) 878 pl_found] sz) [oX10 q, oX7 q pl_hands, aI K (q 32) 16 pl_values, aI K (q 33) 4 u.1, aJ K (q 34) 878 u.2]) (va_A [oX10 q, oX7 q pl_hands, aI K (q 32) 16 pl_values, aI K (q 33) 4 pl_renewed, aJ K (q 34) 878 pl_found] sz)) 0 0 (va_A [oX10 q, oX7 q pl_hands, aI K (q 32) 16 pl_values, aI K (q 33) 4 pl_renewed, aJ K (q 34) 878 pl_found] sz) := by
  refine hMet (fun A => va_Qi (fun (r : Int32) (u : (Nat → Int32) × (Nat → Int64)) => post r u.1 u.2) (fun u => hB G K A [oX10 q, oX7 q pl_hands, aI K (q 32) 16 pl_values, aI K (q 33) 4 u.1, aJ K (q 34) 878 u.2]) A) (by decide) rfl (Nat.le_of_ble_eq_true rfl) ?_
  intro p e s m av below meth c A Q ls hx hb hr hml hts hown hlocks hnm hA hP hK hD hS hE hQ hl
  have hts : ∀ w ∈ wsX10_plan, w.before av s = true := hts
  have hown : s.vm.findClass RX10 = some m.cls := hown
  have hl : lv_has ls 2 [(0, .ref (q 0)), (1, .int p1)] := hl
  unfold P_X10_plan at hw
  refine lv_iload_n (pc := 0) hx hb dX10_plan_0 rfl (lv_at hl 1 rfl) ?_
  refine lv_iconst (pc := 1) (v := (1 : Int32)) hx hb dX10_plan_1 (by decide) ?_
  refine lv_bipush (pc := 2) (v := (8 : Int32)) hx hb dX10_plan_2 (by decide) ?_
  refine hCallI (pc := 4) (wr := [oX10 q, oX7 q pl_hands, aI K (q 32) 16 pl_values, aI K (q 33) 4 pl_renewed, aJ K (q 34) 878 pl_found]) (wsf := fun (u : Unit) => []) [] [0, 1, 2, 3, 4] (va_runS (As := [.int p1, .int (1 : Int32), .int (8 : Int32)]) (rest := []) ⟨hx, hb, hml, hown, hts⟩ (c_X10_within l G K tb q s.heap.size _ p1 (1 : Int32) (8 : Int32) hw) (va_cwS 3 hts gX10_plan_X10_within rfl rfl rfl (by decide +kernel) ⟨Nat.le_of_ble_eq_true rfl, Nat.le_of_ble_eq_true rfl⟩) (hPreS hE hP hK hD hS hA [] (by decide) rfl rfl) rfl rfl hl.1 rfl (lv_room (Nat.le_of_ble_eq_true rfl)) dX10_plan_4 ⟨Nat.zero_le _, Nat.zero_le _⟩) hP hD hS hA rfl rfl (by decide) (by decide) (fun r_1 u H locs hw hP hD hS => ?_)
  have hP : va_P G vwCl [oX10 q, oX7 q pl_hands, aI K (q 32) 16 pl_values, aI K (q 33) 4 pl_renewed, aJ K (q 34) 878 pl_found] H := hP.sub [0, 1, 2, 3, 4] rfl
  have hD : va_D A [oX10 q, oX7 q pl_hands, aI K (q 32) 16 pl_values, aI K (q 33) 4 pl_renewed, aJ K (q 34) 878 pl_found] := hD.sub [0, 1, 2, 3, 4] (by decide) rfl
  refine lv_if_eq (pc := 7) (tgt := 21) hx hb dX10_plan_7 (by decide) (fun c_2 => ?_) (fun c_2 => ?_)
  · replace hw := hw.1 c_2
    refine lv_bipush (pc := 21) (v := (-2 : Int32)) hx hb dX10_plan_21 (by decide) ?_
    exact hRetI (S := (Nat → Int32) × (Nat → Int64)) (pl_renewed, pl_found) hx hb hr hlocks hQ hw hP hK hD hS dX10_plan_23
  · replace hw := hw.2 c_2
    refine lv_aload_n (pc := 10) hx hb dX10_plan_10 rfl (lv_at hl 0 rfl) ?_
    refine va_get (pc := 11) (D := G) (ci := 10) (v := .ref (q 31)) (C := RX10) (T := TX10) (N := 10) hx hb hts iw_X10_plan_X10 hown hK hP 0 rfl rfl 5 (by decide) (hts _ (List.mem_of_getElem? (i := 1) rfl)) (fun _ h9 => h9) rfl dX10_plan_11 ?_
    refine lv_iload_n (pc := 14) hx hb dX10_plan_14 rfl (lv_at hl 1 rfl) ?_
    refine hCallI (pc := 15) (wr := [oX10 q]) (wsf := fun (u : (Nat → Int32) × (Nat → Int64)) => [oX7 q pl_hands, aI K (q 32) 16 pl_values, aI K (q 33) 4 u.1, aJ K (q 34) 878 u.2]) [1, 2, 3, 4] [0] (va_runVN (As := [.int p1]) (rest := []) ⟨hx, hb, hml, hown, hts⟩ (c_X7_fewestOver l G K tb q H.size _ p1 pl_values pl_renewed pl_found pl_hands hw) ⟨va_cnB 1 hts gX10_plan_X7_fewestOver_n191 rfl rfl rfl (hE.nw 56 rfl) (hts _ (List.mem_of_getElem? (i := 7) rfl)) (by decide +kernel) ⟨Nat.le_of_ble_eq_true rfl, Nat.le_of_ble_eq_true rfl⟩, (hts _ (List.mem_of_getElem? (i := 6) rfl)), (hts _ (List.mem_of_getElem? (i := 8) rfl))⟩ (hPreV hE hP hK hD hS hA [1, 2, 3, 4] (by decide) rfl rfl rfl rfl (q0 := 1) (ci := 7) rfl) rfl rfl hl.1 rfl (lv_room (Nat.le_of_ble_eq_true rfl)) dX10_plan_15 ⟨Nat.zero_le _, Nat.zero_le _⟩) hP hD hS hA rfl rfl (by decide) (by decide) (fun r_3 u H locs hw hP hD hS => ?_)
    obtain ⟨pl_renewed_4, pl_found_5⟩ := u
    have hP : va_P G vwCl [oX10 q, oX7 q pl_hands, aI K (q 32) 16 pl_values, aI K (q 33) 4 pl_renewed_4, aJ K (q 34) 878 pl_found_5] H := hP.sub [0, 1, 2, 3, 4] rfl
    have hD : va_D A [oX10 q, oX7 q pl_hands, aI K (q 32) 16 pl_values, aI K (q 33) 4 pl_renewed_4, aJ K (q 34) 878 pl_found_5] := hD.sub [0, 1, 2, 3, 4] (by decide) rfl
    refine lv_goto (pc := 18) (tgt := 23) hx hb dX10_plan_18 (by decide) ?_
    exact hRetI (S := (Nat → Int32) × (Nat → Int64)) (pl_renewed_4, pl_found_5) hx hb hr hlocks hQ hw hP hK hD hS dX10_plan_23
def P_X10_planned (post : Int32 → (Nat → Int32) → (Nat → Int64) → Prop) (p1 : Int32) (p2 : Int32) (pl_values : Nat → Int32) (pl_renewed : Nat → Int32) (pl_found : Nat → Int64) (pl_hands : Int32) : Prop :=
  P_X10_within (fun r_1 => ((r_1 = (0 : Int32) → post (-2 : Int32) pl_renewed pl_found) ∧ (¬ r_1 = (0 : Int32) → P_X10_within (fun r_3 => ((r_3 = (0 : Int32) → post (-2 : Int32) pl_renewed pl_found) ∧ (¬ r_3 = (0 : Int32) → P_X7_setOfMonth (fun r_5 pl_renewed_6 pl_found_7 => post r_5 pl_renewed_6 pl_found_7) p1 p2 pl_values pl_renewed pl_found pl_hands))) p2 (0 : Int32) (p1 - (1 : Int32))))) p1 (1 : Int32) (8 : Int32)
abbrev rm_X10_planned : Room := { frames := 14, cells := 0, slots := 0, locals := 390 }
theorem iw_X10_planned_X10 : ∀ w ∈ wsX100, w ∈ wsX10_planned := by decide +kernel
set_option maxHeartbeats 4000000 in
set_option maxRecDepth 100000 in
theorem c_X10_planned (l : Launch) (G : va_G) (K : ClassId × ClassId × ClassId) (tb q : Nat → Nat) (sz : Nat) (post : Int32 → (Nat → Int32) → (Nat → Int64) → Prop) (p1 : Int32) (p2 : Int32) (pl_values : Nat → Int32) (pl_renewed : Nat → Int32) (pl_found : Nat → Int64) (pl_hands : Int32) (hw : P_X10_planned post p1 p2 pl_values pl_renewed pl_found pl_hands) : Met l yX10_planned wsX10_planned rm_X10_planned (va_Pc [.ref (q 0), .int p1, .int p2] (hPre G K tb [oX10 q, oX7 q pl_hands, aI K (q 32) 16 pl_values, aI K (q 33) 4 pl_renewed, aJ K (q 34) 878 pl_found] sz)) (va_Qi (fun (r : Int32) (u : (Nat → Int32) × (Nat → Int64)) => post r u.1 u.2) (fun u => hB G K (va_A [oX10 q, oX7 q pl_hands, aI K (q 32) 16 pl_values, aI K (q 33) 4 pl_renewed, aJ K (q 34) 878 pl_found] sz) [oX10 q, oX7 q pl_hands, aI K (q 32) 16 pl_values, aI K (q 33) 4 u.1, aJ K (q 34) 878 u.2]) (va_A [oX10 q, oX7 q pl_hands, aI K (q 32) 16 pl_values, aI K (q 33) 4 pl_renewed, aJ K (q 34) 878 pl_found] sz)) 0 0 (va_A [oX10 q, oX7 q pl_hands, aI K (q 32) 16 pl_values, aI K (q 33) 4 pl_renewed, aJ K (q 34) 878 pl_found] sz) := by
  refine hMet (fun A => va_Qi (fun (r : Int32) (u : (Nat → Int32) × (Nat → Int64)) => post r u.1 u.2) (fun u => hB G K A [oX10 q, oX7 q pl_hands, aI K (q 32) 16 pl_values, aI K (q 33) 4 u.1, aJ K (q 34) 878 u.2]) A) (by decide) rfl (Nat.le_of_ble_eq_true rfl) ?_
  intro p e s m av below meth c A Q ls hx hb hr hml hts hown hlocks hnm hA hP hK hD hS hE hQ hl
  have hts : ∀ w ∈ wsX10_planned, w.before av s = true := hts
  have hown : s.vm.findClass RX10 = some m.cls := hown
  have hl : lv_has ls 3 [(0, .ref (q 0)), (1, .int p1), (2, .int p2)] := hl
  unfold P_X10_planned at hw
  refine lv_iload_n (pc := 0) hx hb dX10_planned_0 rfl (lv_at hl 1 rfl) ?_
  refine lv_iconst (pc := 1) (v := (1 : Int32)) hx hb dX10_planned_1 (by decide) ?_
  refine lv_bipush (pc := 2) (v := (8 : Int32)) hx hb dX10_planned_2 (by decide) ?_
  refine hCallI (pc := 4) (wr := [oX10 q, oX7 q pl_hands, aI K (q 32) 16 pl_values, aI K (q 33) 4 pl_renewed, aJ K (q 34) 878 pl_found]) (wsf := fun (u : Unit) => []) [] [0, 1, 2, 3, 4] (va_runS (As := [.int p1, .int (1 : Int32), .int (8 : Int32)]) (rest := []) ⟨hx, hb, hml, hown, hts⟩ (c_X10_within l G K tb q s.heap.size _ p1 (1 : Int32) (8 : Int32) hw) (va_cwS 3 hts gX10_planned_X10_within rfl rfl rfl (by decide +kernel) ⟨Nat.le_of_ble_eq_true rfl, Nat.le_of_ble_eq_true rfl⟩) (hPreS hE hP hK hD hS hA [] (by decide) rfl rfl) rfl rfl hl.1 rfl (lv_room (Nat.le_of_ble_eq_true rfl)) dX10_planned_4 ⟨Nat.zero_le _, Nat.zero_le _⟩) hP hD hS hA rfl rfl (by decide) (by decide) (fun r_1 u H locs hw hP hD hS => ?_)
  have hP : va_P G vwCl [oX10 q, oX7 q pl_hands, aI K (q 32) 16 pl_values, aI K (q 33) 4 pl_renewed, aJ K (q 34) 878 pl_found] H := hP.sub [0, 1, 2, 3, 4] rfl
  have hD : va_D A [oX10 q, oX7 q pl_hands, aI K (q 32) 16 pl_values, aI K (q 33) 4 pl_renewed, aJ K (q 34) 878 pl_found] := hD.sub [0, 1, 2, 3, 4] (by decide) rfl
  refine lv_if_eq (pc := 7) (tgt := 21) hx hb dX10_planned_7 (by decide) (fun c_2 => ?_) (fun c_2 => ?_)
  · replace hw := hw.1 c_2
    refine lv_bipush (pc := 21) (v := (-2 : Int32)) hx hb dX10_planned_21 (by decide) ?_
    exact hRetI (S := (Nat → Int32) × (Nat → Int64)) (pl_renewed, pl_found) hx hb hr hlocks hQ hw hP hK hD hS dX10_planned_23
  · replace hw := hw.2 c_2
    refine lv_iload_n (pc := 10) hx hb dX10_planned_10 rfl (lv_at hl 2 rfl) ?_
    refine lv_iconst (pc := 11) (v := (0 : Int32)) hx hb dX10_planned_11 (by decide) ?_
    refine lv_iload_n (pc := 12) hx hb dX10_planned_12 rfl (lv_at hl 1 rfl) ?_
    refine lv_iconst (pc := 13) (v := (1 : Int32)) hx hb dX10_planned_13 (by decide) ?_
    refine lv_isub (pc := 14) hx hb dX10_planned_14 ?_
    refine hCallI (pc := 15) (wr := [oX10 q, oX7 q pl_hands, aI K (q 32) 16 pl_values, aI K (q 33) 4 pl_renewed, aJ K (q 34) 878 pl_found]) (wsf := fun (u : Unit) => []) [] [0, 1, 2, 3, 4] (va_runS (As := [.int p2, .int (0 : Int32), .int (p1 - (1 : Int32))]) (rest := []) ⟨hx, hb, hml, hown, hts⟩ (c_X10_within l G K tb q H.size _ p2 (0 : Int32) (p1 - (1 : Int32)) hw) (va_cwS 3 hts gX10_planned_X10_within rfl rfl rfl (by decide +kernel) ⟨Nat.le_of_ble_eq_true rfl, Nat.le_of_ble_eq_true rfl⟩) (hPreS hE hP hK hD hS hA [] (by decide) rfl rfl) rfl rfl hl.1 rfl (lv_room (Nat.le_of_ble_eq_true rfl)) dX10_planned_15 ⟨Nat.zero_le _, Nat.zero_le _⟩) hP hD hS hA rfl rfl (by decide) (by decide) (fun r_3 u H locs hw hP hD hS => ?_)
    have hP : va_P G vwCl [oX10 q, oX7 q pl_hands, aI K (q 32) 16 pl_values, aI K (q 33) 4 pl_renewed, aJ K (q 34) 878 pl_found] H := hP.sub [0, 1, 2, 3, 4] rfl
    have hD : va_D A [oX10 q, oX7 q pl_hands, aI K (q 32) 16 pl_values, aI K (q 33) 4 pl_renewed, aJ K (q 34) 878 pl_found] := hD.sub [0, 1, 2, 3, 4] (by decide) rfl
    refine lv_if_ne (pc := 18) (tgt := 24) hx hb dX10_planned_18 (by decide) (fun c_4 => ?_) (fun c_4 => ?_)
    · replace hw := hw.2 c_4
      refine lv_aload_n (pc := 24) hx hb dX10_planned_24 rfl (lv_at hl 0 rfl) ?_
      refine va_get (pc := 25) (D := G) (ci := 10) (v := .ref (q 31)) (C := RX10) (T := TX10) (N := 10) hx hb hts iw_X10_planned_X10 hown hK hP 0 rfl rfl 5 (by decide) (hts _ (List.mem_of_getElem? (i := 1) rfl)) (fun _ h9 => h9) rfl dX10_planned_25 ?_
      refine lv_iload_n (pc := 28) hx hb dX10_planned_28 rfl (lv_at hl 1 rfl) ?_
      refine lv_iload_n (pc := 29) hx hb dX10_planned_29 rfl (lv_at hl 2 rfl) ?_
      refine hCallI (pc := 30) (wr := [oX10 q]) (wsf := fun (u : (Nat → Int32) × (Nat → Int64)) => [oX7 q pl_hands, aI K (q 32) 16 pl_values, aI K (q 33) 4 u.1, aJ K (q 34) 878 u.2]) [1, 2, 3, 4] [0] (va_runVN (As := [.int p1, .int p2]) (rest := []) ⟨hx, hb, hml, hown, hts⟩ (c_X7_setOfMonth l G K tb q H.size _ p1 p2 pl_values pl_renewed pl_found pl_hands hw) ⟨va_cnB 2 hts gX10_planned_X7_setOfMonth_n194 rfl rfl rfl (hE.nw 57 rfl) (hts _ (List.mem_of_getElem? (i := 7) rfl)) (by decide +kernel) ⟨Nat.le_of_ble_eq_true rfl, Nat.le_of_ble_eq_true rfl⟩, (hts _ (List.mem_of_getElem? (i := 6) rfl)), (hts _ (List.mem_of_getElem? (i := 8) rfl))⟩ (hPreV hE hP hK hD hS hA [1, 2, 3, 4] (by decide) rfl rfl rfl rfl (q0 := 1) (ci := 7) rfl) rfl rfl hl.1 rfl (lv_room (Nat.le_of_ble_eq_true rfl)) dX10_planned_30 ⟨Nat.zero_le _, Nat.zero_le _⟩) hP hD hS hA rfl rfl (by decide) (by decide) (fun r_5 u H locs hw hP hD hS => ?_)
      obtain ⟨pl_renewed_6, pl_found_7⟩ := u
      have hP : va_P G vwCl [oX10 q, oX7 q pl_hands, aI K (q 32) 16 pl_values, aI K (q 33) 4 pl_renewed_6, aJ K (q 34) 878 pl_found_7] H := hP.sub [0, 1, 2, 3, 4] rfl
      have hD : va_D A [oX10 q, oX7 q pl_hands, aI K (q 32) 16 pl_values, aI K (q 33) 4 pl_renewed_6, aJ K (q 34) 878 pl_found_7] := hD.sub [0, 1, 2, 3, 4] (by decide) rfl
      exact hRetI (S := (Nat → Int32) × (Nat → Int64)) (pl_renewed_6, pl_found_7) hx hb hr hlocks hQ hw hP hK hD hS dX10_planned_33
    · replace hw := hw.1 c_4
      refine lv_bipush (pc := 21) (v := (-2 : Int32)) hx hb dX10_planned_21 (by decide) ?_
      exact hRetI (S := (Nat → Int32) × (Nat → Int64)) (pl_renewed, pl_found) hx hb hr hlocks hQ hw hP hK hD hS dX10_planned_23
def P_X10_quarrel (post : Int32 → Prop) (p1 : Int32) (p2 : Int32) (kd_size : Int32) (wg_cellOf : Nat → Int32) (wg_fewest : Nat → Int32) (wg_most : Nat → Int32) (wg_counts : Nat → Int32) (wg_size : Int32) : Prop :=
  P_X10_isCell (fun r_1 => ((r_1 = (0 : Int32) → post (-1 : Int32)) ∧ (¬ r_1 = (0 : Int32) → P_X10_cell (fun r_3 => P_X9_firstAgainst (fun r_4 => post r_4) r_3 wg_cellOf wg_fewest wg_most wg_counts wg_size) p1 p2))) p1 p2 kd_size
abbrev rm_X10_quarrel : Room := { frames := 3, cells := 0, slots := 0, locals := 65 }
theorem iw_X10_quarrel_X10 : ∀ w ∈ wsX100, w ∈ wsX10_quarrel := by decide +kernel
set_option maxHeartbeats 4000000 in
set_option maxRecDepth 100000 in
theorem c_X10_quarrel (l : Launch) (G : va_G) (K : ClassId × ClassId × ClassId) (tb q : Nat → Nat) (sz : Nat) (post : Int32 → Prop) (p1 : Int32) (p2 : Int32) (kd_size : Int32) (wg_cellOf : Nat → Int32) (wg_fewest : Nat → Int32) (wg_most : Nat → Int32) (wg_counts : Nat → Int32) (wg_size : Int32) (hw : P_X10_quarrel post p1 p2 kd_size wg_cellOf wg_fewest wg_most wg_counts wg_size) : Met l yX10_quarrel wsX10_quarrel rm_X10_quarrel (va_Pc [.ref (q 0), .int p1, .int p2] (hPre G K tb [oX10 q, oX4 q kd_size, oX9 q wg_size, aI K (q 8) 40 wg_cellOf, aI K (q 9) 40 wg_fewest, aI K (q 10) 40 wg_most, aZ K (q 11) 40 wg_counts] sz)) (va_Qi (fun (r : Int32) (u : Unit) => post r) (fun u => hB G K (va_A [oX10 q, oX4 q kd_size, oX9 q wg_size, aI K (q 8) 40 wg_cellOf, aI K (q 9) 40 wg_fewest, aI K (q 10) 40 wg_most, aZ K (q 11) 40 wg_counts] sz) [oX10 q, oX4 q kd_size, oX9 q wg_size, aI K (q 8) 40 wg_cellOf, aI K (q 9) 40 wg_fewest, aI K (q 10) 40 wg_most, aZ K (q 11) 40 wg_counts]) (va_A [oX10 q, oX4 q kd_size, oX9 q wg_size, aI K (q 8) 40 wg_cellOf, aI K (q 9) 40 wg_fewest, aI K (q 10) 40 wg_most, aZ K (q 11) 40 wg_counts] sz)) 0 0 (va_A [oX10 q, oX4 q kd_size, oX9 q wg_size, aI K (q 8) 40 wg_cellOf, aI K (q 9) 40 wg_fewest, aI K (q 10) 40 wg_most, aZ K (q 11) 40 wg_counts] sz) := by
  refine hMet (fun A => va_Qi (fun (r : Int32) (u : Unit) => post r) (fun u => hB G K A [oX10 q, oX4 q kd_size, oX9 q wg_size, aI K (q 8) 40 wg_cellOf, aI K (q 9) 40 wg_fewest, aI K (q 10) 40 wg_most, aZ K (q 11) 40 wg_counts]) A) (by decide) rfl (Nat.le_of_ble_eq_true rfl) ?_
  intro p e s m av below meth c A Q ls hx hb hr hml hts hown hlocks hnm hA hP hK hD hS hE hQ hl
  have hts : ∀ w ∈ wsX10_quarrel, w.before av s = true := hts
  have hown : s.vm.findClass RX10 = some m.cls := hown
  have hl : lv_has ls 3 [(0, .ref (q 0)), (1, .int p1), (2, .int p2)] := hl
  unfold P_X10_quarrel at hw
  refine lv_aload_n (pc := 0) hx hb dX10_quarrel_0 rfl (lv_at hl 0 rfl) ?_
  refine lv_iload_n (pc := 1) hx hb dX10_quarrel_1 rfl (lv_at hl 1 rfl) ?_
  refine lv_iload_n (pc := 2) hx hb dX10_quarrel_2 rfl (lv_at hl 2 rfl) ?_
  refine hCallI (pc := 3) (wr := [oX9 q wg_size, aI K (q 8) 40 wg_cellOf, aI K (q 9) 40 wg_fewest, aI K (q 10) 40 wg_most, aZ K (q 11) 40 wg_counts]) (wsf := fun (u : Unit) => [oX10 q, oX4 q kd_size]) [0, 1] [2, 3, 4, 5, 6] (va_runV (As := [.int p1, .int p2]) (rest := []) ⟨hx, hb, hml, hown, hts⟩ (c_X10_isCell l G K tb q s.heap.size _ p1 p2 kd_size hw) (cwV 2 hts gX10_quarrel_X10_isCell rfl rfl rfl (by decide +kernel) ⟨Nat.le_of_ble_eq_true rfl, Nat.le_of_ble_eq_true rfl⟩) (hPreV hE hP hK hD hS hA [0, 1] (by decide) rfl rfl rfl rfl (q0 := 0) (ci := 10) rfl) rfl rfl hl.1 rfl (lv_room (Nat.le_of_ble_eq_true rfl)) dX10_quarrel_3 ⟨Nat.zero_le _, Nat.zero_le _⟩) hP hD hS hA rfl rfl (by decide) (by decide) (fun r_1 u H locs hw hP hD hS => ?_)
  have hP : va_P G vwCl [oX10 q, oX4 q kd_size, oX9 q wg_size, aI K (q 8) 40 wg_cellOf, aI K (q 9) 40 wg_fewest, aI K (q 10) 40 wg_most, aZ K (q 11) 40 wg_counts] H := hP.sub [5, 6, 0, 1, 2, 3, 4] rfl
  have hD : va_D A [oX10 q, oX4 q kd_size, oX9 q wg_size, aI K (q 8) 40 wg_cellOf, aI K (q 9) 40 wg_fewest, aI K (q 10) 40 wg_most, aZ K (q 11) 40 wg_counts] := hD.sub [5, 6, 0, 1, 2, 3, 4] (by decide) rfl
  refine lv_if_eq (pc := 6) (tgt := 24) hx hb dX10_quarrel_6 (by decide) (fun c_2 => ?_) (fun c_2 => ?_)
  · replace hw := hw.1 c_2
    refine lv_iconst (pc := 24) (v := (-1 : Int32)) hx hb dX10_quarrel_24 (by decide) ?_
    exact hRetI (S := Unit) () hx hb hr hlocks hQ hw hP hK hD hS dX10_quarrel_25
  · replace hw := hw.2 c_2
    refine lv_aload_n (pc := 9) hx hb dX10_quarrel_9 rfl (lv_at hl 0 rfl) ?_
    refine va_get (pc := 10) (D := G) (ci := 10) (v := .ref (q 7)) (C := RX10) (T := TX10) (N := 10) hx hb hts iw_X10_quarrel_X10 hown hK hP 0 rfl rfl 2 (by decide) (hts _ (List.mem_of_getElem? (i := 1) rfl)) (fun _ h9 => h9) rfl dX10_quarrel_10 ?_
    refine lv_iload_n (pc := 13) hx hb dX10_quarrel_13 rfl (lv_at hl 1 rfl) ?_
    refine lv_iload_n (pc := 14) hx hb dX10_quarrel_14 rfl (lv_at hl 2 rfl) ?_
    refine hCallI (pc := 15) (wr := [oX10 q, oX4 q kd_size, oX9 q wg_size, aI K (q 8) 40 wg_cellOf, aI K (q 9) 40 wg_fewest, aI K (q 10) 40 wg_most, aZ K (q 11) 40 wg_counts]) (wsf := fun (u : Unit) => []) [] [0, 1, 2, 3, 4, 5, 6] (va_runS (As := [.int p1, .int p2]) (rest := [.ref (q 7)]) ⟨hx, hb, hml, hown, hts⟩ (c_X10_cell l G K tb q H.size _ p1 p2 hw) (va_cwS 2 hts gX10_quarrel_X10_cell rfl rfl rfl (by decide +kernel) ⟨Nat.le_of_ble_eq_true rfl, Nat.le_of_ble_eq_true rfl⟩) (hPreS hE hP hK hD hS hA [] (by decide) rfl rfl) rfl rfl hl.1 rfl (lv_room (Nat.le_of_ble_eq_true rfl)) dX10_quarrel_15 ⟨Nat.zero_le _, Nat.zero_le _⟩) hP hD hS hA rfl rfl (by decide) (by decide) (fun r_3 u H locs hw hP hD hS => ?_)
    have hP : va_P G vwCl [oX10 q, oX4 q kd_size, oX9 q wg_size, aI K (q 8) 40 wg_cellOf, aI K (q 9) 40 wg_fewest, aI K (q 10) 40 wg_most, aZ K (q 11) 40 wg_counts] H := hP.sub [0, 1, 2, 3, 4, 5, 6] rfl
    have hD : va_D A [oX10 q, oX4 q kd_size, oX9 q wg_size, aI K (q 8) 40 wg_cellOf, aI K (q 9) 40 wg_fewest, aI K (q 10) 40 wg_most, aZ K (q 11) 40 wg_counts] := hD.sub [0, 1, 2, 3, 4, 5, 6] (by decide) rfl
    refine hCallI (pc := 18) (wr := [oX10 q, oX4 q kd_size]) (wsf := fun (u : Unit) => [oX9 q wg_size, aI K (q 8) 40 wg_cellOf, aI K (q 9) 40 wg_fewest, aI K (q 10) 40 wg_most, aZ K (q 11) 40 wg_counts]) [2, 3, 4, 5, 6] [0, 1] (va_runVN (As := [.int r_3]) (rest := []) ⟨hx, hb, hml, hown, hts⟩ (c_X9_firstAgainst l G K tb q H.size _ r_3 wg_cellOf wg_fewest wg_most wg_counts wg_size hw) ⟨va_cnB 1 hts gX10_quarrel_X9_firstAgainst_n122 rfl rfl rfl (hE.nw 37 rfl) (hts _ (List.mem_of_getElem? (i := 23) rfl)) (by decide +kernel) ⟨Nat.le_of_ble_eq_true rfl, Nat.le_of_ble_eq_true rfl⟩, (hts _ (List.mem_of_getElem? (i := 22) rfl)), (hts _ (List.mem_of_getElem? (i := 24) rfl))⟩ (hPreV hE hP hK hD hS hA [2, 3, 4, 5, 6] (by decide) rfl rfl rfl rfl (q0 := 2) (ci := 9) rfl) rfl rfl hl.1 rfl (lv_room (Nat.le_of_ble_eq_true rfl)) dX10_quarrel_18 ⟨Nat.zero_le _, Nat.zero_le _⟩) hP hD hS hA rfl rfl (by decide) (by decide) (fun r_4 u H locs hw hP hD hS => ?_)
    have hP : va_P G vwCl [oX10 q, oX4 q kd_size, oX9 q wg_size, aI K (q 8) 40 wg_cellOf, aI K (q 9) 40 wg_fewest, aI K (q 10) 40 wg_most, aZ K (q 11) 40 wg_counts] H := hP.sub [0, 1, 2, 3, 4, 5, 6] rfl
    have hD : va_D A [oX10 q, oX4 q kd_size, oX9 q wg_size, aI K (q 8) 40 wg_cellOf, aI K (q 9) 40 wg_fewest, aI K (q 10) 40 wg_most, aZ K (q 11) 40 wg_counts] := hD.sub [0, 1, 2, 3, 4, 5, 6] (by decide) rfl
    refine lv_goto (pc := 21) (tgt := 25) hx hb dX10_quarrel_21 (by decide) ?_
    exact hRetI (S := Unit) () hx hb hr hlocks hQ hw hP hK hD hS dX10_quarrel_25
def P_X10_sure (post : Int32 → Prop) (p1 : Int32) (p2 : Int32) (p3 : Int32) (kd_size : Int32) (wg_cellOf : Nat → Int32) (wg_fewest : Nat → Int32) (wg_most : Nat → Int32) (wg_counts : Nat → Int32) (wg_size : Int32) : Prop :=
  P_X10_isCell (fun r_1 => ((r_1 = (0 : Int32) → post (-1 : Int32)) ∧ (¬ r_1 = (0 : Int32) → P_X10_cell (fun r_3 => P_X9_edge (fun r_4 => post r_4) r_3 p3 wg_cellOf wg_fewest wg_most wg_counts wg_size) p1 p2))) p1 p2 kd_size
abbrev rm_X10_sure : Room := { frames := 3, cells := 0, slots := 0, locals := 65 }
theorem iw_X10_sure_X10 : ∀ w ∈ wsX100, w ∈ wsX10_sure := by decide +kernel
set_option maxHeartbeats 4000000 in
set_option maxRecDepth 100000 in
theorem c_X10_sure (l : Launch) (G : va_G) (K : ClassId × ClassId × ClassId) (tb q : Nat → Nat) (sz : Nat) (post : Int32 → Prop) (p1 : Int32) (p2 : Int32) (p3 : Int32) (kd_size : Int32) (wg_cellOf : Nat → Int32) (wg_fewest : Nat → Int32) (wg_most : Nat → Int32) (wg_counts : Nat → Int32) (wg_size : Int32) (hw : P_X10_sure post p1 p2 p3 kd_size wg_cellOf wg_fewest wg_most wg_counts wg_size) : Met l yX10_sure wsX10_sure rm_X10_sure (va_Pc [.ref (q 0), .int p1, .int p2, .int p3] (hPre G K tb [oX10 q, oX4 q kd_size, oX9 q wg_size, aI K (q 8) 40 wg_cellOf, aI K (q 9) 40 wg_fewest, aI K (q 10) 40 wg_most, aZ K (q 11) 40 wg_counts] sz)) (va_Qi (fun (r : Int32) (u : Unit) => post r) (fun u => hB G K (va_A [oX10 q, oX4 q kd_size, oX9 q wg_size, aI K (q 8) 40 wg_cellOf, aI K (q 9) 40 wg_fewest, aI K (q 10) 40 wg_most, aZ K (q 11) 40 wg_counts] sz) [oX10 q, oX4 q kd_size, oX9 q wg_size, aI K (q 8) 40 wg_cellOf, aI K (q 9) 40 wg_fewest, aI K (q 10) 40 wg_most, aZ K (q 11) 40 wg_counts]) (va_A [oX10 q, oX4 q kd_size, oX9 q wg_size, aI K (q 8) 40 wg_cellOf, aI K (q 9) 40 wg_fewest, aI K (q 10) 40 wg_most, aZ K (q 11) 40 wg_counts] sz)) 0 0 (va_A [oX10 q, oX4 q kd_size, oX9 q wg_size, aI K (q 8) 40 wg_cellOf, aI K (q 9) 40 wg_fewest, aI K (q 10) 40 wg_most, aZ K (q 11) 40 wg_counts] sz) := by
  refine hMet (fun A => va_Qi (fun (r : Int32) (u : Unit) => post r) (fun u => hB G K A [oX10 q, oX4 q kd_size, oX9 q wg_size, aI K (q 8) 40 wg_cellOf, aI K (q 9) 40 wg_fewest, aI K (q 10) 40 wg_most, aZ K (q 11) 40 wg_counts]) A) (by decide) rfl (Nat.le_of_ble_eq_true rfl) ?_
  intro p e s m av below meth c A Q ls hx hb hr hml hts hown hlocks hnm hA hP hK hD hS hE hQ hl
  have hts : ∀ w ∈ wsX10_sure, w.before av s = true := hts
  have hown : s.vm.findClass RX10 = some m.cls := hown
  have hl : lv_has ls 4 [(0, .ref (q 0)), (1, .int p1), (2, .int p2), (3, .int p3)] := hl
  unfold P_X10_sure at hw
  refine lv_aload_n (pc := 0) hx hb dX10_sure_0 rfl (lv_at hl 0 rfl) ?_
  refine lv_iload_n (pc := 1) hx hb dX10_sure_1 rfl (lv_at hl 1 rfl) ?_
  refine lv_iload_n (pc := 2) hx hb dX10_sure_2 rfl (lv_at hl 2 rfl) ?_
  refine hCallI (pc := 3) (wr := [oX9 q wg_size, aI K (q 8) 40 wg_cellOf, aI K (q 9) 40 wg_fewest, aI K (q 10) 40 wg_most, aZ K (q 11) 40 wg_counts]) (wsf := fun (u : Unit) => [oX10 q, oX4 q kd_size]) [0, 1] [2, 3, 4, 5, 6] (va_runV (As := [.int p1, .int p2]) (rest := []) ⟨hx, hb, hml, hown, hts⟩ (c_X10_isCell l G K tb q s.heap.size _ p1 p2 kd_size hw) (cwV 2 hts gX10_sure_X10_isCell rfl rfl rfl (by decide +kernel) ⟨Nat.le_of_ble_eq_true rfl, Nat.le_of_ble_eq_true rfl⟩) (hPreV hE hP hK hD hS hA [0, 1] (by decide) rfl rfl rfl rfl (q0 := 0) (ci := 10) rfl) rfl rfl hl.1 rfl (lv_room (Nat.le_of_ble_eq_true rfl)) dX10_sure_3 ⟨Nat.zero_le _, Nat.zero_le _⟩) hP hD hS hA rfl rfl (by decide) (by decide) (fun r_1 u H locs hw hP hD hS => ?_)
  have hP : va_P G vwCl [oX10 q, oX4 q kd_size, oX9 q wg_size, aI K (q 8) 40 wg_cellOf, aI K (q 9) 40 wg_fewest, aI K (q 10) 40 wg_most, aZ K (q 11) 40 wg_counts] H := hP.sub [5, 6, 0, 1, 2, 3, 4] rfl
  have hD : va_D A [oX10 q, oX4 q kd_size, oX9 q wg_size, aI K (q 8) 40 wg_cellOf, aI K (q 9) 40 wg_fewest, aI K (q 10) 40 wg_most, aZ K (q 11) 40 wg_counts] := hD.sub [5, 6, 0, 1, 2, 3, 4] (by decide) rfl
  refine lv_if_eq (pc := 6) (tgt := 25) hx hb dX10_sure_6 (by decide) (fun c_2 => ?_) (fun c_2 => ?_)
  · replace hw := hw.1 c_2
    refine lv_iconst (pc := 25) (v := (-1 : Int32)) hx hb dX10_sure_25 (by decide) ?_
    exact hRetI (S := Unit) () hx hb hr hlocks hQ hw hP hK hD hS dX10_sure_26
  · replace hw := hw.2 c_2
    refine lv_aload_n (pc := 9) hx hb dX10_sure_9 rfl (lv_at hl 0 rfl) ?_
    refine va_get (pc := 10) (D := G) (ci := 10) (v := .ref (q 7)) (C := RX10) (T := TX10) (N := 10) hx hb hts iw_X10_sure_X10 hown hK hP 0 rfl rfl 2 (by decide) (hts _ (List.mem_of_getElem? (i := 1) rfl)) (fun _ h9 => h9) rfl dX10_sure_10 ?_
    refine lv_iload_n (pc := 13) hx hb dX10_sure_13 rfl (lv_at hl 1 rfl) ?_
    refine lv_iload_n (pc := 14) hx hb dX10_sure_14 rfl (lv_at hl 2 rfl) ?_
    refine hCallI (pc := 15) (wr := [oX10 q, oX4 q kd_size, oX9 q wg_size, aI K (q 8) 40 wg_cellOf, aI K (q 9) 40 wg_fewest, aI K (q 10) 40 wg_most, aZ K (q 11) 40 wg_counts]) (wsf := fun (u : Unit) => []) [] [0, 1, 2, 3, 4, 5, 6] (va_runS (As := [.int p1, .int p2]) (rest := [.ref (q 7)]) ⟨hx, hb, hml, hown, hts⟩ (c_X10_cell l G K tb q H.size _ p1 p2 hw) (va_cwS 2 hts gX10_sure_X10_cell rfl rfl rfl (by decide +kernel) ⟨Nat.le_of_ble_eq_true rfl, Nat.le_of_ble_eq_true rfl⟩) (hPreS hE hP hK hD hS hA [] (by decide) rfl rfl) rfl rfl hl.1 rfl (lv_room (Nat.le_of_ble_eq_true rfl)) dX10_sure_15 ⟨Nat.zero_le _, Nat.zero_le _⟩) hP hD hS hA rfl rfl (by decide) (by decide) (fun r_3 u H locs hw hP hD hS => ?_)
    have hP : va_P G vwCl [oX10 q, oX4 q kd_size, oX9 q wg_size, aI K (q 8) 40 wg_cellOf, aI K (q 9) 40 wg_fewest, aI K (q 10) 40 wg_most, aZ K (q 11) 40 wg_counts] H := hP.sub [0, 1, 2, 3, 4, 5, 6] rfl
    have hD : va_D A [oX10 q, oX4 q kd_size, oX9 q wg_size, aI K (q 8) 40 wg_cellOf, aI K (q 9) 40 wg_fewest, aI K (q 10) 40 wg_most, aZ K (q 11) 40 wg_counts] := hD.sub [0, 1, 2, 3, 4, 5, 6] (by decide) rfl
    refine lv_iload_n (pc := 18) hx hb dX10_sure_18 rfl (lv_at hl 3 rfl) ?_
    refine hCallI (pc := 19) (wr := [oX10 q, oX4 q kd_size]) (wsf := fun (u : Unit) => [oX9 q wg_size, aI K (q 8) 40 wg_cellOf, aI K (q 9) 40 wg_fewest, aI K (q 10) 40 wg_most, aZ K (q 11) 40 wg_counts]) [2, 3, 4, 5, 6] [0, 1] (va_runVN (As := [.int r_3, .int p3]) (rest := []) ⟨hx, hb, hml, hown, hts⟩ (c_X9_edge l G K tb q H.size _ r_3 p3 wg_cellOf wg_fewest wg_most wg_counts wg_size hw) ⟨va_cnB 2 hts gX10_sure_X9_edge_n118 rfl rfl rfl (hE.nw 36 rfl) (hts _ (List.mem_of_getElem? (i := 23) rfl)) (by decide +kernel) ⟨Nat.le_of_ble_eq_true rfl, Nat.le_of_ble_eq_true rfl⟩, (hts _ (List.mem_of_getElem? (i := 22) rfl)), (hts _ (List.mem_of_getElem? (i := 24) rfl))⟩ (hPreV hE hP hK hD hS hA [2, 3, 4, 5, 6] (by decide) rfl rfl rfl rfl (q0 := 2) (ci := 9) rfl) rfl rfl hl.1 rfl (lv_room (Nat.le_of_ble_eq_true rfl)) dX10_sure_19 ⟨Nat.zero_le _, Nat.zero_le _⟩) hP hD hS hA rfl rfl (by decide) (by decide) (fun r_4 u H locs hw hP hD hS => ?_)
    have hP : va_P G vwCl [oX10 q, oX4 q kd_size, oX9 q wg_size, aI K (q 8) 40 wg_cellOf, aI K (q 9) 40 wg_fewest, aI K (q 10) 40 wg_most, aZ K (q 11) 40 wg_counts] H := hP.sub [0, 1, 2, 3, 4, 5, 6] rfl
    have hD : va_D A [oX10 q, oX4 q kd_size, oX9 q wg_size, aI K (q 8) 40 wg_cellOf, aI K (q 9) 40 wg_fewest, aI K (q 10) 40 wg_most, aZ K (q 11) 40 wg_counts] := hD.sub [0, 1, 2, 3, 4, 5, 6] (by decide) rfl
    refine lv_goto (pc := 22) (tgt := 26) hx hb dX10_sure_22 (by decide) ?_
    exact hRetI (S := Unit) () hx hb hr hlocks hQ hw hP hK hD hS dX10_sure_26
def P_X10_told (post : Int32 → Prop) (p1 : Int32) (p2 : Int32) (p3 : Int32) (br_night : Nat → Int32) (br_shift : Nat → Int32) (br_pieces : Nat → Int32) (br_size : Int32) : Prop :=
  P_X10_isShift (fun r_1 => ((r_1 = (0 : Int32) → post (-2 : Int32)) ∧ (¬ r_1 = (0 : Int32) → P_X10_within (fun r_3 => ((r_3 = (0 : Int32) → post (-2 : Int32)) ∧ (¬ r_3 = (0 : Int32) → P_X10_within (fun r_5 => ((r_5 = (0 : Int32) → post (-2 : Int32)) ∧ (¬ r_5 = (0 : Int32) → P_X1_tell (fun r_7 => post r_7) p1 p2 p3 br_night br_shift br_pieces br_size))) p3 p2 (999 : Int32)))) p2 (0 : Int32) (999 : Int32)))) p1
abbrev rm_X10_told : Room := { frames := 2, cells := 0, slots := 0, locals := 48 }
theorem iw_X10_told_X10 : ∀ w ∈ wsX100, w ∈ wsX10_told := by decide +kernel
set_option maxHeartbeats 4000000 in
set_option maxRecDepth 100000 in
theorem c_X10_told (l : Launch) (G : va_G) (K : ClassId × ClassId × ClassId) (tb q : Nat → Nat) (sz : Nat) (post : Int32 → Prop) (p1 : Int32) (p2 : Int32) (p3 : Int32) (br_night : Nat → Int32) (br_shift : Nat → Int32) (br_pieces : Nat → Int32) (br_size : Int32) (hw : P_X10_told post p1 p2 p3 br_night br_shift br_pieces br_size) : Met l yX10_told wsX10_told rm_X10_told (va_Pc [.ref (q 0), .int p1, .int p2, .int p3] (hPre G K tb [oX10 q, oX1 q br_size, aI K (q 45) 60 br_night, aI K (q 46) 60 br_shift, aI K (q 47) 60 br_pieces] sz)) (va_Qi (fun (r : Int32) (u : Unit) => post r) (fun u => hB G K (va_A [oX10 q, oX1 q br_size, aI K (q 45) 60 br_night, aI K (q 46) 60 br_shift, aI K (q 47) 60 br_pieces] sz) [oX10 q, oX1 q br_size, aI K (q 45) 60 br_night, aI K (q 46) 60 br_shift, aI K (q 47) 60 br_pieces]) (va_A [oX10 q, oX1 q br_size, aI K (q 45) 60 br_night, aI K (q 46) 60 br_shift, aI K (q 47) 60 br_pieces] sz)) 0 0 (va_A [oX10 q, oX1 q br_size, aI K (q 45) 60 br_night, aI K (q 46) 60 br_shift, aI K (q 47) 60 br_pieces] sz) := by
  refine hMet (fun A => va_Qi (fun (r : Int32) (u : Unit) => post r) (fun u => hB G K A [oX10 q, oX1 q br_size, aI K (q 45) 60 br_night, aI K (q 46) 60 br_shift, aI K (q 47) 60 br_pieces]) A) (by decide) rfl (Nat.le_of_ble_eq_true rfl) ?_
  intro p e s m av below meth c A Q ls hx hb hr hml hts hown hlocks hnm hA hP hK hD hS hE hQ hl
  have hts : ∀ w ∈ wsX10_told, w.before av s = true := hts
  have hown : s.vm.findClass RX10 = some m.cls := hown
  have hl : lv_has ls 4 [(0, .ref (q 0)), (1, .int p1), (2, .int p2), (3, .int p3)] := hl
  unfold P_X10_told at hw
  refine lv_iload_n (pc := 0) hx hb dX10_told_0 rfl (lv_at hl 1 rfl) ?_
  refine hCallI (pc := 1) (wr := [oX10 q, oX1 q br_size, aI K (q 45) 60 br_night, aI K (q 46) 60 br_shift, aI K (q 47) 60 br_pieces]) (wsf := fun (u : Unit) => []) [] [0, 1, 2, 3, 4] (va_runS (As := [.int p1]) (rest := []) ⟨hx, hb, hml, hown, hts⟩ (c_X10_isShift l G K tb q s.heap.size _ p1 hw) (va_cwS 1 hts gX10_told_X10_isShift rfl rfl rfl (by decide +kernel) ⟨Nat.le_of_ble_eq_true rfl, Nat.le_of_ble_eq_true rfl⟩) (hPreS hE hP hK hD hS hA [] (by decide) rfl rfl) rfl rfl hl.1 rfl (lv_room (Nat.le_of_ble_eq_true rfl)) dX10_told_1 ⟨Nat.zero_le _, Nat.zero_le _⟩) hP hD hS hA rfl rfl (by decide) (by decide) (fun r_1 u H locs hw hP hD hS => ?_)
  have hP : va_P G vwCl [oX10 q, oX1 q br_size, aI K (q 45) 60 br_night, aI K (q 46) 60 br_shift, aI K (q 47) 60 br_pieces] H := hP.sub [0, 1, 2, 3, 4] rfl
  have hD : va_D A [oX10 q, oX1 q br_size, aI K (q 45) 60 br_night, aI K (q 46) 60 br_shift, aI K (q 47) 60 br_pieces] := hD.sub [0, 1, 2, 3, 4] (by decide) rfl
  refine lv_if_eq (pc := 4) (tgt := 29) hx hb dX10_told_4 (by decide) (fun c_2 => ?_) (fun c_2 => ?_)
  · replace hw := hw.1 c_2
    refine lv_bipush (pc := 29) (v := (-2 : Int32)) hx hb dX10_told_29 (by decide) ?_
    exact hRetI (S := Unit) () hx hb hr hlocks hQ hw hP hK hD hS dX10_told_31
  · replace hw := hw.2 c_2
    refine lv_iload_n (pc := 7) hx hb dX10_told_7 rfl (lv_at hl 2 rfl) ?_
    refine lv_iconst (pc := 8) (v := (0 : Int32)) hx hb dX10_told_8 (by decide) ?_
    refine lv_sipush (pc := 9) (v := (999 : Int32)) hx hb dX10_told_9 (by decide) ?_
    refine hCallI (pc := 12) (wr := [oX10 q, oX1 q br_size, aI K (q 45) 60 br_night, aI K (q 46) 60 br_shift, aI K (q 47) 60 br_pieces]) (wsf := fun (u : Unit) => []) [] [0, 1, 2, 3, 4] (va_runS (As := [.int p2, .int (0 : Int32), .int (999 : Int32)]) (rest := []) ⟨hx, hb, hml, hown, hts⟩ (c_X10_within l G K tb q H.size _ p2 (0 : Int32) (999 : Int32) hw) (va_cwS 3 hts gX10_told_X10_within rfl rfl rfl (by decide +kernel) ⟨Nat.le_of_ble_eq_true rfl, Nat.le_of_ble_eq_true rfl⟩) (hPreS hE hP hK hD hS hA [] (by decide) rfl rfl) rfl rfl hl.1 rfl (lv_room (Nat.le_of_ble_eq_true rfl)) dX10_told_12 ⟨Nat.zero_le _, Nat.zero_le _⟩) hP hD hS hA rfl rfl (by decide) (by decide) (fun r_3 u H locs hw hP hD hS => ?_)
    have hP : va_P G vwCl [oX10 q, oX1 q br_size, aI K (q 45) 60 br_night, aI K (q 46) 60 br_shift, aI K (q 47) 60 br_pieces] H := hP.sub [0, 1, 2, 3, 4] rfl
    have hD : va_D A [oX10 q, oX1 q br_size, aI K (q 45) 60 br_night, aI K (q 46) 60 br_shift, aI K (q 47) 60 br_pieces] := hD.sub [0, 1, 2, 3, 4] (by decide) rfl
    refine lv_if_eq (pc := 15) (tgt := 29) hx hb dX10_told_15 (by decide) (fun c_4 => ?_) (fun c_4 => ?_)
    · replace hw := hw.1 c_4
      refine lv_bipush (pc := 29) (v := (-2 : Int32)) hx hb dX10_told_29 (by decide) ?_
      exact hRetI (S := Unit) () hx hb hr hlocks hQ hw hP hK hD hS dX10_told_31
    · replace hw := hw.2 c_4
      refine lv_iload_n (pc := 18) hx hb dX10_told_18 rfl (lv_at hl 3 rfl) ?_
      refine lv_iload_n (pc := 19) hx hb dX10_told_19 rfl (lv_at hl 2 rfl) ?_
      refine lv_sipush (pc := 20) (v := (999 : Int32)) hx hb dX10_told_20 (by decide) ?_
      refine hCallI (pc := 23) (wr := [oX10 q, oX1 q br_size, aI K (q 45) 60 br_night, aI K (q 46) 60 br_shift, aI K (q 47) 60 br_pieces]) (wsf := fun (u : Unit) => []) [] [0, 1, 2, 3, 4] (va_runS (As := [.int p3, .int p2, .int (999 : Int32)]) (rest := []) ⟨hx, hb, hml, hown, hts⟩ (c_X10_within l G K tb q H.size _ p3 p2 (999 : Int32) hw) (va_cwS 3 hts gX10_told_X10_within rfl rfl rfl (by decide +kernel) ⟨Nat.le_of_ble_eq_true rfl, Nat.le_of_ble_eq_true rfl⟩) (hPreS hE hP hK hD hS hA [] (by decide) rfl rfl) rfl rfl hl.1 rfl (lv_room (Nat.le_of_ble_eq_true rfl)) dX10_told_23 ⟨Nat.zero_le _, Nat.zero_le _⟩) hP hD hS hA rfl rfl (by decide) (by decide) (fun r_5 u H locs hw hP hD hS => ?_)
      have hP : va_P G vwCl [oX10 q, oX1 q br_size, aI K (q 45) 60 br_night, aI K (q 46) 60 br_shift, aI K (q 47) 60 br_pieces] H := hP.sub [0, 1, 2, 3, 4] rfl
      have hD : va_D A [oX10 q, oX1 q br_size, aI K (q 45) 60 br_night, aI K (q 46) 60 br_shift, aI K (q 47) 60 br_pieces] := hD.sub [0, 1, 2, 3, 4] (by decide) rfl
      refine lv_if_ne (pc := 26) (tgt := 32) hx hb dX10_told_26 (by decide) (fun c_6 => ?_) (fun c_6 => ?_)
      · replace hw := hw.2 c_6
        refine lv_aload_n (pc := 32) hx hb dX10_told_32 rfl (lv_at hl 0 rfl) ?_
        refine va_get (pc := 33) (D := G) (ci := 10) (v := .ref (q 44)) (C := RX10) (T := TX10) (N := 10) hx hb hts iw_X10_told_X10 hown hK hP 0 rfl rfl 9 (by decide) (hts _ (List.mem_of_getElem? (i := 1) rfl)) (fun _ h9 => h9) rfl dX10_told_33 ?_
        refine lv_iload_n (pc := 36) hx hb dX10_told_36 rfl (lv_at hl 1 rfl) ?_
        refine lv_iload_n (pc := 37) hx hb dX10_told_37 rfl (lv_at hl 2 rfl) ?_
        refine lv_iload_n (pc := 38) hx hb dX10_told_38 rfl (lv_at hl 3 rfl) ?_
        refine hCallI (pc := 39) (wr := [oX10 q]) (wsf := fun (u : Unit) => [oX1 q br_size, aI K (q 45) 60 br_night, aI K (q 46) 60 br_shift, aI K (q 47) 60 br_pieces]) [1, 2, 3, 4] [0] (va_runVN (As := [.int p1, .int p2, .int p3]) (rest := []) ⟨hx, hb, hml, hown, hts⟩ (c_X1_tell l G K tb q H.size _ p1 p2 p3 br_night br_shift br_pieces br_size hw) ⟨va_cnB 3 hts gX10_told_X1_tell_n265 rfl rfl rfl (hE.nw 72 rfl) (hts _ (List.mem_of_getElem? (i := 10) rfl)) (by decide +kernel) ⟨Nat.le_of_ble_eq_true rfl, Nat.le_of_ble_eq_true rfl⟩, (hts _ (List.mem_of_getElem? (i := 9) rfl)), (hts _ (List.mem_of_getElem? (i := 11) rfl))⟩ (hPreV hE hP hK hD hS hA [1, 2, 3, 4] (by decide) rfl rfl rfl rfl (q0 := 1) (ci := 1) rfl) rfl rfl hl.1 rfl (lv_room (Nat.le_of_ble_eq_true rfl)) dX10_told_39 ⟨Nat.zero_le _, Nat.zero_le _⟩) hP hD hS hA rfl rfl (by decide) (by decide) (fun r_7 u H locs hw hP hD hS => ?_)
        have hP : va_P G vwCl [oX10 q, oX1 q br_size, aI K (q 45) 60 br_night, aI K (q 46) 60 br_shift, aI K (q 47) 60 br_pieces] H := hP.sub [0, 1, 2, 3, 4] rfl
        have hD : va_D A [oX10 q, oX1 q br_size, aI K (q 45) 60 br_night, aI K (q 46) 60 br_shift, aI K (q 47) 60 br_pieces] := hD.sub [0, 1, 2, 3, 4] (by decide) rfl
        exact hRetI (S := Unit) () hx hb hr hlocks hQ hw hP hK hD hS dX10_told_42
      · replace hw := hw.1 c_6
        refine lv_bipush (pc := 29) (v := (-2 : Int32)) hx hb dX10_told_29 (by decide) ?_
        exact hRetI (S := Unit) () hx hb hr hlocks hQ hw hP hK hD hS dX10_told_31
def P_X10_trayRefusal (post : Int32 → Prop) (p1 : Int32) (p2 : Int32) (p3 : Int32) (p4 : Int32) (kd_size : Int32) : Prop :=
  P_X4_has (fun r_1 => ((r_1 = (0 : Int32) → post (-1 : Int32)) ∧ (¬ r_1 = (0 : Int32) → P_X4_has (fun r_3 => ((r_3 = (0 : Int32) → post (-1 : Int32)) ∧ (¬ r_3 = (0 : Int32) → P_X10_isWeight (fun r_5 => ((r_5 = (0 : Int32) → post (-2 : Int32)) ∧ (¬ r_5 = (0 : Int32) → ∀ v_8 : Int32, v_8 = (if p1 = p2 then (-3 : Int32) else (0 : Int32)) → post v_8))) p3 p4))) p2 kd_size))) p1 kd_size
abbrev rm_X10_trayRefusal : Room := { frames := 2, cells := 0, slots := 0, locals := 43 }
theorem iw_X10_trayRefusal_X10 : ∀ w ∈ wsX100, w ∈ wsX10_trayRefusal := by decide +kernel
set_option maxHeartbeats 4000000 in
set_option maxRecDepth 100000 in
theorem c_X10_trayRefusal (l : Launch) (G : va_G) (K : ClassId × ClassId × ClassId) (tb q : Nat → Nat) (sz : Nat) (post : Int32 → Prop) (p1 : Int32) (p2 : Int32) (p3 : Int32) (p4 : Int32) (kd_size : Int32) (hw : P_X10_trayRefusal post p1 p2 p3 p4 kd_size) : Met l yX10_trayRefusal wsX10_trayRefusal rm_X10_trayRefusal (va_Pc [.ref (q 0), .int p1, .int p2, .int p3, .int p4] (hPre G K tb [oX10 q, oX4 q kd_size] sz)) (va_Qi (fun (r : Int32) (u : Unit) => post r) (fun u => hB G K (va_A [oX10 q, oX4 q kd_size] sz) [oX10 q, oX4 q kd_size]) (va_A [oX10 q, oX4 q kd_size] sz)) 0 0 (va_A [oX10 q, oX4 q kd_size] sz) := by
  refine hMet (fun A => va_Qi (fun (r : Int32) (u : Unit) => post r) (fun u => hB G K A [oX10 q, oX4 q kd_size]) A) (by decide) rfl (Nat.le_of_ble_eq_true rfl) ?_
  intro p e s m av below meth c A Q ls hx hb hr hml hts hown hlocks hnm hA hP hK hD hS hE hQ hl
  have hts : ∀ w ∈ wsX10_trayRefusal, w.before av s = true := hts
  have hown : s.vm.findClass RX10 = some m.cls := hown
  have hl : lv_has ls 5 [(0, .ref (q 0)), (1, .int p1), (2, .int p2), (3, .int p3), (4, .int p4)] := hl
  unfold P_X10_trayRefusal at hw
  refine lv_aload_n (pc := 0) hx hb dX10_trayRefusal_0 rfl (lv_at hl 0 rfl) ?_
  refine va_get (pc := 1) (D := G) (ci := 10) (v := .ref (q 1)) (C := RX10) (T := TX10) (N := 10) hx hb hts iw_X10_trayRefusal_X10 hown hK hP 0 rfl rfl 0 (by decide) (hts _ (List.mem_of_getElem? (i := 1) rfl)) (fun _ h9 => h9) rfl dX10_trayRefusal_1 ?_
  refine lv_iload_n (pc := 4) hx hb dX10_trayRefusal_4 rfl (lv_at hl 1 rfl) ?_
  refine hCallI (pc := 5) (wr := [oX10 q]) (wsf := fun (u : Unit) => [oX4 q kd_size]) [1] [0] (va_runVN (As := [.int p1]) (rest := []) ⟨hx, hb, hml, hown, hts⟩ (c_X4_has l G K tb q s.heap.size _ p1 kd_size hw) ⟨va_cnB 1 hts gX10_trayRefusal_X4_has_n159 rfl rfl rfl (hE.nw 29 rfl) (hts _ (List.mem_of_getElem? (i := 3) rfl)) (by decide +kernel) ⟨Nat.le_of_ble_eq_true rfl, Nat.le_of_ble_eq_true rfl⟩, (hts _ (List.mem_of_getElem? (i := 2) rfl)), (hts _ (List.mem_of_getElem? (i := 4) rfl))⟩ (hPreV hE hP hK hD hS hA [1] (by decide) rfl rfl rfl rfl (q0 := 1) (ci := 4) rfl) rfl rfl hl.1 rfl (lv_room (Nat.le_of_ble_eq_true rfl)) dX10_trayRefusal_5 ⟨Nat.zero_le _, Nat.zero_le _⟩) hP hD hS hA rfl rfl (by decide) (by decide) (fun r_1 u H locs hw hP hD hS => ?_)
  have hP : va_P G vwCl [oX10 q, oX4 q kd_size] H := hP.sub [0, 1] rfl
  have hD : va_D A [oX10 q, oX4 q kd_size] := hD.sub [0, 1] (by decide) rfl
  refine lv_if_eq (pc := 8) (tgt := 22) hx hb dX10_trayRefusal_8 (by decide) (fun c_2 => ?_) (fun c_2 => ?_)
  · replace hw := hw.1 c_2
    refine lv_iconst (pc := 22) (v := (-1 : Int32)) hx hb dX10_trayRefusal_22 (by decide) ?_
    exact hRetI (S := Unit) () hx hb hr hlocks hQ hw hP hK hD hS dX10_trayRefusal_23
  · replace hw := hw.2 c_2
    refine lv_aload_n (pc := 11) hx hb dX10_trayRefusal_11 rfl (lv_at hl 0 rfl) ?_
    refine va_get (pc := 12) (D := G) (ci := 10) (v := .ref (q 1)) (C := RX10) (T := TX10) (N := 10) hx hb hts iw_X10_trayRefusal_X10 hown hK hP 0 rfl rfl 0 (by decide) (hts _ (List.mem_of_getElem? (i := 1) rfl)) (fun _ h9 => h9) rfl dX10_trayRefusal_12 ?_
    refine lv_iload_n (pc := 15) hx hb dX10_trayRefusal_15 rfl (lv_at hl 2 rfl) ?_
    refine hCallI (pc := 16) (wr := [oX10 q]) (wsf := fun (u : Unit) => [oX4 q kd_size]) [1] [0] (va_runVN (As := [.int p2]) (rest := []) ⟨hx, hb, hml, hown, hts⟩ (c_X4_has l G K tb q H.size _ p2 kd_size hw) ⟨va_cnB 1 hts gX10_trayRefusal_X4_has_n159 rfl rfl rfl (hE.nw 29 rfl) (hts _ (List.mem_of_getElem? (i := 3) rfl)) (by decide +kernel) ⟨Nat.le_of_ble_eq_true rfl, Nat.le_of_ble_eq_true rfl⟩, (hts _ (List.mem_of_getElem? (i := 2) rfl)), (hts _ (List.mem_of_getElem? (i := 4) rfl))⟩ (hPreV hE hP hK hD hS hA [1] (by decide) rfl rfl rfl rfl (q0 := 1) (ci := 4) rfl) rfl rfl hl.1 rfl (lv_room (Nat.le_of_ble_eq_true rfl)) dX10_trayRefusal_16 ⟨Nat.zero_le _, Nat.zero_le _⟩) hP hD hS hA rfl rfl (by decide) (by decide) (fun r_3 u H locs hw hP hD hS => ?_)
    have hP : va_P G vwCl [oX10 q, oX4 q kd_size] H := hP.sub [0, 1] rfl
    have hD : va_D A [oX10 q, oX4 q kd_size] := hD.sub [0, 1] (by decide) rfl
    refine lv_if_ne (pc := 19) (tgt := 24) hx hb dX10_trayRefusal_19 (by decide) (fun c_4 => ?_) (fun c_4 => ?_)
    · replace hw := hw.2 c_4
      refine lv_iload_n (pc := 24) hx hb dX10_trayRefusal_24 rfl (lv_at hl 3 rfl) ?_
      refine lv_iload (pc := 25) hx hb dX10_trayRefusal_25 (lv_at hl 4 rfl) ?_
      refine hCallI (pc := 27) (wr := [oX10 q, oX4 q kd_size]) (wsf := fun (u : Unit) => []) [] [0, 1] (va_runS (As := [.int p3, .int p4]) (rest := []) ⟨hx, hb, hml, hown, hts⟩ (c_X10_isWeight l G K tb q H.size _ p3 p4 hw) (va_cwS 2 hts gX10_trayRefusal_X10_isWeight rfl rfl rfl (by decide +kernel) ⟨Nat.le_of_ble_eq_true rfl, Nat.le_of_ble_eq_true rfl⟩) (hPreS hE hP hK hD hS hA [] (by decide) rfl rfl) rfl rfl hl.1 rfl (lv_room (Nat.le_of_ble_eq_true rfl)) dX10_trayRefusal_27 ⟨Nat.zero_le _, Nat.zero_le _⟩) hP hD hS hA rfl rfl (by decide) (by decide) (fun r_5 u H locs hw hP hD hS => ?_)
      have hP : va_P G vwCl [oX10 q, oX4 q kd_size] H := hP.sub [0, 1] rfl
      have hD : va_D A [oX10 q, oX4 q kd_size] := hD.sub [0, 1] (by decide) rfl
      refine lv_if_ne (pc := 30) (tgt := 36) hx hb dX10_trayRefusal_30 (by decide) (fun c_6 => ?_) (fun c_6 => ?_)
      · replace hw := hw.2 c_6
        refine lv_iload_n (pc := 36) hx hb dX10_trayRefusal_36 rfl (lv_at hl 1 rfl) ?_
        refine lv_iload_n (pc := 37) hx hb dX10_trayRefusal_37 rfl (lv_at hl 2 rfl) ?_
        have K_v_8 : ∀ v_8 : Int32, v_8 = (if p1 = p2 then (-3 : Int32) else (0 : Int32)) → W p l e rm_X10_trayRefusal s m av below meth c H locs 0 0 Q (F0 m 47 ls [.int v_8]) := by
          intro v_8 ev_8
          replace hw := hw v_8 ev_8
          exact hRetI (S := Unit) () hx hb hr hlocks hQ hw hP hK hD hS dX10_trayRefusal_47
        refine lv_icmp_ne (pc := 38) (tgt := 46) hx hb dX10_trayRefusal_38 (by decide) (fun c_7 => ?_) (fun c_7 => ?_)
        · skip
          refine lv_iconst (pc := 46) (v := (0 : Int32)) hx hb dX10_trayRefusal_46 (by decide) ?_
          exact K_v_8 _ (by rw [if_neg c_7])
        · skip
          refine lv_bipush (pc := 41) (v := (-3 : Int32)) hx hb dX10_trayRefusal_41 (by decide) ?_
          refine lv_goto (pc := 43) (tgt := 47) hx hb dX10_trayRefusal_43 (by decide) ?_
          exact K_v_8 _ (by rw [if_pos c_7])
      · replace hw := hw.1 c_6
        refine lv_bipush (pc := 33) (v := (-2 : Int32)) hx hb dX10_trayRefusal_33 (by decide) ?_
        exact hRetI (S := Unit) () hx hb hr hlocks hQ hw hP hK hD hS dX10_trayRefusal_35
    · replace hw := hw.1 c_4
      refine lv_iconst (pc := 22) (v := (-1 : Int32)) hx hb dX10_trayRefusal_22 (by decide) ?_
      exact hRetI (S := Unit) () hx hb hr hlocks hQ hw hP hK hD hS dX10_trayRefusal_23
def P_X10_tray (post : Int32 → Prop) (p1 : Int32) (p2 : Int32) (p3 : Int32) (p4 : Int32) (kd_low : Nat → Int32) (kd_high : Nat → Int32) (kd_size : Int32) : Prop :=
  P_X10_trayRefusal (fun r_1 => ((r_1 = (0 : Int32) → P_X4_pairsOn (fun r_3 => post r_3) p1 p2 p3 p4 kd_low kd_high) ∧ (¬ r_1 = (0 : Int32) → post r_1))) p1 p2 p3 p4 kd_size
abbrev rm_X10_tray : Room := { frames := 3, cells := 0, slots := 0, locals := 75 }
theorem iw_X10_tray_X10 : ∀ w ∈ wsX100, w ∈ wsX10_tray := by decide +kernel
set_option maxHeartbeats 4000000 in
set_option maxRecDepth 100000 in
theorem c_X10_tray (l : Launch) (G : va_G) (K : ClassId × ClassId × ClassId) (tb q : Nat → Nat) (sz : Nat) (post : Int32 → Prop) (p1 : Int32) (p2 : Int32) (p3 : Int32) (p4 : Int32) (kd_low : Nat → Int32) (kd_high : Nat → Int32) (kd_size : Int32) (hw : P_X10_tray post p1 p2 p3 p4 kd_low kd_high kd_size) : Met l yX10_tray wsX10_tray rm_X10_tray (va_Pc [.ref (q 0), .int p1, .int p2, .int p3, .int p4] (hPre G K tb [oX10 q, oX4 q kd_size, aI K (q 2) 6 kd_low, aI K (q 3) 6 kd_high] sz)) (va_Qi (fun (r : Int32) (u : Unit) => post r) (fun u => hB G K (va_A [oX10 q, oX4 q kd_size, aI K (q 2) 6 kd_low, aI K (q 3) 6 kd_high] sz) [oX10 q, oX4 q kd_size, aI K (q 2) 6 kd_low, aI K (q 3) 6 kd_high]) (va_A [oX10 q, oX4 q kd_size, aI K (q 2) 6 kd_low, aI K (q 3) 6 kd_high] sz)) 0 0 (va_A [oX10 q, oX4 q kd_size, aI K (q 2) 6 kd_low, aI K (q 3) 6 kd_high] sz) := by
  refine hMet (fun A => va_Qi (fun (r : Int32) (u : Unit) => post r) (fun u => hB G K A [oX10 q, oX4 q kd_size, aI K (q 2) 6 kd_low, aI K (q 3) 6 kd_high]) A) (by decide) rfl (Nat.le_of_ble_eq_true rfl) ?_
  intro p e s m av below meth c A Q ls hx hb hr hml hts hown hlocks hnm hA hP hK hD hS hE hQ hl
  have hts : ∀ w ∈ wsX10_tray, w.before av s = true := hts
  have hown : s.vm.findClass RX10 = some m.cls := hown
  have hl : lv_has ls 6 [(0, .ref (q 0)), (1, .int p1), (2, .int p2), (3, .int p3), (4, .int p4)] := hl
  unfold P_X10_tray at hw
  refine lv_aload_n (pc := 0) hx hb dX10_tray_0 rfl (lv_at hl 0 rfl) ?_
  refine lv_iload_n (pc := 1) hx hb dX10_tray_1 rfl (lv_at hl 1 rfl) ?_
  refine lv_iload_n (pc := 2) hx hb dX10_tray_2 rfl (lv_at hl 2 rfl) ?_
  refine lv_iload_n (pc := 3) hx hb dX10_tray_3 rfl (lv_at hl 3 rfl) ?_
  refine lv_iload (pc := 4) hx hb dX10_tray_4 (lv_at hl 4 rfl) ?_
  refine hCallI (pc := 6) (wr := [aI K (q 2) 6 kd_low, aI K (q 3) 6 kd_high]) (wsf := fun (u : Unit) => [oX10 q, oX4 q kd_size]) [0, 1] [2, 3] (va_runV (As := [.int p1, .int p2, .int p3, .int p4]) (rest := []) ⟨hx, hb, hml, hown, hts⟩ (c_X10_trayRefusal l G K tb q s.heap.size _ p1 p2 p3 p4 kd_size hw) (cwV 4 hts gX10_tray_X10_trayRefusal rfl rfl rfl (by decide +kernel) ⟨Nat.le_of_ble_eq_true rfl, Nat.le_of_ble_eq_true rfl⟩) (hPreV hE hP hK hD hS hA [0, 1] (by decide) rfl rfl rfl rfl (q0 := 0) (ci := 10) rfl) rfl rfl hl.1 rfl (lv_room (Nat.le_of_ble_eq_true rfl)) dX10_tray_6 ⟨Nat.zero_le _, Nat.zero_le _⟩) hP hD hS hA rfl rfl (by decide) (by decide) (fun r_1 u H locs hw hP hD hS => ?_)
  have hP : va_P G vwCl [oX10 q, oX4 q kd_size, aI K (q 2) 6 kd_low, aI K (q 3) 6 kd_high] H := hP.sub [2, 3, 0, 1] rfl
  have hD : va_D A [oX10 q, oX4 q kd_size, aI K (q 2) 6 kd_low, aI K (q 3) 6 kd_high] := hD.sub [2, 3, 0, 1] (by decide) rfl
  refine lv_istore (pc := 9) (lv' := [(5, .int r_1), (0, .ref (q 0)), (1, .int p1), (2, .int p2), (3, .int p3), (4, .int p4)]) hx hb dX10_tray_9 hl (by decide) rfl (fun ls hl => ?_)
  refine lv_iload (pc := 11) hx hb dX10_tray_11 (lv_at hl 0 rfl) ?_
  refine lv_if_eq (pc := 13) (tgt := 21) hx hb dX10_tray_13 (by decide) (fun c_2 => ?_) (fun c_2 => ?_)
  · replace hw := hw.1 c_2
    refine lv_aload_n (pc := 21) hx hb dX10_tray_21 rfl (lv_at hl 1 rfl) ?_
    refine va_get (pc := 22) (D := G) (ci := 10) (v := .ref (q 1)) (C := RX10) (T := TX10) (N := 10) hx hb hts iw_X10_tray_X10 hown hK hP 0 rfl rfl 0 (by decide) (hts _ (List.mem_of_getElem? (i := 1) rfl)) (fun _ h9 => h9) rfl dX10_tray_22 ?_
    refine lv_iload_n (pc := 25) hx hb dX10_tray_25 rfl (lv_at hl 2 rfl) ?_
    refine lv_iload_n (pc := 26) hx hb dX10_tray_26 rfl (lv_at hl 3 rfl) ?_
    refine lv_iload_n (pc := 27) hx hb dX10_tray_27 rfl (lv_at hl 4 rfl) ?_
    refine lv_iload (pc := 28) hx hb dX10_tray_28 (lv_at hl 5 rfl) ?_
    refine hCallI (pc := 30) (wr := [oX10 q]) (wsf := fun (u : Unit) => [oX4 q kd_size, aI K (q 2) 6 kd_low, aI K (q 3) 6 kd_high]) [1, 2, 3] [0] (va_runVN (As := [.int p1, .int p2, .int p3, .int p4]) (rest := []) ⟨hx, hb, hml, hown, hts⟩ (c_X4_pairsOn l G K tb q H.size kd_size _ p1 p2 p3 p4 kd_low kd_high hw) ⟨va_cnB 4 hts gX10_tray_X4_pairsOn_n130 rfl rfl rfl (hE.nw 38 rfl) (hts _ (List.mem_of_getElem? (i := 8) rfl)) (by decide +kernel) ⟨Nat.le_of_ble_eq_true rfl, Nat.le_of_ble_eq_true rfl⟩, (hts _ (List.mem_of_getElem? (i := 19) rfl)), (hts _ (List.mem_of_getElem? (i := 20) rfl))⟩ (hPreV hE hP hK hD hS hA [1, 2, 3] (by decide) rfl rfl rfl rfl (q0 := 1) (ci := 4) rfl) rfl rfl hl.1 rfl (lv_room (Nat.le_of_ble_eq_true rfl)) dX10_tray_30 ⟨Nat.zero_le _, Nat.zero_le _⟩) hP hD hS hA rfl rfl (by decide) (by decide) (fun r_3 u H locs hw hP hD hS => ?_)
    have hP : va_P G vwCl [oX10 q, oX4 q kd_size, aI K (q 2) 6 kd_low, aI K (q 3) 6 kd_high] H := hP.sub [0, 1, 2, 3] rfl
    have hD : va_D A [oX10 q, oX4 q kd_size, aI K (q 2) 6 kd_low, aI K (q 3) 6 kd_high] := hD.sub [0, 1, 2, 3] (by decide) rfl
    exact hRetI (S := Unit) () hx hb hr hlocks hQ hw hP hK hD hS dX10_tray_33
  · replace hw := hw.2 c_2
    refine lv_iload (pc := 16) hx hb dX10_tray_16 (lv_at hl 0 rfl) ?_
    refine lv_goto (pc := 18) (tgt := 33) hx hb dX10_tray_18 (by decide) ?_
    exact hRetI (S := Unit) () hx hb hr hlocks hQ hw hP hK hD hS dX10_tray_33
def P_X10_trayPair (post : Int32 → Prop) (p1 : Int32) (p2 : Int32) (p3 : Int32) (p4 : Int32) (p5 : Int32) (kd_low : Nat → Int32) (kd_high : Nat → Int32) (kd_size : Int32) : Prop :=
  P_X10_trayRefusal (fun r_1 => ((r_1 = (0 : Int32) → P_X4_pairAt (fun r_3 => post r_3) p1 p2 p3 p4 p5 kd_low kd_high) ∧ (¬ r_1 = (0 : Int32) → post r_1))) p1 p2 p3 p4 kd_size
abbrev rm_X10_trayPair : Room := { frames := 3, cells := 0, slots := 0, locals := 77 }
theorem iw_X10_trayPair_X10 : ∀ w ∈ wsX100, w ∈ wsX10_trayPair := by decide +kernel
set_option maxHeartbeats 4000000 in
set_option maxRecDepth 100000 in
theorem c_X10_trayPair (l : Launch) (G : va_G) (K : ClassId × ClassId × ClassId) (tb q : Nat → Nat) (sz : Nat) (post : Int32 → Prop) (p1 : Int32) (p2 : Int32) (p3 : Int32) (p4 : Int32) (p5 : Int32) (kd_low : Nat → Int32) (kd_high : Nat → Int32) (kd_size : Int32) (hw : P_X10_trayPair post p1 p2 p3 p4 p5 kd_low kd_high kd_size) : Met l yX10_trayPair wsX10_trayPair rm_X10_trayPair (va_Pc [.ref (q 0), .int p1, .int p2, .int p3, .int p4, .int p5] (hPre G K tb [oX10 q, oX4 q kd_size, aI K (q 2) 6 kd_low, aI K (q 3) 6 kd_high] sz)) (va_Qi (fun (r : Int32) (u : Unit) => post r) (fun u => hB G K (va_A [oX10 q, oX4 q kd_size, aI K (q 2) 6 kd_low, aI K (q 3) 6 kd_high] sz) [oX10 q, oX4 q kd_size, aI K (q 2) 6 kd_low, aI K (q 3) 6 kd_high]) (va_A [oX10 q, oX4 q kd_size, aI K (q 2) 6 kd_low, aI K (q 3) 6 kd_high] sz)) 0 0 (va_A [oX10 q, oX4 q kd_size, aI K (q 2) 6 kd_low, aI K (q 3) 6 kd_high] sz) := by
  refine hMet (fun A => va_Qi (fun (r : Int32) (u : Unit) => post r) (fun u => hB G K A [oX10 q, oX4 q kd_size, aI K (q 2) 6 kd_low, aI K (q 3) 6 kd_high]) A) (by decide) rfl (Nat.le_of_ble_eq_true rfl) ?_
  intro p e s m av below meth c A Q ls hx hb hr hml hts hown hlocks hnm hA hP hK hD hS hE hQ hl
  have hts : ∀ w ∈ wsX10_trayPair, w.before av s = true := hts
  have hown : s.vm.findClass RX10 = some m.cls := hown
  have hl : lv_has ls 7 [(0, .ref (q 0)), (1, .int p1), (2, .int p2), (3, .int p3), (4, .int p4), (5, .int p5)] := hl
  unfold P_X10_trayPair at hw
  refine lv_aload_n (pc := 0) hx hb dX10_trayPair_0 rfl (lv_at hl 0 rfl) ?_
  refine lv_iload_n (pc := 1) hx hb dX10_trayPair_1 rfl (lv_at hl 1 rfl) ?_
  refine lv_iload_n (pc := 2) hx hb dX10_trayPair_2 rfl (lv_at hl 2 rfl) ?_
  refine lv_iload_n (pc := 3) hx hb dX10_trayPair_3 rfl (lv_at hl 3 rfl) ?_
  refine lv_iload (pc := 4) hx hb dX10_trayPair_4 (lv_at hl 4 rfl) ?_
  refine hCallI (pc := 6) (wr := [aI K (q 2) 6 kd_low, aI K (q 3) 6 kd_high]) (wsf := fun (u : Unit) => [oX10 q, oX4 q kd_size]) [0, 1] [2, 3] (va_runV (As := [.int p1, .int p2, .int p3, .int p4]) (rest := []) ⟨hx, hb, hml, hown, hts⟩ (c_X10_trayRefusal l G K tb q s.heap.size _ p1 p2 p3 p4 kd_size hw) (cwV 4 hts gX10_trayPair_X10_trayRefusal rfl rfl rfl (by decide +kernel) ⟨Nat.le_of_ble_eq_true rfl, Nat.le_of_ble_eq_true rfl⟩) (hPreV hE hP hK hD hS hA [0, 1] (by decide) rfl rfl rfl rfl (q0 := 0) (ci := 10) rfl) rfl rfl hl.1 rfl (lv_room (Nat.le_of_ble_eq_true rfl)) dX10_trayPair_6 ⟨Nat.zero_le _, Nat.zero_le _⟩) hP hD hS hA rfl rfl (by decide) (by decide) (fun r_1 u H locs hw hP hD hS => ?_)
  have hP : va_P G vwCl [oX10 q, oX4 q kd_size, aI K (q 2) 6 kd_low, aI K (q 3) 6 kd_high] H := hP.sub [2, 3, 0, 1] rfl
  have hD : va_D A [oX10 q, oX4 q kd_size, aI K (q 2) 6 kd_low, aI K (q 3) 6 kd_high] := hD.sub [2, 3, 0, 1] (by decide) rfl
  refine lv_istore (pc := 9) (lv' := [(6, .int r_1), (0, .ref (q 0)), (1, .int p1), (2, .int p2), (3, .int p3), (4, .int p4), (5, .int p5)]) hx hb dX10_trayPair_9 hl (by decide) rfl (fun ls hl => ?_)
  refine lv_iload (pc := 11) hx hb dX10_trayPair_11 (lv_at hl 0 rfl) ?_
  refine lv_if_eq (pc := 13) (tgt := 21) hx hb dX10_trayPair_13 (by decide) (fun c_2 => ?_) (fun c_2 => ?_)
  · replace hw := hw.1 c_2
    refine lv_aload_n (pc := 21) hx hb dX10_trayPair_21 rfl (lv_at hl 1 rfl) ?_
    refine va_get (pc := 22) (D := G) (ci := 10) (v := .ref (q 1)) (C := RX10) (T := TX10) (N := 10) hx hb hts iw_X10_trayPair_X10 hown hK hP 0 rfl rfl 0 (by decide) (hts _ (List.mem_of_getElem? (i := 1) rfl)) (fun _ h9 => h9) rfl dX10_trayPair_22 ?_
    refine lv_iload_n (pc := 25) hx hb dX10_trayPair_25 rfl (lv_at hl 2 rfl) ?_
    refine lv_iload_n (pc := 26) hx hb dX10_trayPair_26 rfl (lv_at hl 3 rfl) ?_
    refine lv_iload_n (pc := 27) hx hb dX10_trayPair_27 rfl (lv_at hl 4 rfl) ?_
    refine lv_iload (pc := 28) hx hb dX10_trayPair_28 (lv_at hl 5 rfl) ?_
    refine lv_iload (pc := 30) hx hb dX10_trayPair_30 (lv_at hl 6 rfl) ?_
    refine hCallI (pc := 32) (wr := [oX10 q]) (wsf := fun (u : Unit) => [oX4 q kd_size, aI K (q 2) 6 kd_low, aI K (q 3) 6 kd_high]) [1, 2, 3] [0] (va_runVN (As := [.int p1, .int p2, .int p3, .int p4, .int p5]) (rest := []) ⟨hx, hb, hml, hown, hts⟩ (c_X4_pairAt l G K tb q H.size kd_size _ p1 p2 p3 p4 p5 kd_low kd_high hw) ⟨va_cnB 5 hts gX10_trayPair_X4_pairAt_n133 rfl rfl rfl (hE.nw 39 rfl) (hts _ (List.mem_of_getElem? (i := 8) rfl)) (by decide +kernel) ⟨Nat.le_of_ble_eq_true rfl, Nat.le_of_ble_eq_true rfl⟩, (hts _ (List.mem_of_getElem? (i := 19) rfl)), (hts _ (List.mem_of_getElem? (i := 20) rfl))⟩ (hPreV hE hP hK hD hS hA [1, 2, 3] (by decide) rfl rfl rfl rfl (q0 := 1) (ci := 4) rfl) rfl rfl hl.1 rfl (lv_room (Nat.le_of_ble_eq_true rfl)) dX10_trayPair_32 ⟨Nat.zero_le _, Nat.zero_le _⟩) hP hD hS hA rfl rfl (by decide) (by decide) (fun r_3 u H locs hw hP hD hS => ?_)
    have hP : va_P G vwCl [oX10 q, oX4 q kd_size, aI K (q 2) 6 kd_low, aI K (q 3) 6 kd_high] H := hP.sub [0, 1, 2, 3] rfl
    have hD : va_D A [oX10 q, oX4 q kd_size, aI K (q 2) 6 kd_low, aI K (q 3) 6 kd_high] := hD.sub [0, 1, 2, 3] (by decide) rfl
    exact hRetI (S := Unit) () hx hb hr hlocks hQ hw hP hK hD hS dX10_trayPair_35
  · replace hw := hw.2 c_2
    refine lv_iload (pc := 16) hx hb dX10_trayPair_16 (lv_at hl 0 rfl) ?_
    refine lv_goto (pc := 18) (tgt := 35) hx hb dX10_trayPair_18 (by decide) ?_
    exact hRetI (S := Unit) () hx hb hr hlocks hQ hw hP hK hD hS dX10_trayPair_35
def P_X10_weigh (post : Int32 → (Nat → Int32) → (Nat → Int32) → (Nat → Int32) → (Nat → Int32) → Int32 → Prop) (p1 : Int32) (p2 : Int32) (p3 : Int32) (p4 : Int32) (kd_low : Nat → Int32) (kd_high : Nat → Int32) (kd_size : Int32) (wg_cellOf : Nat → Int32) (wg_fewest : Nat → Int32) (wg_most : Nat → Int32) (wg_counts : Nat → Int32) (wg_size : Int32) : Prop :=
  P_X10_isCell (fun r_1 => ((r_1 = (0 : Int32) → post (-1 : Int32) wg_cellOf wg_fewest wg_most wg_counts wg_size) ∧ (¬ r_1 = (0 : Int32) → P_X10_isWeight (fun r_3 => ((r_3 = (0 : Int32) → post (-2 : Int32) wg_cellOf wg_fewest wg_most wg_counts wg_size) ∧ (¬ r_3 = (0 : Int32) → ((wg_size < (40 : Int32) → P_X4_fewestReaching (fun r_6 => P_X4_mostWithin (fun r_7 => P_X10_cell (fun r_8 => P_X9_add (fun r_9 wg_cellOf_10 wg_fewest_11 wg_most_12 wg_counts_13 wg_size_14 => post r_9 wg_cellOf_10 wg_fewest_11 wg_most_12 wg_counts_13 wg_size_14) r_8 r_6 r_7 wg_cellOf wg_fewest wg_most wg_counts wg_size) p1 p2) p2 (p3 + p4) kd_low) p2 (p3 - p4) kd_high) ∧ (¬ wg_size < (40 : Int32) → post (-4 : Int32) wg_cellOf wg_fewest wg_most wg_counts wg_size))))) p3 p4))) p1 p2 kd_size
abbrev rm_X10_weigh : Room := { frames := 3, cells := 0, slots := 0, locals := 65 }
theorem iw_X10_weigh_X10 : ∀ w ∈ wsX100, w ∈ wsX10_weigh := by decide +kernel
theorem iw_X10_weigh_X9 : ∀ w ∈ wsX90, w ∈ wsX10_weigh := by decide +kernel
set_option maxHeartbeats 4000000 in
set_option maxRecDepth 100000 in
theorem c_X10_weigh (l : Launch) (G : va_G) (K : ClassId × ClassId × ClassId) (tb q : Nat → Nat) (sz : Nat) (post : Int32 → (Nat → Int32) → (Nat → Int32) → (Nat → Int32) → (Nat → Int32) → Int32 → Prop) (p1 : Int32) (p2 : Int32) (p3 : Int32) (p4 : Int32) (kd_low : Nat → Int32) (kd_high : Nat → Int32) (kd_size : Int32) (wg_cellOf : Nat → Int32) (wg_fewest : Nat → Int32) (wg_most : Nat → Int32) (wg_counts : Nat → Int32) (wg_size : Int32) (hw : P_X10_weigh post p1 p2 p3 p4 kd_low kd_high kd_size wg_cellOf wg_fewest wg_most wg_counts wg_size) : Met l yX10_weigh wsX10_weigh rm_X10_weigh (va_Pc [.ref (q 0), .int p1, .int p2, .int p3, .int p4] (hPre G K tb [oX10 q, oX4 q kd_size, aI K (q 2) 6 kd_low, aI K (q 3) 6 kd_high, oX9 q wg_size, aI K (q 8) 40 wg_cellOf, aI K (q 9) 40 wg_fewest, aI K (q 10) 40 wg_most, aZ K (q 11) 40 wg_counts] sz)) (va_Qi (fun (r : Int32) (u : (Nat → Int32) × (Nat → Int32) × (Nat → Int32) × (Nat → Int32) × Int32) => post r u.1 u.2.1 u.2.2.1 u.2.2.2.1 u.2.2.2.2) (fun u => hB G K (va_A [oX10 q, oX4 q kd_size, aI K (q 2) 6 kd_low, aI K (q 3) 6 kd_high, oX9 q wg_size, aI K (q 8) 40 wg_cellOf, aI K (q 9) 40 wg_fewest, aI K (q 10) 40 wg_most, aZ K (q 11) 40 wg_counts] sz) [oX10 q, oX4 q kd_size, aI K (q 2) 6 kd_low, aI K (q 3) 6 kd_high, oX9 q u.2.2.2.2, aI K (q 8) 40 u.1, aI K (q 9) 40 u.2.1, aI K (q 10) 40 u.2.2.1, aZ K (q 11) 40 u.2.2.2.1]) (va_A [oX10 q, oX4 q kd_size, aI K (q 2) 6 kd_low, aI K (q 3) 6 kd_high, oX9 q wg_size, aI K (q 8) 40 wg_cellOf, aI K (q 9) 40 wg_fewest, aI K (q 10) 40 wg_most, aZ K (q 11) 40 wg_counts] sz)) 0 0 (va_A [oX10 q, oX4 q kd_size, aI K (q 2) 6 kd_low, aI K (q 3) 6 kd_high, oX9 q wg_size, aI K (q 8) 40 wg_cellOf, aI K (q 9) 40 wg_fewest, aI K (q 10) 40 wg_most, aZ K (q 11) 40 wg_counts] sz) := by
  refine hMet (fun A => va_Qi (fun (r : Int32) (u : (Nat → Int32) × (Nat → Int32) × (Nat → Int32) × (Nat → Int32) × Int32) => post r u.1 u.2.1 u.2.2.1 u.2.2.2.1 u.2.2.2.2) (fun u => hB G K A [oX10 q, oX4 q kd_size, aI K (q 2) 6 kd_low, aI K (q 3) 6 kd_high, oX9 q u.2.2.2.2, aI K (q 8) 40 u.1, aI K (q 9) 40 u.2.1, aI K (q 10) 40 u.2.2.1, aZ K (q 11) 40 u.2.2.2.1]) A) (by decide) rfl (Nat.le_of_ble_eq_true rfl) ?_
  intro p e s m av below meth c A Q ls hx hb hr hml hts hown hlocks hnm hA hP hK hD hS hE hQ hl
  have hts : ∀ w ∈ wsX10_weigh, w.before av s = true := hts
  have hown : s.vm.findClass RX10 = some m.cls := hown
  have hl : lv_has ls 7 [(0, .ref (q 0)), (1, .int p1), (2, .int p2), (3, .int p3), (4, .int p4)] := hl
  unfold P_X10_weigh at hw
  refine lv_aload_n (pc := 0) hx hb dX10_weigh_0 rfl (lv_at hl 0 rfl) ?_
  refine lv_iload_n (pc := 1) hx hb dX10_weigh_1 rfl (lv_at hl 1 rfl) ?_
  refine lv_iload_n (pc := 2) hx hb dX10_weigh_2 rfl (lv_at hl 2 rfl) ?_
  refine hCallI (pc := 3) (wr := [aI K (q 2) 6 kd_low, aI K (q 3) 6 kd_high, oX9 q wg_size, aI K (q 8) 40 wg_cellOf, aI K (q 9) 40 wg_fewest, aI K (q 10) 40 wg_most, aZ K (q 11) 40 wg_counts]) (wsf := fun (u : Unit) => [oX10 q, oX4 q kd_size]) [0, 1] [2, 3, 4, 5, 6, 7, 8] (va_runV (As := [.int p1, .int p2]) (rest := []) ⟨hx, hb, hml, hown, hts⟩ (c_X10_isCell l G K tb q s.heap.size _ p1 p2 kd_size hw) (cwV 2 hts gX10_weigh_X10_isCell rfl rfl rfl (by decide +kernel) ⟨Nat.le_of_ble_eq_true rfl, Nat.le_of_ble_eq_true rfl⟩) (hPreV hE hP hK hD hS hA [0, 1] (by decide) rfl rfl rfl rfl (q0 := 0) (ci := 10) rfl) rfl rfl hl.1 rfl (lv_room (Nat.le_of_ble_eq_true rfl)) dX10_weigh_3 ⟨Nat.zero_le _, Nat.zero_le _⟩) hP hD hS hA rfl rfl (by decide) (by decide) (fun r_1 u H locs hw hP hD hS => ?_)
  have hP : va_P G vwCl [oX10 q, oX4 q kd_size, aI K (q 2) 6 kd_low, aI K (q 3) 6 kd_high, oX9 q wg_size, aI K (q 8) 40 wg_cellOf, aI K (q 9) 40 wg_fewest, aI K (q 10) 40 wg_most, aZ K (q 11) 40 wg_counts] H := hP.sub [7, 8, 0, 1, 2, 3, 4, 5, 6] rfl
  have hD : va_D A [oX10 q, oX4 q kd_size, aI K (q 2) 6 kd_low, aI K (q 3) 6 kd_high, oX9 q wg_size, aI K (q 8) 40 wg_cellOf, aI K (q 9) 40 wg_fewest, aI K (q 10) 40 wg_most, aZ K (q 11) 40 wg_counts] := hD.sub [7, 8, 0, 1, 2, 3, 4, 5, 6] (by decide) rfl
  refine lv_if_ne (pc := 6) (tgt := 11) hx hb dX10_weigh_6 (by decide) (fun c_2 => ?_) (fun c_2 => ?_)
  · replace hw := hw.2 c_2
    refine lv_iload_n (pc := 11) hx hb dX10_weigh_11 rfl (lv_at hl 3 rfl) ?_
    refine lv_iload (pc := 12) hx hb dX10_weigh_12 (lv_at hl 4 rfl) ?_
    refine hCallI (pc := 14) (wr := [oX10 q, oX4 q kd_size, aI K (q 2) 6 kd_low, aI K (q 3) 6 kd_high, oX9 q wg_size, aI K (q 8) 40 wg_cellOf, aI K (q 9) 40 wg_fewest, aI K (q 10) 40 wg_most, aZ K (q 11) 40 wg_counts]) (wsf := fun (u : Unit) => []) [] [0, 1, 2, 3, 4, 5, 6, 7, 8] (va_runS (As := [.int p3, .int p4]) (rest := []) ⟨hx, hb, hml, hown, hts⟩ (c_X10_isWeight l G K tb q H.size _ p3 p4 hw) (va_cwS 2 hts gX10_weigh_X10_isWeight rfl rfl rfl (by decide +kernel) ⟨Nat.le_of_ble_eq_true rfl, Nat.le_of_ble_eq_true rfl⟩) (hPreS hE hP hK hD hS hA [] (by decide) rfl rfl) rfl rfl hl.1 rfl (lv_room (Nat.le_of_ble_eq_true rfl)) dX10_weigh_14 ⟨Nat.zero_le _, Nat.zero_le _⟩) hP hD hS hA rfl rfl (by decide) (by decide) (fun r_3 u H locs hw hP hD hS => ?_)
    have hP : va_P G vwCl [oX10 q, oX4 q kd_size, aI K (q 2) 6 kd_low, aI K (q 3) 6 kd_high, oX9 q wg_size, aI K (q 8) 40 wg_cellOf, aI K (q 9) 40 wg_fewest, aI K (q 10) 40 wg_most, aZ K (q 11) 40 wg_counts] H := hP.sub [0, 1, 2, 3, 4, 5, 6, 7, 8] rfl
    have hD : va_D A [oX10 q, oX4 q kd_size, aI K (q 2) 6 kd_low, aI K (q 3) 6 kd_high, oX9 q wg_size, aI K (q 8) 40 wg_cellOf, aI K (q 9) 40 wg_fewest, aI K (q 10) 40 wg_most, aZ K (q 11) 40 wg_counts] := hD.sub [0, 1, 2, 3, 4, 5, 6, 7, 8] (by decide) rfl
    refine lv_if_ne (pc := 17) (tgt := 23) hx hb dX10_weigh_17 (by decide) (fun c_4 => ?_) (fun c_4 => ?_)
    · replace hw := hw.2 c_4
      refine lv_aload_n (pc := 23) hx hb dX10_weigh_23 rfl (lv_at hl 0 rfl) ?_
      refine va_get (pc := 24) (D := G) (ci := 10) (v := .ref (q 7)) (C := RX10) (T := TX10) (N := 10) hx hb hts iw_X10_weigh_X10 hown hK hP 0 rfl rfl 2 (by decide) (hts _ (List.mem_of_getElem? (i := 1) rfl)) (fun _ h9 => h9) rfl dX10_weigh_24 ?_
      refine va_getN (pc := 27) (D := G) (host := RX10) (ci := 9) (v := .int wg_size) (C := RX9) (T := TX9) (N := 5) hx hb hts iw_X10_weigh_X9 hown hK hP 4 rfl rfl 4 (by decide) (hE.use 5 rfl) (fun _ h9 => h9) rfl dX10_weigh_27 ?_
      refine lv_bipush (pc := 30) (v := (40 : Int32)) hx hb dX10_weigh_30 (by decide) ?_
      refine lv_icmp_lt (pc := 32) (tgt := 38) hx hb dX10_weigh_32 (by decide) (fun c_5 => ?_) (fun c_5 => ?_)
      · replace hw := hw.1 c_5
        refine lv_aload_n (pc := 38) hx hb dX10_weigh_38 rfl (lv_at hl 0 rfl) ?_
        refine va_get (pc := 39) (D := G) (ci := 10) (v := .ref (q 1)) (C := RX10) (T := TX10) (N := 10) hx hb hts iw_X10_weigh_X10 hown hK hP 0 rfl rfl 0 (by decide) (hts _ (List.mem_of_getElem? (i := 2) rfl)) (fun _ h9 => h9) rfl dX10_weigh_39 ?_
        refine lv_iload_n (pc := 42) hx hb dX10_weigh_42 rfl (lv_at hl 2 rfl) ?_
        refine lv_iload_n (pc := 43) hx hb dX10_weigh_43 rfl (lv_at hl 3 rfl) ?_
        refine lv_iload (pc := 44) hx hb dX10_weigh_44 (lv_at hl 4 rfl) ?_
        refine lv_isub (pc := 46) hx hb dX10_weigh_46 ?_
        refine hCallI (pc := 47) (wr := [oX10 q, aI K (q 2) 6 kd_low, oX9 q wg_size, aI K (q 8) 40 wg_cellOf, aI K (q 9) 40 wg_fewest, aI K (q 10) 40 wg_most, aZ K (q 11) 40 wg_counts]) (wsf := fun (u : Unit) => [oX4 q kd_size, aI K (q 3) 6 kd_high]) [1, 3] [0, 2, 4, 5, 6, 7, 8] (va_runVN (As := [.int p2, .int (p3 - p4)]) (rest := []) ⟨hx, hb, hml, hown, hts⟩ (c_X4_fewestReaching l G K tb q H.size kd_size _ p2 (p3 - p4) kd_high hw) ⟨va_cnB 2 hts gX10_weigh_X4_fewestReaching_n105 rfl rfl rfl (hE.nw 32 rfl) (hts _ (List.mem_of_getElem? (i := 15) rfl)) (by decide +kernel) ⟨Nat.le_of_ble_eq_true rfl, Nat.le_of_ble_eq_true rfl⟩, (hts _ (List.mem_of_getElem? (i := 23) rfl)), (hts _ (List.mem_of_getElem? (i := 24) rfl))⟩ (hPreV hE hP hK hD hS hA [1, 3] (by decide) rfl rfl rfl rfl (q0 := 1) (ci := 4) rfl) rfl rfl hl.1 rfl (lv_room (Nat.le_of_ble_eq_true rfl)) dX10_weigh_47 ⟨Nat.zero_le _, Nat.zero_le _⟩) hP hD hS hA rfl rfl (by decide) (by decide) (fun r_6 u H locs hw hP hD hS => ?_)
        have hP : va_P G vwCl [oX10 q, oX4 q kd_size, aI K (q 2) 6 kd_low, aI K (q 3) 6 kd_high, oX9 q wg_size, aI K (q 8) 40 wg_cellOf, aI K (q 9) 40 wg_fewest, aI K (q 10) 40 wg_most, aZ K (q 11) 40 wg_counts] H := hP.sub [0, 7, 1, 8, 2, 3, 4, 5, 6] rfl
        have hD : va_D A [oX10 q, oX4 q kd_size, aI K (q 2) 6 kd_low, aI K (q 3) 6 kd_high, oX9 q wg_size, aI K (q 8) 40 wg_cellOf, aI K (q 9) 40 wg_fewest, aI K (q 10) 40 wg_most, aZ K (q 11) 40 wg_counts] := hD.sub [0, 7, 1, 8, 2, 3, 4, 5, 6] (by decide) rfl
        refine lv_istore (pc := 50) (lv' := [(5, .int r_6), (0, .ref (q 0)), (1, .int p1), (2, .int p2), (3, .int p3), (4, .int p4)]) hx hb dX10_weigh_50 hl (by decide) rfl (fun ls hl => ?_)
        refine lv_aload_n (pc := 52) hx hb dX10_weigh_52 rfl (lv_at hl 1 rfl) ?_
        refine va_get (pc := 53) (D := G) (ci := 10) (v := .ref (q 1)) (C := RX10) (T := TX10) (N := 10) hx hb hts iw_X10_weigh_X10 hown hK hP 0 rfl rfl 0 (by decide) (hts _ (List.mem_of_getElem? (i := 2) rfl)) (fun _ h9 => h9) rfl dX10_weigh_53 ?_
        refine lv_iload_n (pc := 56) hx hb dX10_weigh_56 rfl (lv_at hl 3 rfl) ?_
        refine lv_iload_n (pc := 57) hx hb dX10_weigh_57 rfl (lv_at hl 4 rfl) ?_
        refine lv_iload (pc := 58) hx hb dX10_weigh_58 (lv_at hl 5 rfl) ?_
        refine lv_iadd (pc := 60) hx hb dX10_weigh_60 ?_
        refine hCallI (pc := 61) (wr := [oX10 q, aI K (q 3) 6 kd_high, oX9 q wg_size, aI K (q 8) 40 wg_cellOf, aI K (q 9) 40 wg_fewest, aI K (q 10) 40 wg_most, aZ K (q 11) 40 wg_counts]) (wsf := fun (u : Unit) => [oX4 q kd_size, aI K (q 2) 6 kd_low]) [1, 2] [0, 3, 4, 5, 6, 7, 8] (va_runVN (As := [.int p2, .int (p3 + p4)]) (rest := []) ⟨hx, hb, hml, hown, hts⟩ (c_X4_mostWithin l G K tb q H.size kd_size _ p2 (p3 + p4) kd_low hw) ⟨va_cnB 2 hts gX10_weigh_X4_mostWithin_n108 rfl rfl rfl (hE.nw 33 rfl) (hts _ (List.mem_of_getElem? (i := 15) rfl)) (by decide +kernel) ⟨Nat.le_of_ble_eq_true rfl, Nat.le_of_ble_eq_true rfl⟩, (hts _ (List.mem_of_getElem? (i := 27) rfl)), (hts _ (List.mem_of_getElem? (i := 28) rfl))⟩ (hPreV hE hP hK hD hS hA [1, 2] (by decide) rfl rfl rfl rfl (q0 := 1) (ci := 4) rfl) rfl rfl hl.1 rfl (lv_room (Nat.le_of_ble_eq_true rfl)) dX10_weigh_61 ⟨Nat.zero_le _, Nat.zero_le _⟩) hP hD hS hA rfl rfl (by decide) (by decide) (fun r_7 u H locs hw hP hD hS => ?_)
        have hP : va_P G vwCl [oX10 q, oX4 q kd_size, aI K (q 2) 6 kd_low, aI K (q 3) 6 kd_high, oX9 q wg_size, aI K (q 8) 40 wg_cellOf, aI K (q 9) 40 wg_fewest, aI K (q 10) 40 wg_most, aZ K (q 11) 40 wg_counts] H := hP.sub [0, 7, 8, 1, 2, 3, 4, 5, 6] rfl
        have hD : va_D A [oX10 q, oX4 q kd_size, aI K (q 2) 6 kd_low, aI K (q 3) 6 kd_high, oX9 q wg_size, aI K (q 8) 40 wg_cellOf, aI K (q 9) 40 wg_fewest, aI K (q 10) 40 wg_most, aZ K (q 11) 40 wg_counts] := hD.sub [0, 7, 8, 1, 2, 3, 4, 5, 6] (by decide) rfl
        refine lv_istore (pc := 64) (lv' := [(6, .int r_7), (5, .int r_6), (0, .ref (q 0)), (1, .int p1), (2, .int p2), (3, .int p3), (4, .int p4)]) hx hb dX10_weigh_64 hl (by decide) rfl (fun ls hl => ?_)
        refine lv_aload_n (pc := 66) hx hb dX10_weigh_66 rfl (lv_at hl 2 rfl) ?_
        refine va_get (pc := 67) (D := G) (ci := 10) (v := .ref (q 7)) (C := RX10) (T := TX10) (N := 10) hx hb hts iw_X10_weigh_X10 hown hK hP 0 rfl rfl 2 (by decide) (hts _ (List.mem_of_getElem? (i := 1) rfl)) (fun _ h9 => h9) rfl dX10_weigh_67 ?_
        refine lv_iload_n (pc := 70) hx hb dX10_weigh_70 rfl (lv_at hl 3 rfl) ?_
        refine lv_iload_n (pc := 71) hx hb dX10_weigh_71 rfl (lv_at hl 4 rfl) ?_
        refine hCallI (pc := 72) (wr := [oX10 q, oX4 q kd_size, aI K (q 2) 6 kd_low, aI K (q 3) 6 kd_high, oX9 q wg_size, aI K (q 8) 40 wg_cellOf, aI K (q 9) 40 wg_fewest, aI K (q 10) 40 wg_most, aZ K (q 11) 40 wg_counts]) (wsf := fun (u : Unit) => []) [] [0, 1, 2, 3, 4, 5, 6, 7, 8] (va_runS (As := [.int p1, .int p2]) (rest := [.ref (q 7)]) ⟨hx, hb, hml, hown, hts⟩ (c_X10_cell l G K tb q H.size _ p1 p2 hw) (va_cwS 2 hts gX10_weigh_X10_cell rfl rfl rfl (by decide +kernel) ⟨Nat.le_of_ble_eq_true rfl, Nat.le_of_ble_eq_true rfl⟩) (hPreS hE hP hK hD hS hA [] (by decide) rfl rfl) rfl rfl hl.1 rfl (lv_room (Nat.le_of_ble_eq_true rfl)) dX10_weigh_72 ⟨Nat.zero_le _, Nat.zero_le _⟩) hP hD hS hA rfl rfl (by decide) (by decide) (fun r_8 u H locs hw hP hD hS => ?_)
        have hP : va_P G vwCl [oX10 q, oX4 q kd_size, aI K (q 2) 6 kd_low, aI K (q 3) 6 kd_high, oX9 q wg_size, aI K (q 8) 40 wg_cellOf, aI K (q 9) 40 wg_fewest, aI K (q 10) 40 wg_most, aZ K (q 11) 40 wg_counts] H := hP.sub [0, 1, 2, 3, 4, 5, 6, 7, 8] rfl
        have hD : va_D A [oX10 q, oX4 q kd_size, aI K (q 2) 6 kd_low, aI K (q 3) 6 kd_high, oX9 q wg_size, aI K (q 8) 40 wg_cellOf, aI K (q 9) 40 wg_fewest, aI K (q 10) 40 wg_most, aZ K (q 11) 40 wg_counts] := hD.sub [0, 1, 2, 3, 4, 5, 6, 7, 8] (by decide) rfl
        refine lv_iload (pc := 75) hx hb dX10_weigh_75 (lv_at hl 1 rfl) ?_
        refine lv_iload (pc := 77) hx hb dX10_weigh_77 (lv_at hl 0 rfl) ?_
        refine hCallI (pc := 79) (wr := [oX10 q, oX4 q kd_size, aI K (q 2) 6 kd_low, aI K (q 3) 6 kd_high]) (wsf := fun (u : (Nat → Int32) × (Nat → Int32) × (Nat → Int32) × (Nat → Int32) × Int32) => [oX9 q u.2.2.2.2, aI K (q 8) 40 u.1, aI K (q 9) 40 u.2.1, aI K (q 10) 40 u.2.2.1, aZ K (q 11) 40 u.2.2.2.1]) [4, 5, 6, 7, 8] [0, 1, 2, 3] (va_runVN (As := [.int r_8, .int r_6, .int r_7]) (rest := []) ⟨hx, hb, hml, hown, hts⟩ (c_X9_add l G K tb q H.size _ r_8 r_6 r_7 wg_cellOf wg_fewest wg_most wg_counts wg_size hw) ⟨va_cnB 3 hts gX10_weigh_X9_add_n111 rfl rfl rfl (hE.nw 34 rfl) (hts _ (List.mem_of_getElem? (i := 35) rfl)) (by decide +kernel) ⟨Nat.le_of_ble_eq_true rfl, Nat.le_of_ble_eq_true rfl⟩, (hts _ (List.mem_of_getElem? (i := 34) rfl)), (hts _ (List.mem_of_getElem? (i := 36) rfl))⟩ (hPreV hE hP hK hD hS hA [4, 5, 6, 7, 8] (by decide) rfl rfl rfl rfl (q0 := 4) (ci := 9) rfl) rfl rfl hl.1 rfl (lv_room (Nat.le_of_ble_eq_true rfl)) dX10_weigh_79 ⟨Nat.zero_le _, Nat.zero_le _⟩) hP hD hS hA rfl rfl (by decide) (by decide) (fun r_9 u H locs hw hP hD hS => ?_)
        obtain ⟨wg_cellOf_10, wg_fewest_11, wg_most_12, wg_counts_13, wg_size_14⟩ := u
        have hP : va_P G vwCl [oX10 q, oX4 q kd_size, aI K (q 2) 6 kd_low, aI K (q 3) 6 kd_high, oX9 q wg_size_14, aI K (q 8) 40 wg_cellOf_10, aI K (q 9) 40 wg_fewest_11, aI K (q 10) 40 wg_most_12, aZ K (q 11) 40 wg_counts_13] H := hP.sub [0, 1, 2, 3, 4, 5, 6, 7, 8] rfl
        have hD : va_D A [oX10 q, oX4 q kd_size, aI K (q 2) 6 kd_low, aI K (q 3) 6 kd_high, oX9 q wg_size_14, aI K (q 8) 40 wg_cellOf_10, aI K (q 9) 40 wg_fewest_11, aI K (q 10) 40 wg_most_12, aZ K (q 11) 40 wg_counts_13] := hD.sub [0, 1, 2, 3, 4, 5, 6, 7, 8] (by decide) rfl
        exact hRetI (S := (Nat → Int32) × (Nat → Int32) × (Nat → Int32) × (Nat → Int32) × Int32) (wg_cellOf_10, wg_fewest_11, wg_most_12, wg_counts_13, wg_size_14) hx hb hr hlocks hQ hw hP hK hD hS dX10_weigh_82
      · replace hw := hw.2 c_5
        refine lv_bipush (pc := 35) (v := (-4 : Int32)) hx hb dX10_weigh_35 (by decide) ?_
        exact hRetI (S := (Nat → Int32) × (Nat → Int32) × (Nat → Int32) × (Nat → Int32) × Int32) (wg_cellOf, wg_fewest, wg_most, wg_counts, wg_size) hx hb hr hlocks hQ hw hP hK hD hS dX10_weigh_37
    · replace hw := hw.1 c_4
      refine lv_bipush (pc := 20) (v := (-2 : Int32)) hx hb dX10_weigh_20 (by decide) ?_
      exact hRetI (S := (Nat → Int32) × (Nat → Int32) × (Nat → Int32) × (Nat → Int32) × Int32) (wg_cellOf, wg_fewest, wg_most, wg_counts, wg_size) hx hb hr hlocks hQ hw hP hK hD hS dX10_weigh_22
  · replace hw := hw.1 c_2
    refine lv_iconst (pc := 9) (v := (-1 : Int32)) hx hb dX10_weigh_9 (by decide) ?_
    exact hRetI (S := (Nat → Int32) × (Nat → Int32) × (Nat → Int32) × (Nat → Int32) × Int32) (wg_cellOf, wg_fewest, wg_most, wg_counts, wg_size) hx hb hr hlocks hQ hw hP hK hD hS dX10_weigh_10
def P_X10_worst (post : Int32 → Prop) (kd_size : Int32) (st_booked : Nat → Int32) (st_parted : Nat → Int32) (wg_cellOf : Nat → Int32) (wg_fewest : Nat → Int32) (wg_most : Nat → Int32) (wg_counts : Nat → Int32) (wg_size : Int32) : Prop :=
  ∀ (X7 : Int32 → Int32 → Int32 → Prop),
  (∀ (x1 : Int32) (x2 : Int32) (x3 : Int32), ((((5 : Int32) ≤ x3 → post x1) ∧ (¬ (5 : Int32) ≤ x3 → P_X10_missingInHouse (fun r_2 => ((r_2 ≤ x2 → ∀ y_4 : Int32, y_4 = (x3 + (1 : Int32)) → X7 x1 x2 y_4) ∧ (¬ r_2 ≤ x2 → ∀ y_5 : Int32, y_5 = (x3 + (1 : Int32)) → X7 x3 r_2 y_5))) x3 kd_size st_booked st_parted wg_cellOf wg_fewest wg_most wg_counts wg_size))) → X7 x1 x2 x3) →
  X7 (-9 : Int32) (0 : Int32) (0 : Int32)
abbrev rm_X10_worst : Room := { frames := 4, cells := 0, slots := 0, locals := 94 }
set_option maxHeartbeats 4000000 in
set_option maxRecDepth 100000 in
theorem c_X10_worst (l : Launch) (G : va_G) (K : ClassId × ClassId × ClassId) (tb q : Nat → Nat) (sz : Nat) (post : Int32 → Prop) (kd_size : Int32) (st_booked : Nat → Int32) (st_parted : Nat → Int32) (wg_cellOf : Nat → Int32) (wg_fewest : Nat → Int32) (wg_most : Nat → Int32) (wg_counts : Nat → Int32) (wg_size : Int32) (hw : P_X10_worst post kd_size st_booked st_parted wg_cellOf wg_fewest wg_most wg_counts wg_size) : Met l yX10_worst wsX10_worst rm_X10_worst (va_Pc [.ref (q 0)] (hPre G K tb [oX10 q, oX4 q kd_size, oX8 q, aI K (q 5) 30 st_booked, aI K (q 6) 90 st_parted, oX9 q wg_size, aI K (q 8) 40 wg_cellOf, aI K (q 9) 40 wg_fewest, aI K (q 10) 40 wg_most, aZ K (q 11) 40 wg_counts] sz)) (va_Qi (fun (r : Int32) (u : Unit) => post r) (fun u => hB G K (va_A [oX10 q, oX4 q kd_size, oX8 q, aI K (q 5) 30 st_booked, aI K (q 6) 90 st_parted, oX9 q wg_size, aI K (q 8) 40 wg_cellOf, aI K (q 9) 40 wg_fewest, aI K (q 10) 40 wg_most, aZ K (q 11) 40 wg_counts] sz) [oX10 q, oX4 q kd_size, oX8 q, aI K (q 5) 30 st_booked, aI K (q 6) 90 st_parted, oX9 q wg_size, aI K (q 8) 40 wg_cellOf, aI K (q 9) 40 wg_fewest, aI K (q 10) 40 wg_most, aZ K (q 11) 40 wg_counts]) (va_A [oX10 q, oX4 q kd_size, oX8 q, aI K (q 5) 30 st_booked, aI K (q 6) 90 st_parted, oX9 q wg_size, aI K (q 8) 40 wg_cellOf, aI K (q 9) 40 wg_fewest, aI K (q 10) 40 wg_most, aZ K (q 11) 40 wg_counts] sz)) 0 0 (va_A [oX10 q, oX4 q kd_size, oX8 q, aI K (q 5) 30 st_booked, aI K (q 6) 90 st_parted, oX9 q wg_size, aI K (q 8) 40 wg_cellOf, aI K (q 9) 40 wg_fewest, aI K (q 10) 40 wg_most, aZ K (q 11) 40 wg_counts] sz) := by
  refine hMet (fun A => va_Qi (fun (r : Int32) (u : Unit) => post r) (fun u => hB G K A [oX10 q, oX4 q kd_size, oX8 q, aI K (q 5) 30 st_booked, aI K (q 6) 90 st_parted, oX9 q wg_size, aI K (q 8) 40 wg_cellOf, aI K (q 9) 40 wg_fewest, aI K (q 10) 40 wg_most, aZ K (q 11) 40 wg_counts]) A) (by decide) rfl (Nat.le_of_ble_eq_true rfl) ?_
  intro p e s m av below meth c A Q ls hx hb hr hml hts hown hlocks hnm hA hP hK hD hS hE hQ hl
  have hts : ∀ w ∈ wsX10_worst, w.before av s = true := hts
  have hown : s.vm.findClass RX10 = some m.cls := hown
  have hl : lv_has ls 5 [(0, .ref (q 0))] := hl
  unfold P_X10_worst at hw
  replace hw := hw (fun (x1 : Int32) (x2 : Int32) (x3 : Int32) => ∀ (H : Heap) (locs : List Loc) (ls : Array Slot), va_P G vwCl [oX10 q, oX4 q kd_size, oX8 q, aI K (q 5) 30 st_booked, aI K (q 6) 90 st_parted, oX9 q wg_size, aI K (q 8) 40 wg_cellOf, aI K (q 9) 40 wg_fewest, aI K (q 10) 40 wg_most, aZ K (q 11) 40 wg_counts] H → va_D A [oX10 q, oX4 q kd_size, oX8 q, aI K (q 5) 30 st_booked, aI K (q 6) 90 st_parted, oX9 q wg_size, aI K (q 8) 40 wg_cellOf, aI K (q 9) 40 wg_fewest, aI K (q 10) 40 wg_most, aZ K (q 11) 40 wg_counts] → va_S A s.heap H locs → lv_has ls 5 [(0, .ref (q 0)), (1, .int x1), (2, .int x2), (3, .int x3)] → W p l e rm_X10_worst s m av below meth c H locs 0 0 Q (F0 m 7 ls []))
  replace hw := hw (by
    intro x1 x2 x3 hw H locs ls hP hD hS hl
    refine lv_iload_n (pc := 7) hx hb dX10_worst_7 rfl (lv_at hl 3 rfl) ?_
    refine lv_iconst (pc := 8) (v := (5 : Int32)) hx hb dX10_worst_8 (by decide) ?_
    refine lv_icmp_ge (pc := 9) (tgt := 36) hx hb dX10_worst_9 (by decide) (fun c_1 => ?_) (fun c_1 => ?_)
    · replace hw := hw.1 c_1
      refine lv_iload_n (pc := 36) hx hb dX10_worst_36 rfl (lv_at hl 1 rfl) ?_
      exact hRetI (S := Unit) () hx hb hr hlocks hQ hw hP hK hD hS dX10_worst_37
    · replace hw := hw.2 c_1
      refine lv_aload_n (pc := 12) hx hb dX10_worst_12 rfl (lv_at hl 0 rfl) ?_
      refine lv_iload_n (pc := 13) hx hb dX10_worst_13 rfl (lv_at hl 3 rfl) ?_
      refine hCallI (pc := 14) (wr := []) (wsf := fun (u : Unit) => [oX10 q, oX4 q kd_size, oX8 q, aI K (q 5) 30 st_booked, aI K (q 6) 90 st_parted, oX9 q wg_size, aI K (q 8) 40 wg_cellOf, aI K (q 9) 40 wg_fewest, aI K (q 10) 40 wg_most, aZ K (q 11) 40 wg_counts]) [0, 1, 2, 3, 4, 5, 6, 7, 8, 9] [] (va_runV (As := [.int x3]) (rest := []) ⟨hx, hb, hml, hown, hts⟩ (c_X10_missingInHouse l G K tb q H.size _ x3 kd_size st_booked st_parted wg_cellOf wg_fewest wg_most wg_counts wg_size hw) (cwV 1 hts gX10_worst_X10_missingInHouse rfl rfl rfl (by decide +kernel) ⟨Nat.le_of_ble_eq_true rfl, Nat.le_of_ble_eq_true rfl⟩) (hPreV hE hP hK hD hS hA [0, 1, 2, 3, 4, 5, 6, 7, 8, 9] (by decide) rfl rfl rfl rfl (q0 := 0) (ci := 10) rfl) rfl rfl hl.1 rfl (lv_room (Nat.le_of_ble_eq_true rfl)) dX10_worst_14 ⟨Nat.zero_le _, Nat.zero_le _⟩) hP hD hS hA rfl rfl (by decide) (by decide) (fun r_2 u H locs hw hP hD hS => ?_)
      have hP : va_P G vwCl [oX10 q, oX4 q kd_size, oX8 q, aI K (q 5) 30 st_booked, aI K (q 6) 90 st_parted, oX9 q wg_size, aI K (q 8) 40 wg_cellOf, aI K (q 9) 40 wg_fewest, aI K (q 10) 40 wg_most, aZ K (q 11) 40 wg_counts] H := hP.sub [0, 1, 2, 3, 4, 5, 6, 7, 8, 9] rfl
      have hD : va_D A [oX10 q, oX4 q kd_size, oX8 q, aI K (q 5) 30 st_booked, aI K (q 6) 90 st_parted, oX9 q wg_size, aI K (q 8) 40 wg_cellOf, aI K (q 9) 40 wg_fewest, aI K (q 10) 40 wg_most, aZ K (q 11) 40 wg_counts] := hD.sub [0, 1, 2, 3, 4, 5, 6, 7, 8, 9] (by decide) rfl
      refine lv_istore (pc := 17) (lv' := [(4, .int r_2), (0, .ref (q 0)), (1, .int x1), (2, .int x2), (3, .int x3)]) hx hb dX10_worst_17 hl (by decide) rfl (fun ls hl => ?_)
      refine lv_iload (pc := 19) hx hb dX10_worst_19 (lv_at hl 0 rfl) ?_
      refine lv_iload_n (pc := 21) hx hb dX10_worst_21 rfl (lv_at hl 3 rfl) ?_
      refine lv_icmp_le (pc := 22) (tgt := 30) hx hb dX10_worst_22 (by decide) (fun c_3 => ?_) (fun c_3 => ?_)
      · replace hw := hw.1 c_3
        obtain ⟨y_4, ey_4⟩ : ∃ z : Int32, z = (x3 + (1 : Int32)) := ⟨_, rfl⟩
        replace hw := hw y_4 ey_4
        refine lv_iinc (pc := 30) (v := y_4) (lv' := [(3, .int y_4), (4, .int r_2), (0, .ref (q 0)), (1, .int x1), (2, .int x2)]) hx hb dX10_worst_30 hl (k := 4) rfl (by rw [ey_4]; rfl) (by decide) rfl (fun ls hl => ?_)
        refine lv_goto (pc := 33) (tgt := 7) hx hb dX10_worst_33 (by decide) ?_
        exact hw _ _ _ hP hD hS (lv_sub hl [2, 3, 4, 0] rfl)
      · replace hw := hw.2 c_3
        refine lv_iload (pc := 25) hx hb dX10_worst_25 (lv_at hl 0 rfl) ?_
        refine lv_istore_n (pc := 27) (lv' := [(2, .int r_2), (4, .int r_2), (0, .ref (q 0)), (1, .int x1), (3, .int x3)]) hx hb dX10_worst_27 rfl hl (by decide) rfl (fun ls hl => ?_)
        refine lv_iload_n (pc := 28) hx hb dX10_worst_28 rfl (lv_at hl 4 rfl) ?_
        refine lv_istore_n (pc := 29) (lv' := [(1, .int x3), (2, .int r_2), (4, .int r_2), (0, .ref (q 0)), (3, .int x3)]) hx hb dX10_worst_29 rfl hl (by decide) rfl (fun ls hl => ?_)
        obtain ⟨y_5, ey_5⟩ : ∃ z : Int32, z = (x3 + (1 : Int32)) := ⟨_, rfl⟩
        replace hw := hw y_5 ey_5
        refine lv_iinc (pc := 30) (v := y_5) (lv' := [(3, .int y_5), (1, .int x3), (2, .int r_2), (4, .int r_2), (0, .ref (q 0))]) hx hb dX10_worst_30 hl (k := 4) rfl (by rw [ey_5]; rfl) (by decide) rfl (fun ls hl => ?_)
        refine lv_goto (pc := 33) (tgt := 7) hx hb dX10_worst_33 (by decide) ?_
        exact hw _ _ _ hP hD hS (lv_sub hl [4, 1, 2, 0] rfl))
  refine lv_bipush (pc := 0) (v := (-9 : Int32)) hx hb dX10_worst_0 (by decide) ?_
  refine lv_istore_n (pc := 2) (lv' := [(1, .int (-9 : Int32)), (0, .ref (q 0))]) hx hb dX10_worst_2 rfl hl (by decide) rfl (fun ls hl => ?_)
  refine lv_iconst (pc := 3) (v := (0 : Int32)) hx hb dX10_worst_3 (by decide) ?_
  refine lv_istore_n (pc := 4) (lv' := [(2, .int (0 : Int32)), (1, .int (-9 : Int32)), (0, .ref (q 0))]) hx hb dX10_worst_4 rfl hl (by decide) rfl (fun ls hl => ?_)
  refine lv_iconst (pc := 5) (v := (0 : Int32)) hx hb dX10_worst_5 (by decide) ?_
  refine lv_istore_n (pc := 6) (lv' := [(3, .int (0 : Int32)), (2, .int (0 : Int32)), (1, .int (-9 : Int32)), (0, .ref (q 0))]) hx hb dX10_worst_6 rfl hl (by decide) rfl (fun ls hl => ?_)
  exact hw _ _ _ hP hD hS (lv_sub hl [3, 2, 1, 0] rfl)
