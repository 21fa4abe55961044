def P_X10_within (post : Int32 → Prop) (p0 : Int32) (p1 : Int32) (p2 : Int32) : Prop :=
  ∀ v_3 : Int32, v_3 = (if p0 < p1 then (0 : Int32) else (if p2 < p0 then (0 : Int32) else (1 : Int32))) → post v_3
abbrev rm_X10_within : Room := { frames := 0, cells := 0, slots := 0, locals := 0 }
set_option maxHeartbeats 4000000 in
set_option maxRecDepth 100000 in
theorem c_X10_within (l : Launch) (G : va_G) (K : ClassId × ClassId × ClassId) (tb q : Nat → Nat) (sz : Nat) (post : Int32 → Prop) (p0 : Int32) (p1 : Int32) (p2 : Int32) (hw : P_X10_within post p0 p1 p2) : Met l yX10_within wsX10_within rm_X10_within (va_Pc [.int p0, .int p1, .int p2] (hPre G K tb [] sz)) (va_Qi (fun (r : Int32) (u : Unit) => post r) (fun u => hB G K (va_A [] sz) []) (va_A [] sz)) 0 0 (va_A [] sz) := by
  refine hMet (fun A => va_Qi (fun (r : Int32) (u : Unit) => post r) (fun u => hB G K A []) A) (by decide) rfl (Nat.le_of_ble_eq_true rfl) ?_
  intro p e s m av below meth c A Q ls hx hb hr hml hts hown hlocks hnm hA hP hK hD hS hE hQ hl
  have hts : ∀ w ∈ wsX10_within, w.before av s = true := hts
  have hown : s.vm.findClass RX10 = some m.cls := hown
  have hl : lv_has ls 3 [(0, .int p0), (1, .int p1), (2, .int p2)] := hl
  unfold P_X10_within at hw
  refine lv_iload_n (pc := 0) hx hb dX10_within_0 rfl (lv_at hl 0 rfl) ?_
  refine lv_iload_n (pc := 1) hx hb dX10_within_1 rfl (lv_at hl 1 rfl) ?_
  have K_v_3 : ∀ v_3 : Int32, v_3 = (if p0 < p1 then (0 : Int32) else (if p2 < p0 then (0 : Int32) else (1 : Int32))) → W p l e rm_X10_within s m av below meth c s.heap [] 0 0 Q (F0 m 15 ls [.int v_3]) := by
    intro v_3 ev_3
    replace hw := hw v_3 ev_3
    exact hRetZ (S := Unit) () hx hb hr hlocks hQ (by rw [ev_3]; (repeat' split) <;> first | exact Or.inl rfl | exact Or.inr rfl) hw hP hK hD hS dX10_within_15
  refine lv_icmp_lt (pc := 2) (tgt := 14) hx hb dX10_within_2 (by decide) (fun c_1 => ?_) (fun c_1 => ?_)
  · skip
    refine lv_iconst (pc := 14) (v := (0 : Int32)) hx hb dX10_within_14 (by decide) ?_
    exact K_v_3 _ (by rw [if_pos c_1])
  · skip
    refine lv_iload_n (pc := 5) hx hb dX10_within_5 rfl (lv_at hl 0 rfl) ?_
    refine lv_iload_n (pc := 6) hx hb dX10_within_6 rfl (lv_at hl 2 rfl) ?_
    refine lv_icmp_gt (pc := 7) (tgt := 14) hx hb dX10_within_7 (by decide) (fun c_2 => ?_) (fun c_2 => ?_)
    · skip
      refine lv_iconst (pc := 14) (v := (0 : Int32)) hx hb dX10_within_14 (by decide) ?_
      exact K_v_3 _ (by rw [if_neg c_1, if_pos c_2])
    · skip
      refine lv_iconst (pc := 10) (v := (1 : Int32)) hx hb dX10_within_10 (by decide) ?_
      refine lv_goto (pc := 11) (tgt := 15) hx hb dX10_within_11 (by decide) ?_
      exact K_v_3 _ (by rw [if_neg c_1, if_neg c_2])
def P_X10_isHouse (post : Int32 → Prop) (p0 : Int32) : Prop :=
  P_X10_within (fun r_1 => (r_1 = 0 ∨ r_1 = 1) ∧ post r_1) p0 (0 : Int32) (4 : Int32)
abbrev rm_X10_isHouse : Room := { frames := 1, cells := 0, slots := 0, locals := 22 }
set_option maxHeartbeats 4000000 in
set_option maxRecDepth 100000 in
theorem c_X10_isHouse (l : Launch) (G : va_G) (K : ClassId × ClassId × ClassId) (tb q : Nat → Nat) (sz : Nat) (post : Int32 → Prop) (p0 : Int32) (hw : P_X10_isHouse post p0) : Met l yX10_isHouse wsX10_isHouse rm_X10_isHouse (va_Pc [.int p0] (hPre G K tb [] sz)) (va_Qi (fun (r : Int32) (u : Unit) => post r) (fun u => hB G K (va_A [] sz) []) (va_A [] sz)) 0 0 (va_A [] sz) := by
  refine hMet (fun A => va_Qi (fun (r : Int32) (u : Unit) => post r) (fun u => hB G K A []) A) (by decide) rfl (Nat.le_of_ble_eq_true rfl) ?_
  intro p e s m av below meth c A Q ls hx hb hr hml hts hown hlocks hnm hA hP hK hD hS hE hQ hl
  have hts : ∀ w ∈ wsX10_isHouse, w.before av s = true := hts
  have hown : s.vm.findClass RX10 = some m.cls := hown
  have hl : lv_has ls 1 [(0, .int p0)] := hl
  unfold P_X10_isHouse at hw
  refine lv_iload_n (pc := 0) hx hb dX10_isHouse_0 rfl (lv_at hl 0 rfl) ?_
  refine lv_iconst (pc := 1) (v := (0 : Int32)) hx hb dX10_isHouse_1 (by decide) ?_
  refine lv_iconst (pc := 2) (v := (4 : Int32)) hx hb dX10_isHouse_2 (by decide) ?_
  refine hCallI (pc := 3) (wr := []) (wsf := fun (u : Unit) => []) [] [] (va_runS (As := [.int p0, .int (0 : Int32), .int (4 : Int32)]) (rest := []) ⟨hx, hb, hml, hown, hts⟩ (c_X10_within l G K tb q s.heap.size _ p0 (0 : Int32) (4 : Int32) hw) (va_cwS 3 hts gX10_isHouse_X10_within rfl rfl rfl (by decide +kernel) ⟨Nat.le_of_ble_eq_true rfl, Nat.le_of_ble_eq_true rfl⟩) (hPreS hE hP hK hD hS hA [] (by decide) rfl rfl) rfl rfl hl.1 rfl (lv_room (Nat.le_of_ble_eq_true rfl)) dX10_isHouse_3 ⟨Nat.zero_le _, Nat.zero_le _⟩) hP hD hS hA rfl rfl (by decide) (by decide) (fun r_1 u H locs hw hP hD hS => ?_)
  have hP : va_P G vwCl [] H := hP.sub [] rfl
  have hD : va_D A [] := hD.sub [] (by decide) rfl
  obtain ⟨h_2, hw⟩ := hw
  exact hRetZ (S := Unit) () hx hb hr hlocks hQ h_2 hw hP hK hD hS dX10_isHouse_6
def P_X10_isLot (post : Int32 → Prop) (p0 : Int32) : Prop :=
  P_X10_within (fun r_1 => (r_1 = 0 ∨ r_1 = 1) ∧ post r_1) p0 (0 : Int32) (3 : Int32)
abbrev rm_X10_isLot : Room := { frames := 1, cells := 0, slots := 0, locals := 22 }
set_option maxHeartbeats 4000000 in
set_option maxRecDepth 100000 in
theorem c_X10_isLot (l : Launch) (G : va_G) (K : ClassId × ClassId × ClassId) (tb q : Nat → Nat) (sz : Nat) (post : Int32 → Prop) (p0 : Int32) (hw : P_X10_isLot post p0) : Met l yX10_isLot wsX10_isLot rm_X10_isLot (va_Pc [.int p0] (hPre G K tb [] sz)) (va_Qi (fun (r : Int32) (u : Unit) => post r) (fun u => hB G K (va_A [] sz) []) (va_A [] sz)) 0 0 (va_A [] sz) := by
  refine hMet (fun A => va_Qi (fun (r : Int32) (u : Unit) => post r) (fun u => hB G K A []) A) (by decide) rfl (Nat.le_of_ble_eq_true rfl) ?_
  intro p e s m av below meth c A Q ls hx hb hr hml hts hown hlocks hnm hA hP hK hD hS hE hQ hl
  have hts : ∀ w ∈ wsX10_isLot, w.before av s = true := hts
  have hown : s.vm.findClass RX10 = some m.cls := hown
  have hl : lv_has ls 1 [(0, .int p0)] := hl
  unfold P_X10_isLot at hw
  refine lv_iload_n (pc := 0) hx hb dX10_isLot_0 rfl (lv_at hl 0 rfl) ?_
  refine lv_iconst (pc := 1) (v := (0 : Int32)) hx hb dX10_isLot_1 (by decide) ?_
  refine lv_iconst (pc := 2) (v := (3 : Int32)) hx hb dX10_isLot_2 (by decide) ?_
  refine hCallI (pc := 3) (wr := []) (wsf := fun (u : Unit) => []) [] [] (va_runS (As := [.int p0, .int (0 : Int32), .int (3 : Int32)]) (rest := []) ⟨hx, hb, hml, hown, hts⟩ (c_X10_within l G K tb q s.heap.size _ p0 (0 : Int32) (3 : Int32) hw) (va_cwS 3 hts gX10_isLot_X10_within rfl rfl rfl (by decide +kernel) ⟨Nat.le_of_ble_eq_true rfl, Nat.le_of_ble_eq_true rfl⟩) (hPreS hE hP hK hD hS hA [] (by decide) rfl rfl) rfl rfl hl.1 rfl (lv_room (Nat.le_of_ble_eq_true rfl)) dX10_isLot_3 ⟨Nat.zero_le _, Nat.zero_le _⟩) hP hD hS hA rfl rfl (by decide) (by decide) (fun r_1 u H locs hw hP hD hS => ?_)
  have hP : va_P G vwCl [] H := hP.sub [] rfl
  have hD : va_D A [] := hD.sub [] (by decide) rfl
  obtain ⟨h_2, hw⟩ := hw
  exact hRetZ (S := Unit) () hx hb hr hlocks hQ h_2 hw hP hK hD hS dX10_isLot_6
def P_X10_isShift (post : Int32 → Prop) (p0 : Int32) : Prop :=
  P_X10_within (fun r_1 => (r_1 = 0 ∨ r_1 = 1) ∧ post r_1) p0 (0 : Int32) (2 : Int32)
abbrev rm_X10_isShift : Room := { frames := 1, cells := 0, slots := 0, locals := 22 }
set_option maxHeartbeats 4000000 in
set_option maxRecDepth 100000 in
theorem c_X10_isShift (l : Launch) (G : va_G) (K : ClassId × ClassId × ClassId) (tb q : Nat → Nat) (sz : Nat) (post : Int32 → Prop) (p0 : Int32) (hw : P_X10_isShift post p0) : Met l yX10_isShift wsX10_isShift rm_X10_isShift (va_Pc [.int p0] (hPre G K tb [] sz)) (va_Qi (fun (r : Int32) (u : Unit) => post r) (fun u => hB G K (va_A [] sz) []) (va_A [] sz)) 0 0 (va_A [] sz) := by
  refine hMet (fun A => va_Qi (fun (r : Int32) (u : Unit) => post r) (fun u => hB G K A []) A) (by decide) rfl (Nat.le_of_ble_eq_true rfl) ?_
  intro p e s m av below meth c A Q ls hx hb hr hml hts hown hlocks hnm hA hP hK hD hS hE hQ hl
  have hts : ∀ w ∈ wsX10_isShift, w.before av s = true := hts
  have hown : s.vm.findClass RX10 = some m.cls := hown
  have hl : lv_has ls 1 [(0, .int p0)] := hl
  unfold P_X10_isShift at hw
  refine lv_iload_n (pc := 0) hx hb dX10_isShift_0 rfl (lv_at hl 0 rfl) ?_
  refine lv_iconst (pc := 1) (v := (0 : Int32)) hx hb dX10_isShift_1 (by decide) ?_
  refine lv_iconst (pc := 2) (v := (2 : Int32)) hx hb dX10_isShift_2 (by decide) ?_
  refine hCallI (pc := 3) (wr := []) (wsf := fun (u : Unit) => []) [] [] (va_runS (As := [.int p0, .int (0 : Int32), .int (2 : Int32)]) (rest := []) ⟨hx, hb, hml, hown, hts⟩ (c_X10_within l G K tb q s.heap.size _ p0 (0 : Int32) (2 : Int32) hw) (va_cwS 3 hts gX10_isShift_X10_within rfl rfl rfl (by decide +kernel) ⟨Nat.le_of_ble_eq_true rfl, Nat.le_of_ble_eq_true rfl⟩) (hPreS hE hP hK hD hS hA [] (by decide) rfl rfl) rfl rfl hl.1 rfl (lv_room (Nat.le_of_ble_eq_true rfl)) dX10_isShift_3 ⟨Nat.zero_le _, Nat.zero_le _⟩) hP hD hS hA rfl rfl (by decide) (by decide) (fun r_1 u H locs hw hP hD hS => ?_)
  have hP : va_P G vwCl [] H := hP.sub [] rfl
  have hD : va_D A [] := hD.sub [] (by decide) rfl
  obtain ⟨h_2, hw⟩ := hw
  exact hRetZ (S := Unit) () hx hb hr hlocks hQ h_2 hw hP hK hD hS dX10_isShift_6
def P_X10_isSign (post : Int32 → Prop) (p0 : Int32) : Prop :=
  ((p0 = (-9 : Int32) → post (1 : Int32)) ∧ (¬ p0 = (-9 : Int32) → P_X10_within (fun r_2 => ∀ v_4 : Int32, v_4 = (if r_2 = (0 : Int32) then (0 : Int32) else (1 : Int32)) → post v_4) p0 (0 : Int32) (9 : Int32)))
abbrev rm_X10_isSign : Room := { frames := 1, cells := 0, slots := 0, locals := 22 }
set_option maxHeartbeats 4000000 in
set_option maxRecDepth 100000 in
theorem c_X10_isSign (l : Launch) (G : va_G) (K : ClassId × ClassId × ClassId) (tb q : Nat → Nat) (sz : Nat) (post : Int32 → Prop) (p0 : Int32) (hw : P_X10_isSign post p0) : Met l yX10_isSign wsX10_isSign rm_X10_isSign (va_Pc [.int p0] (hPre G K tb [] sz)) (va_Qi (fun (r : Int32) (u : Unit) => post r) (fun u => hB G K (va_A [] sz) []) (va_A [] sz)) 0 0 (va_A [] sz) := by
  refine hMet (fun A => va_Qi (fun (r : Int32) (u : Unit) => post r) (fun u => hB G K A []) A) (by decide) rfl (Nat.le_of_ble_eq_true rfl) ?_
  intro p e s m av below meth c A Q ls hx hb hr hml hts hown hlocks hnm hA hP hK hD hS hE hQ hl
  have hts : ∀ w ∈ wsX10_isSign, w.before av s = true := hts
  have hown : s.vm.findClass RX10 = some m.cls := hown
  have hl : lv_has ls 1 [(0, .int p0)] := hl
  unfold P_X10_isSign at hw
  refine lv_iload_n (pc := 0) hx hb dX10_isSign_0 rfl (lv_at hl 0 rfl) ?_
  refine lv_bipush (pc := 1) (v := (-9 : Int32)) hx hb dX10_isSign_1 (by decide) ?_
  refine lv_icmp_eq (pc := 3) (tgt := 16) hx hb dX10_isSign_3 (by decide) (fun c_1 => ?_) (fun c_1 => ?_)
  · replace hw := hw.1 c_1
    refine lv_iconst (pc := 16) (v := (1 : Int32)) hx hb dX10_isSign_16 (by decide) ?_
    refine lv_goto (pc := 17) (tgt := 21) hx hb dX10_isSign_17 (by decide) ?_
    exact hRetZ (S := Unit) () hx hb hr hlocks hQ (Or.inr rfl) hw hP hK hD hS dX10_isSign_21
  · replace hw := hw.2 c_1
    refine lv_iload_n (pc := 6) hx hb dX10_isSign_6 rfl (lv_at hl 0 rfl) ?_
    refine lv_iconst (pc := 7) (v := (0 : Int32)) hx hb dX10_isSign_7 (by decide) ?_
    refine lv_bipush (pc := 8) (v := (9 : Int32)) hx hb dX10_isSign_8 (by decide) ?_
    refine hCallI (pc := 10) (wr := []) (wsf := fun (u : Unit) => []) [] [] (va_runS (As := [.int p0, .int (0 : Int32), .int (9 : Int32)]) (rest := []) ⟨hx, hb, hml, hown, hts⟩ (c_X10_within l G K tb q s.heap.size _ p0 (0 : Int32) (9 : Int32) hw) (va_cwS 3 hts gX10_isSign_X10_within rfl rfl rfl (by decide +kernel) ⟨Nat.le_of_ble_eq_true rfl, Nat.le_of_ble_eq_true rfl⟩) (hPreS hE hP hK hD hS hA [] (by decide) rfl rfl) rfl rfl hl.1 rfl (lv_room (Nat.le_of_ble_eq_true rfl)) dX10_isSign_10 ⟨Nat.zero_le _, Nat.zero_le _⟩) hP hD hS hA rfl rfl (by decide) (by decide) (fun r_2 u H locs hw hP hD hS => ?_)
    have hP : va_P G vwCl [] H := hP.sub [] rfl
    have hD : va_D A [] := hD.sub [] (by decide) rfl
    have K_v_4 : ∀ v_4 : Int32, v_4 = (if r_2 = (0 : Int32) then (0 : Int32) else (1 : Int32)) → W p l e rm_X10_isSign s m av below meth c H locs 0 0 Q (F0 m 21 ls [.int v_4]) := by
      intro v_4 ev_4
      replace hw := hw v_4 ev_4
      exact hRetZ (S := Unit) () hx hb hr hlocks hQ (by rw [ev_4]; (repeat' split) <;> first | exact Or.inl rfl | exact Or.inr rfl) hw hP hK hD hS dX10_isSign_21
    refine lv_if_eq (pc := 13) (tgt := 20) hx hb dX10_isSign_13 (by decide) (fun c_3 => ?_) (fun c_3 => ?_)
    · skip
      refine lv_iconst (pc := 20) (v := (0 : Int32)) hx hb dX10_isSign_20 (by decide) ?_
      exact K_v_4 _ (by rw [if_pos c_3])
    · skip
      refine lv_iconst (pc := 16) (v := (1 : Int32)) hx hb dX10_isSign_16 (by decide) ?_
      refine lv_goto (pc := 17) (tgt := 21) hx hb dX10_isSign_17 (by decide) ?_
      exact K_v_4 _ (by rw [if_neg c_3])
def P_X10_isWeight (post : Int32 → Prop) (p0 : Int32) (p1 : Int32) : Prop :=
  P_X10_within (fun r_1 => ((r_1 = (0 : Int32) → post (0 : Int32)) ∧ (¬ r_1 = (0 : Int32) → P_X10_within (fun r_3 => ∀ v_5 : Int32, v_5 = (if r_3 = (0 : Int32) then (0 : Int32) else (1 : Int32)) → post v_5) p1 (0 : Int32) (500 : Int32)))) p0 (0 : Int32) (2000000 : Int32)
abbrev rm_X10_isWeight : Room := { frames := 1, cells := 0, slots := 0, locals := 22 }
set_option maxHeartbeats 4000000 in
set_option maxRecDepth 100000 in
theorem c_X10_isWeight (l : Launch) (G : va_G) (K : ClassId × ClassId × ClassId) (tb q : Nat → Nat) (sz : Nat) (post : Int32 → Prop) (p0 : Int32) (p1 : Int32) (hw : P_X10_isWeight post p0 p1) : Met l yX10_isWeight wsX10_isWeight rm_X10_isWeight (va_Pc [.int p0, .int p1] (hPre G K tb [] sz)) (va_Qi (fun (r : Int32) (u : Unit) => post r) (fun u => hB G K (va_A [] sz) []) (va_A [] sz)) 0 0 (va_A [] sz) := by
  refine hMet (fun A => va_Qi (fun (r : Int32) (u : Unit) => post r) (fun u => hB G K A []) A) (by decide) rfl (Nat.le_of_ble_eq_true rfl) ?_
  intro p e s m av below meth c A Q ls hx hb hr hml hts hown hlocks hnm hA hP hK hD hS hE hQ hl
  have hts : ∀ w ∈ wsX10_isWeight, w.before av s = true := hts
  have hown : s.vm.findClass RX10 = some m.cls := hown
  have hl : lv_has ls 2 [(0, .int p0), (1, .int p1)] := hl
  unfold P_X10_isWeight at hw
  refine lv_iload_n (pc := 0) hx hb dX10_isWeight_0 rfl (lv_at hl 0 rfl) ?_
  refine lv_iconst (pc := 1) (v := (0 : Int32)) hx hb dX10_isWeight_1 (by decide) ?_
  refine lv_ldcw (pc := 2) (v := (2000000 : Int32)) hx hb hown (hts _ (List.mem_of_getElem? (i := 1) rfl)) dX10_isWeight_2 ?_
  refine hCallI (pc := 5) (wr := []) (wsf := fun (u : Unit) => []) [] [] (va_runS (As := [.int p0, .int (0 : Int32), .int (2000000 : Int32)]) (rest := []) ⟨hx, hb, hml, hown, hts⟩ (c_X10_within l G K tb q s.heap.size _ p0 (0 : Int32) (2000000 : Int32) hw) (va_cwS 3 hts gX10_isWeight_X10_within rfl rfl rfl (by decide +kernel) ⟨Nat.le_of_ble_eq_true rfl, Nat.le_of_ble_eq_true rfl⟩) (hPreS hE hP hK hD hS hA [] (by decide) rfl rfl) rfl rfl hl.1 rfl (lv_room (Nat.le_of_ble_eq_true rfl)) dX10_isWeight_5 ⟨Nat.zero_le _, Nat.zero_le _⟩) hP hD hS hA rfl rfl (by decide) (by decide) (fun r_1 u H locs hw hP hD hS => ?_)
  have hP : va_P G vwCl [] H := hP.sub [] rfl
  have hD : va_D A [] := hD.sub [] (by decide) rfl
  refine lv_if_eq (pc := 8) (tgt := 26) hx hb dX10_isWeight_8 (by decide) (fun c_2 => ?_) (fun c_2 => ?_)
  · replace hw := hw.1 c_2
    refine lv_iconst (pc := 26) (v := (0 : Int32)) hx hb dX10_isWeight_26 (by decide) ?_
    exact hRetZ (S := Unit) () hx hb hr hlocks hQ (Or.inl rfl) hw hP hK hD hS dX10_isWeight_27
  · replace hw := hw.2 c_2
    refine lv_iload_n (pc := 11) hx hb dX10_isWeight_11 rfl (lv_at hl 1 rfl) ?_
    refine lv_iconst (pc := 12) (v := (0 : Int32)) hx hb dX10_isWeight_12 (by decide) ?_
    refine lv_sipush (pc := 13) (v := (500 : Int32)) hx hb dX10_isWeight_13 (by decide) ?_
    refine hCallI (pc := 16) (wr := []) (wsf := fun (u : Unit) => []) [] [] (va_runS (As := [.int p1, .int (0 : Int32), .int (500 : Int32)]) (rest := []) ⟨hx, hb, hml, hown, hts⟩ (c_X10_within l G K tb q H.size _ p1 (0 : Int32) (500 : Int32) hw) (va_cwS 3 hts gX10_isWeight_X10_within rfl rfl rfl (by decide +kernel) ⟨Nat.le_of_ble_eq_true rfl, Nat.le_of_ble_eq_true rfl⟩) (hPreS hE hP hK hD hS hA [] (by decide) rfl rfl) rfl rfl hl.1 rfl (lv_room (Nat.le_of_ble_eq_true rfl)) dX10_isWeight_16 ⟨Nat.zero_le _, Nat.zero_le _⟩) hP hD hS hA rfl rfl (by decide) (by decide) (fun r_3 u H locs hw hP hD hS => ?_)
    have hP : va_P G vwCl [] H := hP.sub [] rfl
    have hD : va_D A [] := hD.sub [] (by decide) rfl
    have K_v_5 : ∀ v_5 : Int32, v_5 = (if r_3 = (0 : Int32) then (0 : Int32) else (1 : Int32)) → W p l e rm_X10_isWeight s m av below meth c H locs 0 0 Q (F0 m 27 ls [.int v_5]) := by
      intro v_5 ev_5
      replace hw := hw v_5 ev_5
      exact hRetZ (S := Unit) () hx hb hr hlocks hQ (by rw [ev_5]; (repeat' split) <;> first | exact Or.inl rfl | exact Or.inr rfl) hw hP hK hD hS dX10_isWeight_27
    refine lv_if_eq (pc := 19) (tgt := 26) hx hb dX10_isWeight_19 (by decide) (fun c_4 => ?_) (fun c_4 => ?_)
    · skip
      refine lv_iconst (pc := 26) (v := (0 : Int32)) hx hb dX10_isWeight_26 (by decide) ?_
      exact K_v_5 _ (by rw [if_pos c_4])
    · skip
      refine lv_iconst (pc := 22) (v := (1 : Int32)) hx hb dX10_isWeight_22 (by decide) ?_
      refine lv_goto (pc := 23) (tgt := 27) hx hb dX10_isWeight_23 (by decide) ?_
      exact K_v_5 _ (by rw [if_neg c_4])
def P_X10_isDraw (post : Int32 → Prop) (p0 : Int32) (p1 : Int32) (p2 : Int32) : Prop :=
  P_X10_within (fun r_1 => ((r_1 = (0 : Int32) → post (0 : Int32)) ∧ (¬ r_1 = (0 : Int32) → P_X10_within (fun r_3 => ((r_3 = (0 : Int32) → post (0 : Int32)) ∧ (¬ r_3 = (0 : Int32) → P_X10_within (fun r_5 => ∀ v_7 : Int32, v_7 = (if r_5 = (0 : Int32) then (0 : Int32) else (1 : Int32)) → post v_7) p2 (0 : Int32) p1))) p1 (1 : Int32) p0))) p0 (1 : Int32) (60 : Int32)
abbrev rm_X10_isDraw : Room := { frames := 1, cells := 0, slots := 0, locals := 22 }
set_option maxHeartbeats 4000000 in
set_option maxRecDepth 100000 in
theorem c_X10_isDraw (l : Launch) (G : va_G) (K : ClassId × ClassId × ClassId) (tb q : Nat → Nat) (sz : Nat) (post : Int32 → Prop) (p0 : Int32) (p1 : Int32) (p2 : Int32) (hw : P_X10_isDraw post p0 p1 p2) : Met l yX10_isDraw wsX10_isDraw rm_X10_isDraw (va_Pc [.int p0, .int p1, .int p2] (hPre G K tb [] sz)) (va_Qi (fun (r : Int32) (u : Unit) => post r) (fun u => hB G K (va_A [] sz) []) (va_A [] sz)) 0 0 (va_A [] sz) := by
  refine hMet (fun A => va_Qi (fun (r : Int32) (u : Unit) => post r) (fun u => hB G K A []) A) (by decide) rfl (Nat.le_of_ble_eq_true rfl) ?_
  intro p e s m av below meth c A Q ls hx hb hr hml hts hown hlocks hnm hA hP hK hD hS hE hQ hl
  have hts : ∀ w ∈ wsX10_isDraw, w.before av s = true := hts
  have hown : s.vm.findClass RX10 = some m.cls := hown
  have hl : lv_has ls 3 [(0, .int p0), (1, .int p1), (2, .int p2)] := hl
  unfold P_X10_isDraw at hw
  refine lv_iload_n (pc := 0) hx hb dX10_isDraw_0 rfl (lv_at hl 0 rfl) ?_
  refine lv_iconst (pc := 1) (v := (1 : Int32)) hx hb dX10_isDraw_1 (by decide) ?_
  refine lv_bipush (pc := 2) (v := (60 : Int32)) hx hb dX10_isDraw_2 (by decide) ?_
  refine hCallI (pc := 4) (wr := []) (wsf := fun (u : Unit) => []) [] [] (va_runS (As := [.int p0, .int (1 : Int32), .int (60 : Int32)]) (rest := []) ⟨hx, hb, hml, hown, hts⟩ (c_X10_within l G K tb q s.heap.size _ p0 (1 : Int32) (60 : Int32) hw) (va_cwS 3 hts gX10_isDraw_X10_within rfl rfl rfl (by decide +kernel) ⟨Nat.le_of_ble_eq_true rfl, Nat.le_of_ble_eq_true rfl⟩) (hPreS hE hP hK hD hS hA [] (by decide) rfl rfl) rfl rfl hl.1 rfl (lv_room (Nat.le_of_ble_eq_true rfl)) dX10_isDraw_4 ⟨Nat.zero_le _, Nat.zero_le _⟩) hP hD hS hA rfl rfl (by decide) (by decide) (fun r_1 u H locs hw hP hD hS => ?_)
  have hP : va_P G vwCl [] H := hP.sub [] rfl
  have hD : va_D A [] := hD.sub [] (by decide) rfl
  refine lv_if_eq (pc := 7) (tgt := 32) hx hb dX10_isDraw_7 (by decide) (fun c_2 => ?_) (fun c_2 => ?_)
  · replace hw := hw.1 c_2
    refine lv_iconst (pc := 32) (v := (0 : Int32)) hx hb dX10_isDraw_32 (by decide) ?_
    exact hRetZ (S := Unit) () hx hb hr hlocks hQ (Or.inl rfl) hw hP hK hD hS dX10_isDraw_33
  · replace hw := hw.2 c_2
    refine lv_iload_n (pc := 10) hx hb dX10_isDraw_10 rfl (lv_at hl 1 rfl) ?_
    refine lv_iconst (pc := 11) (v := (1 : Int32)) hx hb dX10_isDraw_11 (by decide) ?_
    refine lv_iload_n (pc := 12) hx hb dX10_isDraw_12 rfl (lv_at hl 0 rfl) ?_
    refine hCallI (pc := 13) (wr := []) (wsf := fun (u : Unit) => []) [] [] (va_runS (As := [.int p1, .int (1 : Int32), .int p0]) (rest := []) ⟨hx, hb, hml, hown, hts⟩ (c_X10_within l G K tb q H.size _ p1 (1 : Int32) p0 hw) (va_cwS 3 hts gX10_isDraw_X10_within rfl rfl rfl (by decide +kernel) ⟨Nat.le_of_ble_eq_true rfl, Nat.le_of_ble_eq_true rfl⟩) (hPreS hE hP hK hD hS hA [] (by decide) rfl rfl) rfl rfl hl.1 rfl (lv_room (Nat.le_of_ble_eq_true rfl)) dX10_isDraw_13 ⟨Nat.zero_le _, Nat.zero_le _⟩) hP hD hS hA rfl rfl (by decide) (by decide) (fun r_3 u H locs hw hP hD hS => ?_)
    have hP : va_P G vwCl [] H := hP.sub [] rfl
    have hD : va_D A [] := hD.sub [] (by decide) rfl
    refine lv_if_eq (pc := 16) (tgt := 32) hx hb dX10_isDraw_16 (by decide) (fun c_4 => ?_) (fun c_4 => ?_)
    · replace hw := hw.1 c_4
      refine lv_iconst (pc := 32) (v := (0 : Int32)) hx hb dX10_isDraw_32 (by decide) ?_
      exact hRetZ (S := Unit) () hx hb hr hlocks hQ (Or.inl rfl) hw hP hK hD hS dX10_isDraw_33
    · replace hw := hw.2 c_4
      refine lv_iload_n (pc := 19) hx hb dX10_isDraw_19 rfl (lv_at hl 2 rfl) ?_
      refine lv_iconst (pc := 20) (v := (0 : Int32)) hx hb dX10_isDraw_20 (by decide) ?_
      refine lv_iload_n (pc := 21) hx hb dX10_isDraw_21 rfl (lv_at hl 1 rfl) ?_
      refine hCallI (pc := 22) (wr := []) (wsf := fun (u : Unit) => []) [] [] (va_runS (As := [.int p2, .int (0 : Int32), .int p1]) (rest := []) ⟨hx, hb, hml, hown, hts⟩ (c_X10_within l G K tb q H.size _ p2 (0 : Int32) p1 hw) (va_cwS 3 hts gX10_isDraw_X10_within rfl rfl rfl (by decide +kernel) ⟨Nat.le_of_ble_eq_true rfl, Nat.le_of_ble_eq_true rfl⟩) (hPreS hE hP hK hD hS hA [] (by decide) rfl rfl) rfl rfl hl.1 rfl (lv_room (Nat.le_of_ble_eq_true rfl)) dX10_isDraw_22 ⟨Nat.zero_le _, Nat.zero_le _⟩) hP hD hS hA rfl rfl (by decide) (by decide) (fun r_5 u H locs hw hP hD hS => ?_)
      have hP : va_P G vwCl [] H := hP.sub [] rfl
      have hD : va_D A [] := hD.sub [] (by decide) rfl
      have K_v_7 : ∀ v_7 : Int32, v_7 = (if r_5 = (0 : Int32) then (0 : Int32) else (1 : Int32)) → W p l e rm_X10_isDraw s m av below meth c H locs 0 0 Q (F0 m 33 ls [.int v_7]) := by
        intro v_7 ev_7
        replace hw := hw v_7 ev_7
        exact hRetZ (S := Unit) () hx hb hr hlocks hQ (by rw [ev_7]; (repeat' split) <;> first | exact Or.inl rfl | exact Or.inr rfl) hw hP hK hD hS dX10_isDraw_33
      refine lv_if_eq (pc := 25) (tgt := 32) hx hb dX10_isDraw_25 (by decide) (fun c_6 => ?_) (fun c_6 => ?_)
      · skip
        refine lv_iconst (pc := 32) (v := (0 : Int32)) hx hb dX10_isDraw_32 (by decide) ?_
        exact K_v_7 _ (by rw [if_pos c_6])
      · skip
        refine lv_iconst (pc := 28) (v := (1 : Int32)) hx hb dX10_isDraw_28 (by decide) ?_
        refine lv_goto (pc := 29) (tgt := 33) hx hb dX10_isDraw_29 (by decide) ?_
        exact K_v_7 _ (by rw [if_neg c_6])
def P_X10_cell (post : Int32 → Prop) (p0 : Int32) (p1 : Int32) : Prop :=
  post ((p0 * (6 : Int32)) + p1)
abbrev rm_X10_cell : Room := { frames := 0, cells := 0, slots := 0, locals := 0 }
set_option maxHeartbeats 4000000 in
set_option maxRecDepth 100000 in
theorem c_X10_cell (l : Launch) (G : va_G) (K : ClassId × ClassId × ClassId) (tb q : Nat → Nat) (sz : Nat) (post : Int32 → Prop) (p0 : Int32) (p1 : Int32) (hw : P_X10_cell post p0 p1) : Met l yX10_cell wsX10_cell rm_X10_cell (va_Pc [.int p0, .int p1] (hPre G K tb [] sz)) (va_Qi (fun (r : Int32) (u : Unit) => post r) (fun u => hB G K (va_A [] sz) []) (va_A [] sz)) 0 0 (va_A [] sz) := by
  refine hMet (fun A => va_Qi (fun (r : Int32) (u : Unit) => post r) (fun u => hB G K A []) A) (by decide) rfl (Nat.le_of_ble_eq_true rfl) ?_
  intro p e s m av below meth c A Q ls hx hb hr hml hts hown hlocks hnm hA hP hK hD hS hE hQ hl
  have hts : ∀ w ∈ wsX10_cell, w.before av s = true := hts
  have hown : s.vm.findClass RX10 = some m.cls := hown
  have hl : lv_has ls 2 [(0, .int p0), (1, .int p1)] := hl
  unfold P_X10_cell at hw
  refine lv_iload_n (pc := 0) hx hb dX10_cell_0 rfl (lv_at hl 0 rfl) ?_
  refine lv_bipush (pc := 1) (v := (6 : Int32)) hx hb dX10_cell_1 (by decide) ?_
  refine lv_imul (pc := 3) hx hb dX10_cell_3 ?_
  refine lv_iload_n (pc := 4) hx hb dX10_cell_4 rfl (lv_at hl 1 rfl) ?_
  refine lv_iadd (pc := 5) hx hb dX10_cell_5 ?_
  exact hRetI (S := Unit) () hx hb hr hlocks hQ hw hP hK hD hS dX10_cell_6
def P_J6_bitCount_0f7a4 (post : Int32 → Prop) (p0 : Int32) : Prop :=
  ∀ y_1 : Int32, y_1 = (p0 - ((p0.toUInt32 >>> ((1 : Int32).toUInt32 &&& Int32.toUInt32 31)).toInt32 &&& (1431655765 : Int32))) → ∀ y_2 : Int32, y_2 = ((y_1 &&& (858993459 : Int32)) + ((y_1.toUInt32 >>> ((2 : Int32).toUInt32 &&& Int32.toUInt32 31)).toInt32 &&& (858993459 : Int32))) → ∀ y_3 : Int32, y_3 = ((y_2 + (y_2.toUInt32 >>> ((4 : Int32).toUInt32 &&& Int32.toUInt32 31)).toInt32) &&& (252645135 : Int32)) → ∀ y_4 : Int32, y_4 = (y_3 + (y_3.toUInt32 >>> ((8 : Int32).toUInt32 &&& Int32.toUInt32 31)).toInt32) → ∀ y_5 : Int32, y_5 = (y_4 + (y_4.toUInt32 >>> ((16 : Int32).toUInt32 &&& Int32.toUInt32 31)).toInt32) → post (y_5 &&& (63 : Int32))
abbrev rm_J6_bitCount_0f7a4 : Room := { frames := 0, cells := 0, slots := 0, locals := 0 }
set_option maxHeartbeats 4000000 in
set_option maxRecDepth 100000 in
theorem c_J6_bitCount_0f7a4 (l : Launch) (G : va_G) (K : ClassId × ClassId × ClassId) (tb q : Nat → Nat) (sz : Nat) (post : Int32 → Prop) (p0 : Int32) (hw : P_J6_bitCount_0f7a4 post p0) : Met l yJ6_bitCount_0f7a4 wsJ6_bitCount_0f7a4 rm_J6_bitCount_0f7a4 (va_Pc [.int p0] (hPre G K tb [] sz)) (va_Qi (fun (r : Int32) (u : Unit) => post r) (fun u => hB G K (va_A [] sz) []) (va_A [] sz)) 0 0 (va_A [] sz) := by
  refine hMet (fun A => va_Qi (fun (r : Int32) (u : Unit) => post r) (fun u => hB G K A []) A) (by decide) rfl (Nat.le_of_ble_eq_true rfl) ?_
  intro p e s m av below meth c A Q ls hx hb hr hml hts hown hlocks hnm hA hP hK hD hS hE hQ hl
  have hts : ∀ w ∈ wsJ6_bitCount_0f7a4, w.before av s = true := hts
  have hown : s.vm.findClass RJ6 = some m.cls := hown
  have hl : lv_has ls 1 [(0, .int p0)] := hl
  unfold P_J6_bitCount_0f7a4 at hw
  refine lv_iload_n (pc := 0) hx hb dJ6_bitCount_0f7a4_0 rfl (lv_at hl 0 rfl) ?_
  refine lv_iload_n (pc := 1) hx hb dJ6_bitCount_0f7a4_1 rfl (lv_at hl 0 rfl) ?_
  refine lv_iconst (pc := 2) (v := (1 : Int32)) hx hb dJ6_bitCount_0f7a4_2 (by decide) ?_
  refine lv_iushr (pc := 3) hx hb dJ6_bitCount_0f7a4_3 rfl ?_
  refine lv_ldcw (pc := 4) (v := (1431655765 : Int32)) hx hb hown (hts _ (List.mem_of_getElem? (i := 1) rfl)) dJ6_bitCount_0f7a4_4 ?_
  refine lv_iand (pc := 7) hx hb dJ6_bitCount_0f7a4_7 ?_
  refine lv_isub (pc := 8) hx hb dJ6_bitCount_0f7a4_8 ?_
  refine lv_topi (fun y_1 ey_1 => ?_)
  replace hw := hw y_1 ey_1
  refine lv_istore_n (pc := 9) (lv' := [(0, .int y_1)]) hx hb dJ6_bitCount_0f7a4_9 rfl hl (by decide) rfl (fun ls hl => ?_)
  refine lv_iload_n (pc := 10) hx hb dJ6_bitCount_0f7a4_10 rfl (lv_at hl 0 rfl) ?_
  refine lv_ldcw (pc := 11) (v := (858993459 : Int32)) hx hb hown (hts _ (List.mem_of_getElem? (i := 2) rfl)) dJ6_bitCount_0f7a4_11 ?_
  refine lv_iand (pc := 14) hx hb dJ6_bitCount_0f7a4_14 ?_
  refine lv_iload_n (pc := 15) hx hb dJ6_bitCount_0f7a4_15 rfl (lv_at hl 0 rfl) ?_
  refine lv_iconst (pc := 16) (v := (2 : Int32)) hx hb dJ6_bitCount_0f7a4_16 (by decide) ?_
  refine lv_iushr (pc := 17) hx hb dJ6_bitCount_0f7a4_17 rfl ?_
  refine lv_ldcw (pc := 18) (v := (858993459 : Int32)) hx hb hown (hts _ (List.mem_of_getElem? (i := 2) rfl)) dJ6_bitCount_0f7a4_18 ?_
  refine lv_iand (pc := 21) hx hb dJ6_bitCount_0f7a4_21 ?_
  refine lv_iadd (pc := 22) hx hb dJ6_bitCount_0f7a4_22 ?_
  refine lv_topi (fun y_2 ey_2 => ?_)
  replace hw := hw y_2 ey_2
  refine lv_istore_n (pc := 23) (lv' := [(0, .int y_2)]) hx hb dJ6_bitCount_0f7a4_23 rfl hl (by decide) rfl (fun ls hl => ?_)
  refine lv_iload_n (pc := 24) hx hb dJ6_bitCount_0f7a4_24 rfl (lv_at hl 0 rfl) ?_
  refine lv_iload_n (pc := 25) hx hb dJ6_bitCount_0f7a4_25 rfl (lv_at hl 0 rfl) ?_
  refine lv_iconst (pc := 26) (v := (4 : Int32)) hx hb dJ6_bitCount_0f7a4_26 (by decide) ?_
  refine lv_iushr (pc := 27) hx hb dJ6_bitCount_0f7a4_27 rfl ?_
  refine lv_iadd (pc := 28) hx hb dJ6_bitCount_0f7a4_28 ?_
  refine lv_ldcw (pc := 29) (v := (252645135 : Int32)) hx hb hown (hts _ (List.mem_of_getElem? (i := 3) rfl)) dJ6_bitCount_0f7a4_29 ?_
  refine lv_iand (pc := 32) hx hb dJ6_bitCount_0f7a4_32 ?_
  refine lv_topi (fun y_3 ey_3 => ?_)
  replace hw := hw y_3 ey_3
  refine lv_istore_n (pc := 33) (lv' := [(0, .int y_3)]) hx hb dJ6_bitCount_0f7a4_33 rfl hl (by decide) rfl (fun ls hl => ?_)
  refine lv_iload_n (pc := 34) hx hb dJ6_bitCount_0f7a4_34 rfl (lv_at hl 0 rfl) ?_
  refine lv_iload_n (pc := 35) hx hb dJ6_bitCount_0f7a4_35 rfl (lv_at hl 0 rfl) ?_
  refine lv_bipush (pc := 36) (v := (8 : Int32)) hx hb dJ6_bitCount_0f7a4_36 (by decide) ?_
  refine lv_iushr (pc := 38) hx hb dJ6_bitCount_0f7a4_38 rfl ?_
  refine lv_iadd (pc := 39) hx hb dJ6_bitCount_0f7a4_39 ?_
  refine lv_topi (fun y_4 ey_4 => ?_)
  replace hw := hw y_4 ey_4
  refine lv_istore_n (pc := 40) (lv' := [(0, .int y_4)]) hx hb dJ6_bitCount_0f7a4_40 rfl hl (by decide) rfl (fun ls hl => ?_)
  refine lv_iload_n (pc := 41) hx hb dJ6_bitCount_0f7a4_41 rfl (lv_at hl 0 rfl) ?_
  refine lv_iload_n (pc := 42) hx hb dJ6_bitCount_0f7a4_42 rfl (lv_at hl 0 rfl) ?_
  refine lv_bipush (pc := 43) (v := (16 : Int32)) hx hb dJ6_bitCount_0f7a4_43 (by decide) ?_
  refine lv_iushr (pc := 45) hx hb dJ6_bitCount_0f7a4_45 rfl ?_
  refine lv_iadd (pc := 46) hx hb dJ6_bitCount_0f7a4_46 ?_
  refine lv_topi (fun y_5 ey_5 => ?_)
  replace hw := hw y_5 ey_5
  refine lv_istore_n (pc := 47) (lv' := [(0, .int y_5)]) hx hb dJ6_bitCount_0f7a4_47 rfl hl (by decide) rfl (fun ls hl => ?_)
  refine lv_iload_n (pc := 48) hx hb dJ6_bitCount_0f7a4_48 rfl (lv_at hl 0 rfl) ?_
  refine lv_bipush (pc := 49) (v := (63 : Int32)) hx hb dJ6_bitCount_0f7a4_49 (by decide) ?_
  refine lv_iand (pc := 51) hx hb dJ6_bitCount_0f7a4_51 ?_
  exact hRetI (S := Unit) () hx hb hr hlocks hQ hw hP hK hD hS dJ6_bitCount_0f7a4_52
def P_J7_fill_53178 (post : (Nat → Int32) → Prop) (p1 : Int32) (pn : Nat) (arr : Nat → Int32) : Prop :=
  ∀ (X5 : Int32 → Int32 → (Nat → Int32) → Prop),
  (∀ (x2 : Int32) (x3 : Int32) (arr : Nat → Int32), (((x3 ≤ x2 → post arr) ∧ (¬ x3 ≤ x2 → vp_in x2 pn ∧ ∀ arr_4 : Nat → Int32, arr_4 = upd arr x2.toNatClampNeg p1 → ∀ y_5 : Int32, y_5 = (x2 + (1 : Int32)) → X5 y_5 x3 arr_4))) → X5 x2 x3 arr) →
  ∀ y_1 : Int32, y_1 = (Int32.ofNat pn) → X5 (0 : Int32) y_1 arr
abbrev rm_J7_fill_53178 : Room := { frames := 0, cells := 0, slots := 0, locals := 0 }
set_option maxHeartbeats 4000000 in
set_option maxRecDepth 100000 in
theorem c_J7_fill_53178 (l : Launch) (G : va_G) (K : ClassId × ClassId × ClassId) (tb q : Nat → Nat) (sz : Nat) (pa pn : Nat) (post : (Nat → Int32) → Prop) (p1 : Int32) (arr : Nat → Int32) (hw : P_J7_fill_53178 post p1 pn arr) : Met l yJ7_fill_53178 wsJ7_fill_53178 rm_J7_fill_53178 (va_Pc [.ref pa, .int p1] (hPre G K tb [aI K pa pn arr] sz)) (va_Qv (fun (u : (Nat → Int32)) => post u) (fun u => hB G K (va_A [aI K pa pn arr] sz) [aI K pa pn u]) (va_A [aI K pa pn arr] sz)) 0 0 (va_A [aI K pa pn arr] sz) := by
  refine hMet (fun A => va_Qv (fun (u : (Nat → Int32)) => post u) (fun u => hB G K A [aI K pa pn u]) A) (by decide) rfl (Nat.le_of_ble_eq_true rfl) ?_
  intro p e s m av below meth c A Q ls hx hb hr hml hts hown hlocks hnm hA hP hK hD hS hE hQ hl
  have hts : ∀ w ∈ wsJ7_fill_53178, w.before av s = true := hts
  have hown : s.vm.findClass RJ7 = some m.cls := hown
  have hl : lv_has ls 4 [(0, .ref pa), (1, .int p1)] := hl
  unfold P_J7_fill_53178 at hw
  replace hw := hw (fun (x2 : Int32) (x3 : Int32) (arr : Nat → Int32) => ∀ (H : Heap) (locs : List Loc) (ls : Array Slot), va_P G vwCl [aI K pa pn arr] H → va_D A [aI K pa pn arr] → va_S A s.heap H locs → lv_has ls 4 [(0, .ref pa), (1, .int p1), (2, .int x2), (3, .int x3)] → W p l e rm_J7_fill_53178 s m av below meth c H locs 0 0 Q (F0 m 5 ls []))
  replace hw := hw (by
    intro x2 x3 arr hw H locs ls hP hD hS hl
    refine lv_iload_n (pc := 5) hx hb dJ7_fill_53178_5 rfl (lv_at hl 2 rfl) ?_
    refine lv_iload_n (pc := 6) hx hb dJ7_fill_53178_6 rfl (lv_at hl 3 rfl) ?_
    refine lv_icmp_ge (pc := 7) (tgt := 20) hx hb dJ7_fill_53178_7 (by decide) (fun c_2 => ?_) (fun c_2 => ?_)
    · replace hw := hw.1 c_2
      exact hRetV (S := (Nat → Int32)) arr hx hb hr hlocks hQ hw hP hK hD hS dJ7_fill_53178_20
    · replace hw := hw.2 c_2
      refine lv_aload_n (pc := 10) hx hb dJ7_fill_53178_10 rfl (lv_at hl 0 rfl) ?_
      refine lv_iload_n (pc := 11) hx hb dJ7_fill_53178_11 rfl (lv_at hl 2 rfl) ?_
      refine lv_iload_n (pc := 12) hx hb dJ7_fill_53178_12 rfl (lv_at hl 1 rfl) ?_
      obtain ⟨h_3, hw⟩ := hw
      refine va_iast (pc := 13) hx hb hK hP hD hS 0 0 rfl rfl h_3 dJ7_fill_53178_13 (fun H locs hP hD hS => ?_)
      obtain ⟨arr_4, earr_4⟩ : ∃ z : Nat → Int32, z = upd arr x2.toNatClampNeg p1 := ⟨_, rfl⟩
      have hP : va_P G vwCl [aI K pa pn arr_4] H := by rw [earr_4]; exact hP
      have hD : va_D A [aI K pa pn arr_4] := by rw [earr_4]; exact hD
      replace hw := hw arr_4 earr_4
      obtain ⟨y_5, ey_5⟩ : ∃ z : Int32, z = (x2 + (1 : Int32)) := ⟨_, rfl⟩
      replace hw := hw y_5 ey_5
      refine lv_iinc (pc := 14) (v := y_5) (lv' := [(2, .int y_5), (0, .ref pa), (1, .int p1), (3, .int x3)]) hx hb dJ7_fill_53178_14 hl (k := 2) rfl (by rw [ey_5]; rfl) (by decide) rfl (fun ls hl => ?_)
      refine lv_goto (pc := 17) (tgt := 5) hx hb dJ7_fill_53178_17 (by decide) ?_
      exact hw _ _ _ hP hD hS (lv_sub hl [1, 2, 0, 3] rfl))
  refine lv_iconst (pc := 0) (v := (0 : Int32)) hx hb dJ7_fill_53178_0 (by decide) ?_
  refine lv_istore_n (pc := 1) (lv' := [(2, .int (0 : Int32)), (0, .ref pa), (1, .int p1)]) hx hb dJ7_fill_53178_1 rfl hl (by decide) rfl (fun ls hl => ?_)
  refine lv_aload_n (pc := 2) hx hb dJ7_fill_53178_2 rfl (lv_at hl 1 rfl) ?_
  refine va_alen (pc := 3) hx hb hK hP 0 0 rfl rfl rfl dJ7_fill_53178_3 ?_
  refine lv_topi (fun y_1 ey_1 => ?_)
  replace hw := hw y_1 ey_1
  refine lv_istore_n (pc := 4) (lv' := [(3, .int y_1), (2, .int (0 : Int32)), (0, .ref pa), (1, .int p1)]) hx hb dJ7_fill_53178_4 rfl hl (by decide) rfl (fun ls hl => ?_)
  exact hw _ _ _ hP hD hS (lv_sub hl [2, 3, 1, 0] rfl)
def P_J7_fill_d0a16 (post : (Nat → Int64) → Prop) (p1 : Int64) (pn : Nat) (arr : Nat → Int64) : Prop :=
  ∀ (X6 : Int32 → Int32 → (Nat → Int64) → Prop),
  (∀ (x3 : Int32) (x4 : Int32) (arr : Nat → Int64), (((x4 ≤ x3 → post arr) ∧ (¬ x4 ≤ x3 → vp_in x3 pn ∧ ∀ arr_4 : Nat → Int64, arr_4 = vp_updL arr x3.toNatClampNeg p1 → ∀ y_5 : Int32, y_5 = (x3 + (1 : Int32)) → X6 y_5 x4 arr_4))) → X6 x3 x4 arr) →
  ∀ y_1 : Int32, y_1 = (Int32.ofNat pn) → X6 (0 : Int32) y_1 arr
abbrev rm_J7_fill_d0a16 : Room := { frames := 0, cells := 0, slots := 0, locals := 0 }
set_option maxHeartbeats 4000000 in
set_option maxRecDepth 100000 in
theorem c_J7_fill_d0a16 (l : Launch) (G : va_G) (K : ClassId × ClassId × ClassId) (tb q : Nat → Nat) (sz : Nat) (pa pn : Nat) (post : (Nat → Int64) → Prop) (p1 : Int64) (arr : Nat → Int64) (hw : P_J7_fill_d0a16 post p1 pn arr) : Met l yJ7_fill_d0a16 wsJ7_fill_d0a16 rm_J7_fill_d0a16 (va_Pc [.ref pa, .long p1] (hPre G K tb [aJ K pa pn arr] sz)) (va_Qv (fun (u : (Nat → Int64)) => post u) (fun u => hB G K (va_A [aJ K pa pn arr] sz) [aJ K pa pn u]) (va_A [aJ K pa pn arr] sz)) 0 0 (va_A [aJ K pa pn arr] sz) := by
  refine hMet (fun A => va_Qv (fun (u : (Nat → Int64)) => post u) (fun u => hB G K A [aJ K pa pn u]) A) (by decide) rfl (Nat.le_of_ble_eq_true rfl) ?_
  intro p e s m av below meth c A Q ls hx hb hr hml hts hown hlocks hnm hA hP hK hD hS hE hQ hl
  have hts : ∀ w ∈ wsJ7_fill_d0a16, w.before av s = true := hts
  have hown : s.vm.findClass RJ7 = some m.cls := hown
  have hl : lv_has ls 5 [(0, .ref pa), (1, .long p1)] := hl
  unfold P_J7_fill_d0a16 at hw
  replace hw := hw (fun (x3 : Int32) (x4 : Int32) (arr : Nat → Int64) => ∀ (H : Heap) (locs : List Loc) (ls : Array Slot), va_P G vwCl [aJ K pa pn arr] H → va_D A [aJ K pa pn arr] → va_S A s.heap H locs → lv_has ls 5 [(0, .ref pa), (1, .long p1), (3, .int x3), (4, .int x4)] → W p l e rm_J7_fill_d0a16 s m av below meth c H locs 0 0 Q (F0 m 6 ls []))
  replace hw := hw (by
    intro x3 x4 arr hw H locs ls hP hD hS hl
    refine lv_iload_n (pc := 6) hx hb dJ7_fill_d0a16_6 rfl (lv_at hl 2 rfl) ?_
    refine lv_iload (pc := 7) hx hb dJ7_fill_d0a16_7 (lv_at hl 3 rfl) ?_
    refine lv_icmp_ge (pc := 9) (tgt := 22) hx hb dJ7_fill_d0a16_9 (by decide) (fun c_2 => ?_) (fun c_2 => ?_)
    · replace hw := hw.1 c_2
      exact hRetV (S := (Nat → Int64)) arr hx hb hr hlocks hQ hw hP hK hD hS dJ7_fill_d0a16_22
    · replace hw := hw.2 c_2
      refine lv_aload_n (pc := 12) hx hb dJ7_fill_d0a16_12 rfl (lv_at hl 0 rfl) ?_
      refine lv_iload_n (pc := 13) hx hb dJ7_fill_d0a16_13 rfl (lv_at hl 2 rfl) ?_
      refine lv_lload_n (pc := 14) hx hb dJ7_fill_d0a16_14 rfl (lv_at hl 1 rfl) ?_
      obtain ⟨h_3, hw⟩ := hw
      refine va_last (pc := 15) hx hb hK hP hD hS 0 1 rfl rfl h_3 dJ7_fill_d0a16_15 (fun H locs hP hD hS => ?_)
      obtain ⟨arr_4, earr_4⟩ : ∃ z : Nat → Int64, z = vp_updL arr x3.toNatClampNeg p1 := ⟨_, rfl⟩
      have hP : va_P G vwCl [aJ K pa pn arr_4] H := by rw [earr_4]; exact hP
      have hD : va_D A [aJ K pa pn arr_4] := by rw [earr_4]; exact hD
      replace hw := hw arr_4 earr_4
      obtain ⟨y_5, ey_5⟩ : ∃ z : Int32, z = (x3 + (1 : Int32)) := ⟨_, rfl⟩
      replace hw := hw y_5 ey_5
      refine lv_iinc (pc := 16) (v := y_5) (lv' := [(3, .int y_5), (0, .ref pa), (1, .long p1), (4, .int x4)]) hx hb dJ7_fill_d0a16_16 hl (k := 2) rfl (by rw [ey_5]; rfl) (by decide) rfl (fun ls hl => ?_)
      refine lv_goto (pc := 19) (tgt := 6) hx hb dJ7_fill_d0a16_19 (by decide) ?_
      exact hw _ _ _ hP hD hS (lv_sub hl [1, 2, 0, 3] rfl))
  refine lv_iconst (pc := 0) (v := (0 : Int32)) hx hb dJ7_fill_d0a16_0 (by decide) ?_
  refine lv_istore_n (pc := 1) (lv' := [(3, .int (0 : Int32)), (0, .ref pa), (1, .long p1)]) hx hb dJ7_fill_d0a16_1 rfl hl (by decide) rfl (fun ls hl => ?_)
  refine lv_aload_n (pc := 2) hx hb dJ7_fill_d0a16_2 rfl (lv_at hl 1 rfl) ?_
  refine va_alen (pc := 3) hx hb hK hP 0 1 rfl rfl rfl dJ7_fill_d0a16_3 ?_
  refine lv_topi (fun y_1 ey_1 => ?_)
  replace hw := hw y_1 ey_1
  refine lv_istore (pc := 4) (lv' := [(4, .int y_1), (3, .int (0 : Int32)), (0, .ref pa), (1, .long p1)]) hx hb dJ7_fill_d0a16_4 hl (by decide) rfl (fun ls hl => ?_)
  exact hw _ _ _ hP hD hS (lv_sub hl [2, 3, 1, 0] rfl)
