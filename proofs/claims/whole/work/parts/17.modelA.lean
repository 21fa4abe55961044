def P_X11_in (post : Int32 → Prop) (p0 : Int64) (p2 : Int64) (p4 : Int64) : Prop :=
  ∀ v_3 : Int32, v_3 = (if (lg_cmp p0 p2) < (0 : Int32) then (0 : Int32) else (if (0 : Int32) < (lg_cmp p0 p4) then (0 : Int32) else (1 : Int32))) → post v_3
abbrev rm_X11_in : Room := { frames := 0, cells := 0, slots := 0, locals := 0 }
set_option maxHeartbeats 4000000 in
set_option maxRecDepth 100000 in
theorem c_X11_in (l : Launch) (G : va_G) (K : ClassId × ClassId × ClassId) (tb q : Nat → Nat) (sz : Nat) (post : Int32 → Prop) (p0 : Int64) (p2 : Int64) (p4 : Int64) (hw : P_X11_in post p0 p2 p4) : Met l yX11_in wsX11_in rm_X11_in (va_Pc [.long p0, .long p2, .long p4] (hPre G K tb [] sz)) (va_Qi (fun (r : Int32) (u : Unit) => post r) (fun u => hB G K (va_A [] sz) []) (va_A [] sz)) 0 0 (va_A [] sz) := by
  refine hMet (fun A => va_Qi (fun (r : Int32) (u : Unit) => post r) (fun u => hB G K A []) A) (by decide) rfl (Nat.le_of_ble_eq_true rfl) ?_
  intro p e s m av below meth c A Q ls hx hb hr hml hts hown hlocks hnm hA hP hK hD hS hE hQ hl
  have hts : ∀ w ∈ wsX11_in, w.before av s = true := hts
  have hown : s.vm.findClass RX11 = some m.cls := hown
  have hl : lv_has ls 6 [(0, .long p0), (2, .long p2), (4, .long p4)] := hl
  unfold P_X11_in at hw
  refine lv_lload_n (pc := 0) hx hb dX11_in_0 rfl (lv_at hl 0 rfl) ?_
  refine lv_lload_n (pc := 1) hx hb dX11_in_1 rfl (lv_at hl 1 rfl) ?_
  refine W.lcmp (pc := 2) hx hb dX11_in_2 ?_
  have K_v_3 : ∀ v_3 : Int32, v_3 = (if (lg_cmp p0 p2) < (0 : Int32) then (0 : Int32) else (if (0 : Int32) < (lg_cmp p0 p4) then (0 : Int32) else (1 : Int32))) → W p l e rm_X11_in s m av below meth c s.heap [] 0 0 Q (F0 m 18 ls [.int v_3]) := by
    intro v_3 ev_3
    replace hw := hw v_3 ev_3
    exact hRetZ (S := Unit) () hx hb hr hlocks hQ (by rw [ev_3]; (repeat' split) <;> first | exact Or.inl rfl | exact Or.inr rfl) hw hP hK hD hS dX11_in_18
  refine lv_if_lt (pc := 3) (tgt := 17) hx hb dX11_in_3 (by decide) (fun c_1 => ?_) (fun c_1 => ?_)
  · skip
    refine lv_iconst (pc := 17) (v := (0 : Int32)) hx hb dX11_in_17 (by decide) ?_
    exact K_v_3 _ (by rw [if_pos c_1])
  · skip
    refine lv_lload_n (pc := 6) hx hb dX11_in_6 rfl (lv_at hl 0 rfl) ?_
    refine lv_lload (pc := 7) hx hb dX11_in_7 (lv_at hl 2 rfl) ?_
    refine W.lcmp (pc := 9) hx hb dX11_in_9 ?_
    refine lv_if_gt (pc := 10) (tgt := 17) hx hb dX11_in_10 (by decide) (fun c_2 => ?_) (fun c_2 => ?_)
    · skip
      refine lv_iconst (pc := 17) (v := (0 : Int32)) hx hb dX11_in_17 (by decide) ?_
      exact K_v_3 _ (by rw [if_neg c_1, if_pos c_2])
    · skip
      refine lv_iconst (pc := 13) (v := (1 : Int32)) hx hb dX11_in_13 (by decide) ?_
      refine lv_goto (pc := 14) (tgt := 18) hx hb dX11_in_14 (by decide) ?_
      exact K_v_3 _ (by rw [if_neg c_1, if_neg c_2])
def P_X11_isHouse (post : Int32 → Prop) (p0 : Int32) : Prop :=
  P_X11_in (fun r_1 => (r_1 = 0 ∨ r_1 = 1) ∧ post r_1) p0.toInt64 (0 : Int64) (4 : Int64)
abbrev rm_X11_isHouse : Room := { frames := 1, cells := 0, slots := 0, locals := 25 }
set_option maxHeartbeats 4000000 in
set_option maxRecDepth 100000 in
theorem c_X11_isHouse (l : Launch) (G : va_G) (K : ClassId × ClassId × ClassId) (tb q : Nat → Nat) (sz : Nat) (post : Int32 → Prop) (p0 : Int32) (hw : P_X11_isHouse post p0) : Met l yX11_isHouse wsX11_isHouse rm_X11_isHouse (va_Pc [.int p0] (hPre G K tb [] sz)) (va_Qi (fun (r : Int32) (u : Unit) => post r) (fun u => hB G K (va_A [] sz) []) (va_A [] sz)) 0 0 (va_A [] sz) := by
  refine hMet (fun A => va_Qi (fun (r : Int32) (u : Unit) => post r) (fun u => hB G K A []) A) (by decide) rfl (Nat.le_of_ble_eq_true rfl) ?_
  intro p e s m av below meth c A Q ls hx hb hr hml hts hown hlocks hnm hA hP hK hD hS hE hQ hl
  have hts : ∀ w ∈ wsX11_isHouse, w.before av s = true := hts
  have hown : s.vm.findClass RX11 = some m.cls := hown
  have hl : lv_has ls 1 [(0, .int p0)] := hl
  unfold P_X11_isHouse at hw
  refine lv_iload_n (pc := 0) hx hb dX11_isHouse_0 rfl (lv_at hl 0 rfl) ?_
  refine lv_i2l (pc := 1) hx hb dX11_isHouse_1 rfl ?_
  refine lv_lconst (pc := 2) (v := (0 : Int64)) hx hb dX11_isHouse_2 (by decide) ?_
  refine lv_ldc2 (pc := 3) (v := (4 : Int64)) hx hb hown (hts _ (List.mem_of_getElem? (i := 1) rfl)) dX11_isHouse_3 ?_
  refine hCallI (pc := 6) (wr := []) (wsf := fun (u : Unit) => []) [] [] (va_runS (As := [.long p0.toInt64, .long (0 : Int64), .long (4 : Int64)]) (rest := []) ⟨hx, hb, hml, hown, hts⟩ (c_X11_in l G K tb q s.heap.size _ p0.toInt64 (0 : Int64) (4 : Int64) hw) (va_cwS 3 hts gX11_isHouse_X11_in rfl rfl rfl (by decide +kernel) ⟨Nat.le_of_ble_eq_true rfl, Nat.le_of_ble_eq_true rfl⟩) (hPreS hE hP hK hD hS hA [] (by decide) rfl rfl) rfl rfl hl.1 rfl (lv_room (Nat.le_of_ble_eq_true rfl)) dX11_isHouse_6 ⟨Nat.zero_le _, Nat.zero_le _⟩) hP hD hS hA rfl rfl (by decide) (by decide) (fun r_1 u H locs hw hP hD hS => ?_)
  have hP : va_P G vwCl [] H := hP.sub [] rfl
  have hD : va_D A [] := hD.sub [] (by decide) rfl
  obtain ⟨h_2, hw⟩ := hw
  exact hRetZ (S := Unit) () hx hb hr hlocks hQ h_2 hw hP hK hD hS dX11_isHouse_9
def P_X11_isKind (post : Int32 → Prop) (p1 : Int32) (m_kinds : Int32) : Prop :=
  P_X11_in (fun r_1 => (r_1 = 0 ∨ r_1 = 1) ∧ post r_1) p1.toInt64 (0 : Int64) (m_kinds - (1 : Int32)).toInt64
abbrev rm_X11_isKind : Room := { frames := 1, cells := 0, slots := 0, locals := 25 }
theorem iw_X11_isKind_X11 : ∀ w ∈ wsX110, w ∈ wsX11_isKind := by decide +kernel
set_option maxHeartbeats 4000000 in
set_option maxRecDepth 100000 in
theorem c_X11_isKind (l : Launch) (G : va_G) (K : ClassId × ClassId × ClassId) (tb q : Nat → Nat) (sz : Nat) (m_weighings : Int32) (m_spanLow : Int32) (m_spanHigh : Int32) (m_events : Int32) (m_days : Int32) (m_edges : Int32) (m_crew : Int32) (m_breakages : Int32) (post : Int32 → Prop) (p1 : Int32) (m_kinds : Int32) (hw : P_X11_isKind post p1 m_kinds) : Met l yX11_isKind wsX11_isKind rm_X11_isKind (va_Pc [.ref (q 0), .int p1] (hPre G K tb [oX11 q m_kinds m_weighings m_spanLow m_spanHigh m_events m_days m_edges m_crew m_breakages] sz)) (va_Qi (fun (r : Int32) (u : Unit) => post r) (fun u => hB G K (va_A [oX11 q m_kinds m_weighings m_spanLow m_spanHigh m_events m_days m_edges m_crew m_breakages] sz) [oX11 q m_kinds m_weighings m_spanLow m_spanHigh m_events m_days m_edges m_crew m_breakages]) (va_A [oX11 q m_kinds m_weighings m_spanLow m_spanHigh m_events m_days m_edges m_crew m_breakages] sz)) 0 0 (va_A [oX11 q m_kinds m_weighings m_spanLow m_spanHigh m_events m_days m_edges m_crew m_breakages] sz) := by
  refine hMet (fun A => va_Qi (fun (r : Int32) (u : Unit) => post r) (fun u => hB G K A [oX11 q m_kinds m_weighings m_spanLow m_spanHigh m_events m_days m_edges m_crew m_breakages]) A) (by decide) rfl (Nat.le_of_ble_eq_true rfl) ?_
  intro p e s m av below meth c A Q ls hx hb hr hml hts hown hlocks hnm hA hP hK hD hS hE hQ hl
  have hts : ∀ w ∈ wsX11_isKind, w.before av s = true := hts
  have hown : s.vm.findClass RX11 = some m.cls := hown
  have hl : lv_has ls 2 [(0, .ref (q 0)), (1, .int p1)] := hl
  unfold P_X11_isKind at hw
  refine lv_iload_n (pc := 0) hx hb dX11_isKind_0 rfl (lv_at hl 1 rfl) ?_
  refine lv_i2l (pc := 1) hx hb dX11_isKind_1 rfl ?_
  refine lv_lconst (pc := 2) (v := (0 : Int64)) hx hb dX11_isKind_2 (by decide) ?_
  refine lv_aload_n (pc := 3) hx hb dX11_isKind_3 rfl (lv_at hl 0 rfl) ?_
  refine va_get (pc := 4) (D := G) (ci := 11) (v := .int m_kinds) (C := RX11) (T := TX11) (N := 45) hx hb hts iw_X11_isKind_X11 hown hK hP 0 rfl rfl 0 (by decide) (hts _ (List.mem_of_getElem? (i := 1) rfl)) (fun _ h9 => h9) rfl dX11_isKind_4 ?_
  refine lv_iconst (pc := 7) (v := (1 : Int32)) hx hb dX11_isKind_7 (by decide) ?_
  refine lv_isub (pc := 8) hx hb dX11_isKind_8 ?_
  refine lv_i2l (pc := 9) hx hb dX11_isKind_9 rfl ?_
  refine hCallI (pc := 10) (wr := [oX11 q m_kinds m_weighings m_spanLow m_spanHigh m_events m_days m_edges m_crew m_breakages]) (wsf := fun (u : Unit) => []) [] [0] (va_runS (As := [.long p1.toInt64, .long (0 : Int64), .long (m_kinds - (1 : Int32)).toInt64]) (rest := []) ⟨hx, hb, hml, hown, hts⟩ (c_X11_in l G K tb q s.heap.size _ p1.toInt64 (0 : Int64) (m_kinds - (1 : Int32)).toInt64 hw) (va_cwS 3 hts gX11_isKind_X11_in rfl rfl rfl (by decide +kernel) ⟨Nat.le_of_ble_eq_true rfl, Nat.le_of_ble_eq_true rfl⟩) (hPreS hE hP hK hD hS hA [] (by decide) rfl rfl) rfl rfl hl.1 rfl (lv_room (Nat.le_of_ble_eq_true rfl)) dX11_isKind_10 ⟨Nat.zero_le _, Nat.zero_le _⟩) hP hD hS hA rfl rfl (by decide) (by decide) (fun r_1 u H locs hw hP hD hS => ?_)
  have hP : va_P G vwCl [oX11 q m_kinds m_weighings m_spanLow m_spanHigh m_events m_days m_edges m_crew m_breakages] H := hP.sub [0] rfl
  have hD : va_D A [oX11 q m_kinds m_weighings m_spanLow m_spanHigh m_events m_days m_edges m_crew m_breakages] := hD.sub [0] (by decide) rfl
  obtain ⟨h_2, hw⟩ := hw
  exact hRetZ (S := Unit) () hx hb hr hlocks hQ h_2 hw hP hK hD hS dX11_isKind_13
def P_X11_isWeight (post : Int32 → Prop) (p0 : Int32) (p1 : Int32) : Prop :=
  P_X11_in (fun r_1 => ((r_1 = (0 : Int32) → post (0 : Int32)) ∧ (¬ r_1 = (0 : Int32) → P_X11_in (fun r_3 => ∀ v_5 : Int32, v_5 = (if r_3 = (0 : Int32) then (0 : Int32) else (1 : Int32)) → post v_5) p1.toInt64 (0 : Int64) (500 : Int64)))) p0.toInt64 (0 : Int64) (2000000 : Int64)
abbrev rm_X11_isWeight : Room := { frames := 1, cells := 0, slots := 0, locals := 25 }
set_option maxHeartbeats 4000000 in
set_option maxRecDepth 100000 in
theorem c_X11_isWeight (l : Launch) (G : va_G) (K : ClassId × ClassId × ClassId) (tb q : Nat → Nat) (sz : Nat) (post : Int32 → Prop) (p0 : Int32) (p1 : Int32) (hw : P_X11_isWeight post p0 p1) : Met l yX11_isWeight wsX11_isWeight rm_X11_isWeight (va_Pc [.int p0, .int p1] (hPre G K tb [] sz)) (va_Qi (fun (r : Int32) (u : Unit) => post r) (fun u => hB G K (va_A [] sz) []) (va_A [] sz)) 0 0 (va_A [] sz) := by
  refine hMet (fun A => va_Qi (fun (r : Int32) (u : Unit) => post r) (fun u => hB G K A []) A) (by decide) rfl (Nat.le_of_ble_eq_true rfl) ?_
  intro p e s m av below meth c A Q ls hx hb hr hml hts hown hlocks hnm hA hP hK hD hS hE hQ hl
  have hts : ∀ w ∈ wsX11_isWeight, w.before av s = true := hts
  have hown : s.vm.findClass RX11 = some m.cls := hown
  have hl : lv_has ls 2 [(0, .int p0), (1, .int p1)] := hl
  unfold P_X11_isWeight at hw
  refine lv_iload_n (pc := 0) hx hb dX11_isWeight_0 rfl (lv_at hl 0 rfl) ?_
  refine lv_i2l (pc := 1) hx hb dX11_isWeight_1 rfl ?_
  refine lv_lconst (pc := 2) (v := (0 : Int64)) hx hb dX11_isWeight_2 (by decide) ?_
  refine lv_ldc2 (pc := 3) (v := (2000000 : Int64)) hx hb hown (hts _ (List.mem_of_getElem? (i := 1) rfl)) dX11_isWeight_3 ?_
  refine hCallI (pc := 6) (wr := []) (wsf := fun (u : Unit) => []) [] [] (va_runS (As := [.long p0.toInt64, .long (0 : Int64), .long (2000000 : Int64)]) (rest := []) ⟨hx, hb, hml, hown, hts⟩ (c_X11_in l G K tb q s.heap.size _ p0.toInt64 (0 : Int64) (2000000 : Int64) hw) (va_cwS 3 hts gX11_isWeight_X11_in rfl rfl rfl (by decide +kernel) ⟨Nat.le_of_ble_eq_true rfl, Nat.le_of_ble_eq_true rfl⟩) (hPreS hE hP hK hD hS hA [] (by decide) rfl rfl) rfl rfl hl.1 rfl (lv_room (Nat.le_of_ble_eq_true rfl)) dX11_isWeight_6 ⟨Nat.zero_le _, Nat.zero_le _⟩) hP hD hS hA rfl rfl (by decide) (by decide) (fun r_1 u H locs hw hP hD hS => ?_)
  have hP : va_P G vwCl [] H := hP.sub [] rfl
  have hD : va_D A [] := hD.sub [] (by decide) rfl
  refine lv_if_eq (pc := 9) (tgt := 28) hx hb dX11_isWeight_9 (by decide) (fun c_2 => ?_) (fun c_2 => ?_)
  · replace hw := hw.1 c_2
    refine lv_iconst (pc := 28) (v := (0 : Int32)) hx hb dX11_isWeight_28 (by decide) ?_
    exact hRetZ (S := Unit) () hx hb hr hlocks hQ (Or.inl rfl) hw hP hK hD hS dX11_isWeight_29
  · replace hw := hw.2 c_2
    refine lv_iload_n (pc := 12) hx hb dX11_isWeight_12 rfl (lv_at hl 1 rfl) ?_
    refine lv_i2l (pc := 13) hx hb dX11_isWeight_13 rfl ?_
    refine lv_lconst (pc := 14) (v := (0 : Int64)) hx hb dX11_isWeight_14 (by decide) ?_
    refine lv_ldc2 (pc := 15) (v := (500 : Int64)) hx hb hown (hts _ (List.mem_of_getElem? (i := 2) rfl)) dX11_isWeight_15 ?_
    refine hCallI (pc := 18) (wr := []) (wsf := fun (u : Unit) => []) [] [] (va_runS (As := [.long p1.toInt64, .long (0 : Int64), .long (500 : Int64)]) (rest := []) ⟨hx, hb, hml, hown, hts⟩ (c_X11_in l G K tb q H.size _ p1.toInt64 (0 : Int64) (500 : Int64) hw) (va_cwS 3 hts gX11_isWeight_X11_in rfl rfl rfl (by decide +kernel) ⟨Nat.le_of_ble_eq_true rfl, Nat.le_of_ble_eq_true rfl⟩) (hPreS hE hP hK hD hS hA [] (by decide) rfl rfl) rfl rfl hl.1 rfl (lv_room (Nat.le_of_ble_eq_true rfl)) dX11_isWeight_18 ⟨Nat.zero_le _, Nat.zero_le _⟩) hP hD hS hA rfl rfl (by decide) (by decide) (fun r_3 u H locs hw hP hD hS => ?_)
    have hP : va_P G vwCl [] H := hP.sub [] rfl
    have hD : va_D A [] := hD.sub [] (by decide) rfl
    have K_v_5 : ∀ v_5 : Int32, v_5 = (if r_3 = (0 : Int32) then (0 : Int32) else (1 : Int32)) → W p l e rm_X11_isWeight s m av below meth c H locs 0 0 Q (F0 m 29 ls [.int v_5]) := by
      intro v_5 ev_5
      replace hw := hw v_5 ev_5
      exact hRetZ (S := Unit) () hx hb hr hlocks hQ (by rw [ev_5]; (repeat' split) <;> first | exact Or.inl rfl | exact Or.inr rfl) hw hP hK hD hS dX11_isWeight_29
    refine lv_if_eq (pc := 21) (tgt := 28) hx hb dX11_isWeight_21 (by decide) (fun c_4 => ?_) (fun c_4 => ?_)
    · skip
      refine lv_iconst (pc := 28) (v := (0 : Int32)) hx hb dX11_isWeight_28 (by decide) ?_
      exact K_v_5 _ (by rw [if_pos c_4])
    · skip
      refine lv_iconst (pc := 24) (v := (1 : Int32)) hx hb dX11_isWeight_24 (by decide) ?_
      refine lv_goto (pc := 25) (tgt := 29) hx hb dX11_isWeight_25 (by decide) ?_
      exact K_v_5 _ (by rw [if_neg c_4])
def P_X11_kind (post : Int32 → Int32 → (Nat → Int32) → (Nat → Int32) → Prop) (p1 : Int32) (p2 : Int32) (m_kinds : Int32) (m_low : Nat → Int32) (m_high : Nat → Int32) : Prop :=
  P_X11_in (fun r_1 => ((r_1 = (0 : Int32) → post (-2 : Int32) m_kinds m_low m_high) ∧ (¬ r_1 = (0 : Int32) → P_X11_in (fun r_3 => ((r_3 = (0 : Int32) → post (-2 : Int32) m_kinds m_low m_high) ∧ (¬ r_3 = (0 : Int32) → ((m_kinds = (6 : Int32) → post (-4 : Int32) m_kinds m_low m_high) ∧ (¬ m_kinds = (6 : Int32) → vp_in m_kinds 6 ∧ ∀ m_low_7 : Nat → Int32, m_low_7 = upd m_low m_kinds.toNatClampNeg p1 → ∀ m_high_8 : Nat → Int32, m_high_8 = upd m_high m_kinds.toNatClampNeg p2 → ∀ y_9 : Int32, y_9 = (m_kinds + (1 : Int32)) → post (y_9 - (1 : Int32)) y_9 m_low_7 m_high_8))))) p2.toInt64 p1.toInt64 (2000 : Int64)))) p1.toInt64 (1 : Int64) (2000 : Int64)
abbrev rm_X11_kind : Room := { frames := 1, cells := 0, slots := 0, locals := 25 }
theorem iw_X11_kind_X11 : ∀ w ∈ wsX110, w ∈ wsX11_kind := by decide +kernel
set_option maxHeartbeats 4000000 in
set_option maxRecDepth 100000 in
theorem c_X11_kind (l : Launch) (G : va_G) (K : ClassId × ClassId × ClassId) (tb q : Nat → Nat) (sz : Nat) (m_weighings : Int32) (m_spanLow : Int32) (m_spanHigh : Int32) (m_events : Int32) (m_days : Int32) (m_edges : Int32) (m_crew : Int32) (m_breakages : Int32) (post : Int32 → Int32 → (Nat → Int32) → (Nat → Int32) → Prop) (p1 : Int32) (p2 : Int32) (m_kinds : Int32) (m_low : Nat → Int32) (m_high : Nat → Int32) (hw : P_X11_kind post p1 p2 m_kinds m_low m_high) : Met l yX11_kind wsX11_kind rm_X11_kind (va_Pc [.ref (q 0), .int p1, .int p2] (hPre G K tb [oX11 q m_kinds m_weighings m_spanLow m_spanHigh m_events m_days m_edges m_crew m_breakages, aI K (q 1) 6 m_low, aI K (q 2) 6 m_high] sz)) (va_Qi (fun (r : Int32) (u : Int32 × (Nat → Int32) × (Nat → Int32)) => post r u.1 u.2.1 u.2.2) (fun u => hB G K (va_A [oX11 q m_kinds m_weighings m_spanLow m_spanHigh m_events m_days m_edges m_crew m_breakages, aI K (q 1) 6 m_low, aI K (q 2) 6 m_high] sz) [oX11 q u.1 m_weighings m_spanLow m_spanHigh m_events m_days m_edges m_crew m_breakages, aI K (q 1) 6 u.2.1, aI K (q 2) 6 u.2.2]) (va_A [oX11 q m_kinds m_weighings m_spanLow m_spanHigh m_events m_days m_edges m_crew m_breakages, aI K (q 1) 6 m_low, aI K (q 2) 6 m_high] sz)) 0 0 (va_A [oX11 q m_kinds m_weighings m_spanLow m_spanHigh m_events m_days m_edges m_crew m_breakages, aI K (q 1) 6 m_low, aI K (q 2) 6 m_high] sz) := by
  refine hMet (fun A => va_Qi (fun (r : Int32) (u : Int32 × (Nat → Int32) × (Nat → Int32)) => post r u.1 u.2.1 u.2.2) (fun u => hB G K A [oX11 q u.1 m_weighings m_spanLow m_spanHigh m_events m_days m_edges m_crew m_breakages, aI K (q 1) 6 u.2.1, aI K (q 2) 6 u.2.2]) A) (by decide) rfl (Nat.le_of_ble_eq_true rfl) ?_
  intro p e s m av below meth c A Q ls hx hb hr hml hts hown hlocks hnm hA hP hK hD hS hE hQ hl
  have hts : ∀ w ∈ wsX11_kind, w.before av s = true := hts
  have hown : s.vm.findClass RX11 = some m.cls := hown
  have hl : lv_has ls 3 [(0, .ref (q 0)), (1, .int p1), (2, .int p2)] := hl
  unfold P_X11_kind at hw
  refine lv_iload_n (pc := 0) hx hb dX11_kind_0 rfl (lv_at hl 1 rfl) ?_
  refine lv_i2l (pc := 1) hx hb dX11_kind_1 rfl ?_
  refine lv_lconst (pc := 2) (v := (1 : Int64)) hx hb dX11_kind_2 (by decide) ?_
  refine lv_ldc2 (pc := 3) (v := (2000 : Int64)) hx hb hown (hts _ (List.mem_of_getElem? (i := 1) rfl)) dX11_kind_3 ?_
  refine hCallI (pc := 6) (wr := [oX11 q m_kinds m_weighings m_spanLow m_spanHigh m_events m_days m_edges m_crew m_breakages, aI K (q 1) 6 m_low, aI K (q 2) 6 m_high]) (wsf := fun (u : Unit) => []) [] [0, 1, 2] (va_runS (As := [.long p1.toInt64, .long (1 : Int64), .long (2000 : Int64)]) (rest := []) ⟨hx, hb, hml, hown, hts⟩ (c_X11_in l G K tb q s.heap.size _ p1.toInt64 (1 : Int64) (2000 : Int64) hw) (va_cwS 3 hts gX11_kind_X11_in rfl rfl rfl (by decide +kernel) ⟨Nat.le_of_ble_eq_true rfl, Nat.le_of_ble_eq_true rfl⟩) (hPreS hE hP hK hD hS hA [] (by decide) rfl rfl) rfl rfl hl.1 rfl (lv_room (Nat.le_of_ble_eq_true rfl)) dX11_kind_6 ⟨Nat.zero_le _, Nat.zero_le _⟩) hP hD hS hA rfl rfl (by decide) (by decide) (fun r_1 u H locs hw hP hD hS => ?_)
  have hP : va_P G vwCl [oX11 q m_kinds m_weighings m_spanLow m_spanHigh m_events m_days m_edges m_crew m_breakages, aI K (q 1) 6 m_low, aI K (q 2) 6 m_high] H := hP.sub [0, 1, 2] rfl
  have hD : va_D A [oX11 q m_kinds m_weighings m_spanLow m_spanHigh m_events m_days m_edges m_crew m_breakages, aI K (q 1) 6 m_low, aI K (q 2) 6 m_high] := hD.sub [0, 1, 2] (by decide) rfl
  refine lv_if_eq (pc := 9) (tgt := 25) hx hb dX11_kind_9 (by decide) (fun c_2 => ?_) (fun c_2 => ?_)
  · replace hw := hw.1 c_2
    refine lv_bipush (pc := 25) (v := (-2 : Int32)) hx hb dX11_kind_25 (by decide) ?_
    exact hRetI (S := Int32 × (Nat → Int32) × (Nat → Int32)) (m_kinds, m_low, m_high) hx hb hr hlocks hQ hw hP hK hD hS dX11_kind_27
  · replace hw := hw.2 c_2
    refine lv_iload_n (pc := 12) hx hb dX11_kind_12 rfl (lv_at hl 2 rfl) ?_
    refine lv_i2l (pc := 13) hx hb dX11_kind_13 rfl ?_
    refine lv_iload_n (pc := 14) hx hb dX11_kind_14 rfl (lv_at hl 1 rfl) ?_
    refine lv_i2l (pc := 15) hx hb dX11_kind_15 rfl ?_
    refine lv_ldc2 (pc := 16) (v := (2000 : Int64)) hx hb hown (hts _ (List.mem_of_getElem? (i := 1) rfl)) dX11_kind_16 ?_
    refine hCallI (pc := 19) (wr := [oX11 q m_kinds m_weighings m_spanLow m_spanHigh m_events m_days m_edges m_crew m_breakages, aI K (q 1) 6 m_low, aI K (q 2) 6 m_high]) (wsf := fun (u : Unit) => []) [] [0, 1, 2] (va_runS (As := [.long p2.toInt64, .long p1.toInt64, .long (2000 : Int64)]) (rest := []) ⟨hx, hb, hml, hown, hts⟩ (c_X11_in l G K tb q H.size _ p2.toInt64 p1.toInt64 (2000 : Int64) hw) (va_cwS 3 hts gX11_kind_X11_in rfl rfl rfl (by decide +kernel) ⟨Nat.le_of_ble_eq_true rfl, Nat.le_of_ble_eq_true rfl⟩) (hPreS hE hP hK hD hS hA [] (by decide) rfl rfl) rfl rfl hl.1 rfl (lv_room (Nat.le_of_ble_eq_true rfl)) dX11_kind_19 ⟨Nat.zero_le _, Nat.zero_le _⟩) hP hD hS hA rfl rfl (by decide) (by decide) (fun r_3 u H locs hw hP hD hS => ?_)
    have hP : va_P G vwCl [oX11 q m_kinds m_weighings m_spanLow m_spanHigh m_events m_days m_edges m_crew m_breakages, aI K (q 1) 6 m_low, aI K (q 2) 6 m_high] H := hP.sub [0, 1, 2] rfl
    have hD : va_D A [oX11 q m_kinds m_weighings m_spanLow m_spanHigh m_events m_days m_edges m_crew m_breakages, aI K (q 1) 6 m_low, aI K (q 2) 6 m_high] := hD.sub [0, 1, 2] (by decide) rfl
    refine lv_if_ne (pc := 22) (tgt := 28) hx hb dX11_kind_22 (by decide) (fun c_4 => ?_) (fun c_4 => ?_)
    · replace hw := hw.2 c_4
      refine lv_aload_n (pc := 28) hx hb dX11_kind_28 rfl (lv_at hl 0 rfl) ?_
      refine va_get (pc := 29) (D := G) (ci := 11) (v := .int m_kinds) (C := RX11) (T := TX11) (N := 45) hx hb hts iw_X11_kind_X11 hown hK hP 0 rfl rfl 0 (by decide) (hts _ (List.mem_of_getElem? (i := 2) rfl)) (fun _ h9 => h9) rfl dX11_kind_29 ?_
      refine lv_bipush (pc := 32) (v := (6 : Int32)) hx hb dX11_kind_32 (by decide) ?_
      refine lv_icmp_ne (pc := 34) (tgt := 40) hx hb dX11_kind_34 (by decide) (fun c_5 => ?_) (fun c_5 => ?_)
      · replace hw := hw.2 c_5
        refine lv_aload_n (pc := 40) hx hb dX11_kind_40 rfl (lv_at hl 0 rfl) ?_
        refine va_get (pc := 41) (D := G) (ci := 11) (v := .ref (q 1)) (C := RX11) (T := TX11) (N := 45) hx hb hts iw_X11_kind_X11 hown hK hP 0 rfl rfl 1 (by decide) (hts _ (List.mem_of_getElem? (i := 3) rfl)) (fun _ h9 => h9) rfl dX11_kind_41 ?_
        refine lv_aload_n (pc := 44) hx hb dX11_kind_44 rfl (lv_at hl 0 rfl) ?_
        refine va_get (pc := 45) (D := G) (ci := 11) (v := .int m_kinds) (C := RX11) (T := TX11) (N := 45) hx hb hts iw_X11_kind_X11 hown hK hP 0 rfl rfl 0 (by decide) (hts _ (List.mem_of_getElem? (i := 2) rfl)) (fun _ h9 => h9) rfl dX11_kind_45 ?_
        refine lv_iload_n (pc := 48) hx hb dX11_kind_48 rfl (lv_at hl 1 rfl) ?_
        obtain ⟨h_6, hw⟩ := hw
        refine va_iast (pc := 49) hx hb hK hP hD hS 1 0 rfl rfl h_6 dX11_kind_49 (fun H locs hP hD hS => ?_)
        obtain ⟨m_low_7, em_low_7⟩ : ∃ z : Nat → Int32, z = upd m_low m_kinds.toNatClampNeg p1 := ⟨_, rfl⟩
        have hP : va_P G vwCl [oX11 q m_kinds m_weighings m_spanLow m_spanHigh m_events m_days m_edges m_crew m_breakages, aI K (q 1) 6 m_low_7, aI K (q 2) 6 m_high] H := by rw [em_low_7]; exact hP
        have hD : va_D A [oX11 q m_kinds m_weighings m_spanLow m_spanHigh m_events m_days m_edges m_crew m_breakages, aI K (q 1) 6 m_low_7, aI K (q 2) 6 m_high] := by rw [em_low_7]; exact hD
        replace hw := hw m_low_7 em_low_7
        refine lv_aload_n (pc := 50) hx hb dX11_kind_50 rfl (lv_at hl 0 rfl) ?_
        refine va_get (pc := 51) (D := G) (ci := 11) (v := .ref (q 2)) (C := RX11) (T := TX11) (N := 45) hx hb hts iw_X11_kind_X11 hown hK hP 0 rfl rfl 2 (by decide) (hts _ (List.mem_of_getElem? (i := 4) rfl)) (fun _ h9 => h9) rfl dX11_kind_51 ?_
        refine lv_aload_n (pc := 54) hx hb dX11_kind_54 rfl (lv_at hl 0 rfl) ?_
        refine va_get (pc := 55) (D := G) (ci := 11) (v := .int m_kinds) (C := RX11) (T := TX11) (N := 45) hx hb hts iw_X11_kind_X11 hown hK hP 0 rfl rfl 0 (by decide) (hts _ (List.mem_of_getElem? (i := 2) rfl)) (fun _ h9 => h9) rfl dX11_kind_55 ?_
        refine lv_iload_n (pc := 58) hx hb dX11_kind_58 rfl (lv_at hl 2 rfl) ?_
        refine va_iast (pc := 59) hx hb hK hP hD hS 2 0 rfl rfl h_6 dX11_kind_59 (fun H locs hP hD hS => ?_)
        obtain ⟨m_high_8, em_high_8⟩ : ∃ z : Nat → Int32, z = upd m_high m_kinds.toNatClampNeg p2 := ⟨_, rfl⟩
        have hP : va_P G vwCl [oX11 q m_kinds m_weighings m_spanLow m_spanHigh m_events m_days m_edges m_crew m_breakages, aI K (q 1) 6 m_low_7, aI K (q 2) 6 m_high_8] H := by rw [em_high_8]; exact hP
        have hD : va_D A [oX11 q m_kinds m_weighings m_spanLow m_spanHigh m_events m_days m_edges m_crew m_breakages, aI K (q 1) 6 m_low_7, aI K (q 2) 6 m_high_8] := by rw [em_high_8]; exact hD
        replace hw := hw m_high_8 em_high_8
        refine lv_aload_n (pc := 60) hx hb dX11_kind_60 rfl (lv_at hl 0 rfl) ?_
        refine lv_dup (pc := 61) hx hb dX11_kind_61 rfl ?_
        refine va_get (pc := 62) (D := G) (ci := 11) (v := .int m_kinds) (C := RX11) (T := TX11) (N := 45) hx hb hts iw_X11_kind_X11 hown hK hP 0 rfl rfl 0 (by decide) (hts _ (List.mem_of_getElem? (i := 2) rfl)) (fun _ h9 => h9) rfl dX11_kind_62 ?_
        refine lv_iconst (pc := 65) (v := (1 : Int32)) hx hb dX11_kind_65 (by decide) ?_
        refine lv_iadd (pc := 66) hx hb dX11_kind_66 ?_
        refine lv_topi (fun y_9 ey_9 => ?_)
        replace hw := hw y_9 ey_9
        refine va_put (pc := 67) (D := G) (ci := 11) (v := .int y_9) (ty := .int) (C := RX11) (T := TX11) (N := 45) hx hb hts iw_X11_kind_X11 tyX11 tyX11_ok nmX11 hown hK hP hD hS 0 rfl rfl 0 (by decide) (hts _ (List.mem_of_getElem? (i := 2) rfl)) (fun _ h9 => h9) rfl (by decide +kernel) rfl rfl (Nat.le_of_ble_eq_true rfl) dX11_kind_67 (fun H locs hP hD hS => ?_)
        have hP : va_P G vwCl [oX11 q y_9 m_weighings m_spanLow m_spanHigh m_events m_days m_edges m_crew m_breakages, aI K (q 1) 6 m_low_7, aI K (q 2) 6 m_high_8] H := hP
        have hD : va_D A [oX11 q y_9 m_weighings m_spanLow m_spanHigh m_events m_days m_edges m_crew m_breakages, aI K (q 1) 6 m_low_7, aI K (q 2) 6 m_high_8] := hD
        refine lv_aload_n (pc := 70) hx hb dX11_kind_70 rfl (lv_at hl 0 rfl) ?_
        refine va_get (pc := 71) (D := G) (ci := 11) (v := .int y_9) (C := RX11) (T := TX11) (N := 45) hx hb hts iw_X11_kind_X11 hown hK hP 0 rfl rfl 0 (by decide) (hts _ (List.mem_of_getElem? (i := 2) rfl)) (fun _ h9 => h9) rfl dX11_kind_71 ?_
        refine lv_iconst (pc := 74) (v := (1 : Int32)) hx hb dX11_kind_74 (by decide) ?_
        refine lv_isub (pc := 75) hx hb dX11_kind_75 ?_
        exact hRetI (S := Int32 × (Nat → Int32) × (Nat → Int32)) (y_9, m_low_7, m_high_8) hx hb hr hlocks hQ hw hP hK hD hS dX11_kind_76
      · replace hw := hw.1 c_5
        refine lv_bipush (pc := 37) (v := (-4 : Int32)) hx hb dX11_kind_37 (by decide) ?_
        exact hRetI (S := Int32 × (Nat → Int32) × (Nat → Int32)) (m_kinds, m_low, m_high) hx hb hr hlocks hQ hw hP hK hD hS dX11_kind_39
    · replace hw := hw.1 c_4
      refine lv_bipush (pc := 25) (v := (-2 : Int32)) hx hb dX11_kind_25 (by decide) ?_
      exact hRetI (S := Int32 × (Nat → Int32) × (Nat → Int32)) (m_kinds, m_low, m_high) hx hb hr hlocks hQ hw hP hK hD hS dX11_kind_27
def P_X11_book (post : Int32 → (Nat → Int32) → Prop) (p1 : Int32) (p2 : Int32) (p3 : Int32) (m_kinds : Int32) (m_book : Nat → Int32) : Prop :=
  P_X11_isHouse (fun r_1 => ((r_1 = (0 : Int32) → post (-1 : Int32) m_book) ∧ (¬ r_1 = (0 : Int32) → P_X11_isKind (fun r_3 => ((r_3 = (0 : Int32) → post (-1 : Int32) m_book) ∧ (¬ r_3 = (0 : Int32) → P_X11_in (fun r_5 => ((r_5 = (0 : Int32) → post (-2 : Int32) m_book) ∧ (¬ r_5 = (0 : Int32) → vp_in (((6 : Int32) * p1) + p2) 30 ∧ ∀ y_8 : Int32, y_8 = (m_book (((6 : Int32) * p1) + p2).toNatClampNeg) → ∀ m_book_9 : Nat → Int32, m_book_9 = upd m_book (((6 : Int32) * p1) + p2).toNatClampNeg p3 → post y_8 m_book_9))) p3.toInt64 (0 : Int64) (999 : Int64)))) p2 m_kinds))) p1
abbrev rm_X11_book : Room := { frames := 2, cells := 0, slots := 0, locals := 46 }
theorem iw_X11_book_X11 : ∀ w ∈ wsX110, w ∈ wsX11_book := by decide +kernel
set_option maxHeartbeats 4000000 in
set_option maxRecDepth 100000 in
theorem c_X11_book (l : Launch) (G : va_G) (K : ClassId × ClassId × ClassId) (tb q : Nat → Nat) (sz : Nat) (m_weighings : Int32) (m_spanLow : Int32) (m_spanHigh : Int32) (m_events : Int32) (m_days : Int32) (m_edges : Int32) (m_crew : Int32) (m_breakages : Int32) (post : Int32 → (Nat → Int32) → Prop) (p1 : Int32) (p2 : Int32) (p3 : Int32) (m_kinds : Int32) (m_book : Nat → Int32) (hw : P_X11_book post p1 p2 p3 m_kinds m_book) : Met l yX11_book wsX11_book rm_X11_book (va_Pc [.ref (q 0), .int p1, .int p2, .int p3] (hPre G K tb [oX11 q m_kinds m_weighings m_spanLow m_spanHigh m_events m_days m_edges m_crew m_breakages, aI K (q 3) 30 m_book] sz)) (va_Qi (fun (r : Int32) (u : (Nat → Int32)) => post r u) (fun u => hB G K (va_A [oX11 q m_kinds m_weighings m_spanLow m_spanHigh m_events m_days m_edges m_crew m_breakages, aI K (q 3) 30 m_book] sz) [oX11 q m_kinds m_weighings m_spanLow m_spanHigh m_events m_days m_edges m_crew m_breakages, aI K (q 3) 30 u]) (va_A [oX11 q m_kinds m_weighings m_spanLow m_spanHigh m_events m_days m_edges m_crew m_breakages, aI K (q 3) 30 m_book] sz)) 0 0 (va_A [oX11 q m_kinds m_weighings m_spanLow m_spanHigh m_events m_days m_edges m_crew m_breakages, aI K (q 3) 30 m_book] sz) := by
  refine hMet (fun A => va_Qi (fun (r : Int32) (u : (Nat → Int32)) => post r u) (fun u => hB G K A [oX11 q m_kinds m_weighings m_spanLow m_spanHigh m_events m_days m_edges m_crew m_breakages, aI K (q 3) 30 u]) A) (by decide) rfl (Nat.le_of_ble_eq_true rfl) ?_
  intro p e s m av below meth c A Q ls hx hb hr hml hts hown hlocks hnm hA hP hK hD hS hE hQ hl
  have hts : ∀ w ∈ wsX11_book, w.before av s = true := hts
  have hown : s.vm.findClass RX11 = some m.cls := hown
  have hl : lv_has ls 5 [(0, .ref (q 0)), (1, .int p1), (2, .int p2), (3, .int p3)] := hl
  unfold P_X11_book at hw
  refine lv_iload_n (pc := 0) hx hb dX11_book_0 rfl (lv_at hl 1 rfl) ?_
  refine hCallI (pc := 1) (wr := [oX11 q m_kinds m_weighings m_spanLow m_spanHigh m_events m_days m_edges m_crew m_breakages, aI K (q 3) 30 m_book]) (wsf := fun (u : Unit) => []) [] [0, 1] (va_runS (As := [.int p1]) (rest := []) ⟨hx, hb, hml, hown, hts⟩ (c_X11_isHouse l G K tb q s.heap.size _ p1 hw) (va_cwS 1 hts gX11_book_X11_isHouse rfl rfl rfl (by decide +kernel) ⟨Nat.le_of_ble_eq_true rfl, Nat.le_of_ble_eq_true rfl⟩) (hPreS hE hP hK hD hS hA [] (by decide) rfl rfl) rfl rfl hl.1 rfl (lv_room (Nat.le_of_ble_eq_true rfl)) dX11_book_1 ⟨Nat.zero_le _, Nat.zero_le _⟩) hP hD hS hA rfl rfl (by decide) (by decide) (fun r_1 u H locs hw hP hD hS => ?_)
  have hP : va_P G vwCl [oX11 q m_kinds m_weighings m_spanLow m_spanHigh m_events m_days m_edges m_crew m_breakages, aI K (q 3) 30 m_book] H := hP.sub [0, 1] rfl
  have hD : va_D A [oX11 q m_kinds m_weighings m_spanLow m_spanHigh m_events m_days m_edges m_crew m_breakages, aI K (q 3) 30 m_book] := hD.sub [0, 1] (by decide) rfl
  refine lv_if_eq (pc := 4) (tgt := 15) hx hb dX11_book_4 (by decide) (fun c_2 => ?_) (fun c_2 => ?_)
  · replace hw := hw.1 c_2
    refine lv_iconst (pc := 15) (v := (-1 : Int32)) hx hb dX11_book_15 (by decide) ?_
    exact hRetI (S := (Nat → Int32)) m_book hx hb hr hlocks hQ hw hP hK hD hS dX11_book_16
  · replace hw := hw.2 c_2
    refine lv_aload_n (pc := 7) hx hb dX11_book_7 rfl (lv_at hl 0 rfl) ?_
    refine lv_iload_n (pc := 8) hx hb dX11_book_8 rfl (lv_at hl 2 rfl) ?_
    refine hCallI (pc := 9) (wr := [aI K (q 3) 30 m_book]) (wsf := fun (u : Unit) => [oX11 q m_kinds m_weighings m_spanLow m_spanHigh m_events m_days m_edges m_crew m_breakages]) [0] [1] (va_runV (As := [.int p2]) (rest := []) ⟨hx, hb, hml, hown, hts⟩ (c_X11_isKind l G K tb q H.size m_weighings m_spanLow m_spanHigh m_events m_days m_edges m_crew m_breakages _ p2 m_kinds hw) (cwV 1 hts gX11_book_X11_isKind rfl rfl rfl (by decide +kernel) ⟨Nat.le_of_ble_eq_true rfl, Nat.le_of_ble_eq_true rfl⟩) (hPreV hE hP hK hD hS hA [0] (by decide) rfl rfl rfl rfl (q0 := 0) (ci := 11) rfl) rfl rfl hl.1 rfl (lv_room (Nat.le_of_ble_eq_true rfl)) dX11_book_9 ⟨Nat.zero_le _, Nat.zero_le _⟩) hP hD hS hA rfl rfl (by decide) (by decide) (fun r_3 u H locs hw hP hD hS => ?_)
    have hP : va_P G vwCl [oX11 q m_kinds m_weighings m_spanLow m_spanHigh m_events m_days m_edges m_crew m_breakages, aI K (q 3) 30 m_book] H := hP.sub [1, 0] rfl
    have hD : va_D A [oX11 q m_kinds m_weighings m_spanLow m_spanHigh m_events m_days m_edges m_crew m_breakages, aI K (q 3) 30 m_book] := hD.sub [1, 0] (by decide) rfl
    refine lv_if_ne (pc := 12) (tgt := 17) hx hb dX11_book_12 (by decide) (fun c_4 => ?_) (fun c_4 => ?_)
    · replace hw := hw.2 c_4
      refine lv_iload_n (pc := 17) hx hb dX11_book_17 rfl (lv_at hl 3 rfl) ?_
      refine lv_i2l (pc := 18) hx hb dX11_book_18 rfl ?_
      refine lv_lconst (pc := 19) (v := (0 : Int64)) hx hb dX11_book_19 (by decide) ?_
      refine lv_ldc2 (pc := 20) (v := (999 : Int64)) hx hb hown (hts _ (List.mem_of_getElem? (i := 1) rfl)) dX11_book_20 ?_
      refine hCallI (pc := 23) (wr := [oX11 q m_kinds m_weighings m_spanLow m_spanHigh m_events m_days m_edges m_crew m_breakages, aI K (q 3) 30 m_book]) (wsf := fun (u : Unit) => []) [] [0, 1] (va_runS (As := [.long p3.toInt64, .long (0 : Int64), .long (999 : Int64)]) (rest := []) ⟨hx, hb, hml, hown, hts⟩ (c_X11_in l G K tb q H.size _ p3.toInt64 (0 : Int64) (999 : Int64) hw) (va_cwS 3 hts gX11_book_X11_in rfl rfl rfl (by decide +kernel) ⟨Nat.le_of_ble_eq_true rfl, Nat.le_of_ble_eq_true rfl⟩) (hPreS hE hP hK hD hS hA [] (by decide) rfl rfl) rfl rfl hl.1 rfl (lv_room (Nat.le_of_ble_eq_true rfl)) dX11_book_23 ⟨Nat.zero_le _, Nat.zero_le _⟩) hP hD hS hA rfl rfl (by decide) (by decide) (fun r_5 u H locs hw hP hD hS => ?_)
      have hP : va_P G vwCl [oX11 q m_kinds m_weighings m_spanLow m_spanHigh m_events m_days m_edges m_crew m_breakages, aI K (q 3) 30 m_book] H := hP.sub [0, 1] rfl
      have hD : va_D A [oX11 q m_kinds m_weighings m_spanLow m_spanHigh m_events m_days m_edges m_crew m_breakages, aI K (q 3) 30 m_book] := hD.sub [0, 1] (by decide) rfl
      refine lv_if_ne (pc := 26) (tgt := 32) hx hb dX11_book_26 (by decide) (fun c_6 => ?_) (fun c_6 => ?_)
      · replace hw := hw.2 c_6
        refine lv_aload_n (pc := 32) hx hb dX11_book_32 rfl (lv_at hl 0 rfl) ?_
        refine va_get (pc := 33) (D := G) (ci := 11) (v := .ref (q 3)) (C := RX11) (T := TX11) (N := 45) hx hb hts iw_X11_book_X11 hown hK hP 0 rfl rfl 3 (by decide) (hts _ (List.mem_of_getElem? (i := 2) rfl)) (fun _ h9 => h9) rfl dX11_book_33 ?_
        refine lv_bipush (pc := 36) (v := (6 : Int32)) hx hb dX11_book_36 (by decide) ?_
        refine lv_iload_n (pc := 38) hx hb dX11_book_38 rfl (lv_at hl 1 rfl) ?_
        refine lv_imul (pc := 39) hx hb dX11_book_39 ?_
        refine lv_iload_n (pc := 40) hx hb dX11_book_40 rfl (lv_at hl 2 rfl) ?_
        refine lv_iadd (pc := 41) hx hb dX11_book_41 ?_
        obtain ⟨h_7, hw⟩ := hw
        refine va_iald (pc := 42) hx hb hK hP 1 0 rfl rfl h_7 dX11_book_42 ?_
        refine lv_topi (fun y_8 ey_8 => ?_)
        replace hw := hw y_8 ey_8
        refine lv_istore (pc := 43) (lv' := [(4, .int y_8), (0, .ref (q 0)), (1, .int p1), (2, .int p2), (3, .int p3)]) hx hb dX11_book_43 hl (by decide) rfl (fun ls hl => ?_)
        refine lv_aload_n (pc := 45) hx hb dX11_book_45 rfl (lv_at hl 1 rfl) ?_
        refine va_get (pc := 46) (D := G) (ci := 11) (v := .ref (q 3)) (C := RX11) (T := TX11) (N := 45) hx hb hts iw_X11_book_X11 hown hK hP 0 rfl rfl 3 (by decide) (hts _ (List.mem_of_getElem? (i := 2) rfl)) (fun _ h9 => h9) rfl dX11_book_46 ?_
        refine lv_bipush (pc := 49) (v := (6 : Int32)) hx hb dX11_book_49 (by decide) ?_
        refine lv_iload_n (pc := 51) hx hb dX11_book_51 rfl (lv_at hl 2 rfl) ?_
        refine lv_imul (pc := 52) hx hb dX11_book_52 ?_
        refine lv_iload_n (pc := 53) hx hb dX11_book_53 rfl (lv_at hl 3 rfl) ?_
        refine lv_iadd (pc := 54) hx hb dX11_book_54 ?_
        refine lv_iload_n (pc := 55) hx hb dX11_book_55 rfl (lv_at hl 4 rfl) ?_
        refine va_iast (pc := 56) hx hb hK hP hD hS 1 0 rfl rfl h_7 dX11_book_56 (fun H locs hP hD hS => ?_)
        obtain ⟨m_book_9, em_book_9⟩ : ∃ z : Nat → Int32, z = upd m_book (((6 : Int32) * p1) + p2).toNatClampNeg p3 := ⟨_, rfl⟩
        have hP : va_P G vwCl [oX11 q m_kinds m_weighings m_spanLow m_spanHigh m_events m_days m_edges m_crew m_breakages, aI K (q 3) 30 m_book_9] H := by rw [em_book_9]; exact hP
        have hD : va_D A [oX11 q m_kinds m_weighings m_spanLow m_spanHigh m_events m_days m_edges m_crew m_breakages, aI K (q 3) 30 m_book_9] := by rw [em_book_9]; exact hD
        replace hw := hw m_book_9 em_book_9
        refine lv_iload (pc := 57) hx hb dX11_book_57 (lv_at hl 0 rfl) ?_
        exact hRetI (S := (Nat → Int32)) m_book_9 hx hb hr hlocks hQ hw hP hK hD hS dX11_book_59
      · replace hw := hw.1 c_6
        refine lv_bipush (pc := 29) (v := (-2 : Int32)) hx hb dX11_book_29 (by decide) ?_
        exact hRetI (S := (Nat → Int32)) m_book hx hb hr hlocks hQ hw hP hK hD hS dX11_book_31
    · replace hw := hw.1 c_4
      refine lv_iconst (pc := 15) (v := (-1 : Int32)) hx hb dX11_book_15 (by decide) ?_
      exact hRetI (S := (Nat → Int32)) m_book hx hb hr hlocks hQ hw hP hK hD hS dX11_book_16
def P_X11_weigh (post : Int32 → Int32 → (Nat → Int32) → (Nat → Int32) → (Nat → Int32) → (Nat → Int32) → Prop) (p1 : Int32) (p2 : Int32) (p3 : Int32) (p4 : Int32) (m_kinds : Int32) (m_weighings : Int32) (m_weighHouse : Nat → Int32) (m_weighKind : Nat → Int32) (m_weighLess : Nat → Int32) (m_weighMore : Nat → Int32) : Prop :=
  P_X11_isHouse (fun r_1 => ((r_1 = (0 : Int32) → post (-1 : Int32) m_weighings m_weighHouse m_weighKind m_weighLess m_weighMore) ∧ (¬ r_1 = (0 : Int32) → P_X11_isKind (fun r_3 => ((r_3 = (0 : Int32) → post (-1 : Int32) m_weighings m_weighHouse m_weighKind m_weighLess m_weighMore) ∧ (¬ r_3 = (0 : Int32) → P_X11_isWeight (fun r_5 => ((r_5 = (0 : Int32) → post (-2 : Int32) m_weighings m_weighHouse m_weighKind m_weighLess m_weighMore) ∧ (¬ r_5 = (0 : Int32) → ((m_weighings = (40 : Int32) → post (-4 : Int32) m_weighings m_weighHouse m_weighKind m_weighLess m_weighMore) ∧ (¬ m_weighings = (40 : Int32) → vp_in m_weighings 40 ∧ ∀ m_weighHouse_9 : Nat → Int32, m_weighHouse_9 = upd m_weighHouse m_weighings.toNatClampNeg p1 → ∀ m_weighKind_10 : Nat → Int32, m_weighKind_10 = upd m_weighKind m_weighings.toNatClampNeg p2 → ∀ m_weighLess_11 : Nat → Int32, m_weighLess_11 = upd m_weighLess m_weighings.toNatClampNeg (p3 - p4) → ∀ m_weighMore_12 : Nat → Int32, m_weighMore_12 = upd m_weighMore m_weighings.toNatClampNeg (p3 + p4) → ∀ y_13 : Int32, y_13 = (m_weighings + (1 : Int32)) → post (y_13 - (1 : Int32)) y_13 m_weighHouse_9 m_weighKind_10 m_weighLess_11 m_weighMore_12))))) p3 p4))) p2 m_kinds))) p1
abbrev rm_X11_weigh : Room := { frames := 2, cells := 0, slots := 0, locals := 46 }
theorem iw_X11_weigh_X11 : ∀ w ∈ wsX110, w ∈ wsX11_weigh := by decide +kernel
set_option maxHeartbeats 4000000 in
set_option maxRecDepth 100000 in
theorem c_X11_weigh (l : Launch) (G : va_G) (K : ClassId × ClassId × ClassId) (tb q : Nat → Nat) (sz : Nat) (m_spanLow : Int32) (m_spanHigh : Int32) (m_events : Int32) (m_days : Int32) (m_edges : Int32) (m_crew : Int32) (m_breakages : Int32) (post : Int32 → Int32 → (Nat → Int32) → (Nat → Int32) → (Nat → Int32) → (Nat → Int32) → Prop) (p1 : Int32) (p2 : Int32) (p3 : Int32) (p4 : Int32) (m_kinds : Int32) (m_weighings : Int32) (m_weighHouse : Nat → Int32) (m_weighKind : Nat → Int32) (m_weighLess : Nat → Int32) (m_weighMore : Nat → Int32) (hw : P_X11_weigh post p1 p2 p3 p4 m_kinds m_weighings m_weighHouse m_weighKind m_weighLess m_weighMore) : Met l yX11_weigh wsX11_weigh rm_X11_weigh (va_Pc [.ref (q 0), .int p1, .int p2, .int p3, .int p4] (hPre G K tb [oX11 q m_kinds m_weighings m_spanLow m_spanHigh m_events m_days m_edges m_crew m_breakages, aI K (q 5) 40 m_weighHouse, aI K (q 6) 40 m_weighKind, aI K (q 7) 40 m_weighLess, aI K (q 8) 40 m_weighMore] sz)) (va_Qi (fun (r : Int32) (u : Int32 × (Nat → Int32) × (Nat → Int32) × (Nat → Int32) × (Nat → Int32)) => post r u.1 u.2.1 u.2.2.1 u.2.2.2.1 u.2.2.2.2) (fun u => hB G K (va_A [oX11 q m_kinds m_weighings m_spanLow m_spanHigh m_events m_days m_edges m_crew m_breakages, aI K (q 5) 40 m_weighHouse, aI K (q 6) 40 m_weighKind, aI K (q 7) 40 m_weighLess, aI K (q 8) 40 m_weighMore] sz) [oX11 q m_kinds u.1 m_spanLow m_spanHigh m_events m_days m_edges m_crew m_breakages, aI K (q 5) 40 u.2.1, aI K (q 6) 40 u.2.2.1, aI K (q 7) 40 u.2.2.2.1, aI K (q 8) 40 u.2.2.2.2]) (va_A [oX11 q m_kinds m_weighings m_spanLow m_spanHigh m_events m_days m_edges m_crew m_breakages, aI K (q 5) 40 m_weighHouse, aI K (q 6) 40 m_weighKind, aI K (q 7) 40 m_weighLess, aI K (q 8) 40 m_weighMore] sz)) 0 0 (va_A [oX11 q m_kinds m_weighings m_spanLow m_spanHigh m_events m_days m_edges m_crew m_breakages, aI K (q 5) 40 m_weighHouse, aI K (q 6) 40 m_weighKind, aI K (q 7) 40 m_weighLess, aI K (q 8) 40 m_weighMore] sz) := by
  refine hMet (fun A => va_Qi (fun (r : Int32) (u : Int32 × (Nat → Int32) × (Nat → Int32) × (Nat → Int32) × (Nat → Int32)) => post r u.1 u.2.1 u.2.2.1 u.2.2.2.1 u.2.2.2.2) (fun u => hB G K A [oX11 q m_kinds u.1 m_spanLow m_spanHigh m_events m_days m_edges m_crew m_breakages, aI K (q 5) 40 u.2.1, aI K (q 6) 40 u.2.2.1, aI K (q 7) 40 u.2.2.2.1, aI K (q 8) 40 u.2.2.2.2]) A) (by decide) rfl (Nat.le_of_ble_eq_true rfl) ?_
  intro p e s m av below meth c A Q ls hx hb hr hml hts hown hlocks hnm hA hP hK hD hS hE hQ hl
  have hts : ∀ w ∈ wsX11_weigh, w.before av s = true := hts
  have hown : s.vm.findClass RX11 = some m.cls := hown
  have hl : lv_has ls 5 [(0, .ref (q 0)), (1, .int p1), (2, .int p2), (3, .int p3), (4, .int p4)] := hl
  unfold P_X11_weigh at hw
  refine lv_iload_n (pc := 0) hx hb dX11_weigh_0 rfl (lv_at hl 1 rfl) ?_
  refine hCallI (pc := 1) (wr := [oX11 q m_kinds m_weighings m_spanLow m_spanHigh m_events m_days m_edges m_crew m_breakages, aI K (q 5) 40 m_weighHouse, aI K (q 6) 40 m_weighKind, aI K (q 7) 40 m_weighLess, aI K (q 8) 40 m_weighMore]) (wsf := fun (u : Unit) => []) [] [0, 1, 2, 3, 4] (va_runS (As := [.int p1]) (rest := []) ⟨hx, hb, hml, hown, hts⟩ (c_X11_isHouse l G K tb q s.heap.size _ p1 hw) (va_cwS 1 hts gX11_weigh_X11_isHouse rfl rfl rfl (by decide +kernel) ⟨Nat.le_of_ble_eq_true rfl, Nat.le_of_ble_eq_true rfl⟩) (hPreS hE hP hK hD hS hA [] (by decide) rfl rfl) rfl rfl hl.1 rfl (lv_room (Nat.le_of_ble_eq_true rfl)) dX11_weigh_1 ⟨Nat.zero_le _, Nat.zero_le _⟩) hP hD hS hA rfl rfl (by decide) (by decide) (fun r_1 u H locs hw hP hD hS => ?_)
  have hP : va_P G vwCl [oX11 q m_kinds m_weighings m_spanLow m_spanHigh m_events m_days m_edges m_crew m_breakages, aI K (q 5) 40 m_weighHouse, aI K (q 6) 40 m_weighKind, aI K (q 7) 40 m_weighLess, aI K (q 8) 40 m_weighMore] H := hP.sub [0, 1, 2, 3, 4] rfl
  have hD : va_D A [oX11 q m_kinds m_weighings m_spanLow m_spanHigh m_events m_days m_edges m_crew m_breakages, aI K (q 5) 40 m_weighHouse, aI K (q 6) 40 m_weighKind, aI K (q 7) 40 m_weighLess, aI K (q 8) 40 m_weighMore] := hD.sub [0, 1, 2, 3, 4] (by decide) rfl
  refine lv_if_eq (pc := 4) (tgt := 15) hx hb dX11_weigh_4 (by decide) (fun c_2 => ?_) (fun c_2 => ?_)
  · replace hw := hw.1 c_2
    refine lv_iconst (pc := 15) (v := (-1 : Int32)) hx hb dX11_weigh_15 (by decide) ?_
    exact hRetI (S := Int32 × (Nat → Int32) × (Nat → Int32) × (Nat → Int32) × (Nat → Int32)) (m_weighings, m_weighHouse, m_weighKind, m_weighLess, m_weighMore) hx hb hr hlocks hQ hw hP hK hD hS dX11_weigh_16
  · replace hw := hw.2 c_2
    refine lv_aload_n (pc := 7) hx hb dX11_weigh_7 rfl (lv_at hl 0 rfl) ?_
    refine lv_iload_n (pc := 8) hx hb dX11_weigh_8 rfl (lv_at hl 2 rfl) ?_
    refine hCallI (pc := 9) (wr := [aI K (q 5) 40 m_weighHouse, aI K (q 6) 40 m_weighKind, aI K (q 7) 40 m_weighLess, aI K (q 8) 40 m_weighMore]) (wsf := fun (u : Unit) => [oX11 q m_kinds m_weighings m_spanLow m_spanHigh m_events m_days m_edges m_crew m_breakages]) [0] [1, 2, 3, 4] (va_runV (As := [.int p2]) (rest := []) ⟨hx, hb, hml, hown, hts⟩ (c_X11_isKind l G K tb q H.size m_weighings m_spanLow m_spanHigh m_events m_days m_edges m_crew m_breakages _ p2 m_kinds hw) (cwV 1 hts gX11_weigh_X11_isKind rfl rfl rfl (by decide +kernel) ⟨Nat.le_of_ble_eq_true rfl, Nat.le_of_ble_eq_true rfl⟩) (hPreV hE hP hK hD hS hA [0] (by decide) rfl rfl rfl rfl (q0 := 0) (ci := 11) rfl) rfl rfl hl.1 rfl (lv_room (Nat.le_of_ble_eq_true rfl)) dX11_weigh_9 ⟨Nat.zero_le _, Nat.zero_le _⟩) hP hD hS hA rfl rfl (by decide) (by decide) (fun r_3 u H locs hw hP hD hS => ?_)
    have hP : va_P G vwCl [oX11 q m_kinds m_weighings m_spanLow m_spanHigh m_events m_days m_edges m_crew m_breakages, aI K (q 5) 40 m_weighHouse, aI K (q 6) 40 m_weighKind, aI K (q 7) 40 m_weighLess, aI K (q 8) 40 m_weighMore] H := hP.sub [4, 0, 1, 2, 3] rfl
    have hD : va_D A [oX11 q m_kinds m_weighings m_spanLow m_spanHigh m_events m_days m_edges m_crew m_breakages, aI K (q 5) 40 m_weighHouse, aI K (q 6) 40 m_weighKind, aI K (q 7) 40 m_weighLess, aI K (q 8) 40 m_weighMore] := hD.sub [4, 0, 1, 2, 3] (by decide) rfl
    refine lv_if_ne (pc := 12) (tgt := 17) hx hb dX11_weigh_12 (by decide) (fun c_4 => ?_) (fun c_4 => ?_)
    · replace hw := hw.2 c_4
      refine lv_iload_n (pc := 17) hx hb dX11_weigh_17 rfl (lv_at hl 3 rfl) ?_
      refine lv_iload (pc := 18) hx hb dX11_weigh_18 (lv_at hl 4 rfl) ?_
      refine hCallI (pc := 20) (wr := [oX11 q m_kinds m_weighings m_spanLow m_spanHigh m_events m_days m_edges m_crew m_breakages, aI K (q 5) 40 m_weighHouse, aI K (q 6) 40 m_weighKind, aI K (q 7) 40 m_weighLess, aI K (q 8) 40 m_weighMore]) (wsf := fun (u : Unit) => []) [] [0, 1, 2, 3, 4] (va_runS (As := [.int p3, .int p4]) (rest := []) ⟨hx, hb, hml, hown, hts⟩ (c_X11_isWeight l G K tb q H.size _ p3 p4 hw) (va_cwS 2 hts gX11_weigh_X11_isWeight rfl rfl rfl (by decide +kernel) ⟨Nat.le_of_ble_eq_true rfl, Nat.le_of_ble_eq_true rfl⟩) (hPreS hE hP hK hD hS hA [] (by decide) rfl rfl) rfl rfl hl.1 rfl (lv_room (Nat.le_of_ble_eq_true rfl)) dX11_weigh_20 ⟨Nat.zero_le _, Nat.zero_le _⟩) hP hD hS hA rfl rfl (by decide) (by decide) (fun r_5 u H locs hw hP hD hS => ?_)
      have hP : va_P G vwCl [oX11 q m_kinds m_weighings m_spanLow m_spanHigh m_events m_days m_edges m_crew m_breakages, aI K (q 5) 40 m_weighHouse, aI K (q 6) 40 m_weighKind, aI K (q 7) 40 m_weighLess, aI K (q 8) 40 m_weighMore] H := hP.sub [0, 1, 2, 3, 4] rfl
      have hD : va_D A [oX11 q m_kinds m_weighings m_spanLow m_spanHigh m_events m_days m_edges m_crew m_breakages, aI K (q 5) 40 m_weighHouse, aI K (q 6) 40 m_weighKind, aI K (q 7) 40 m_weighLess, aI K (q 8) 40 m_weighMore] := hD.sub [0, 1, 2, 3, 4] (by decide) rfl
      refine lv_if_ne (pc := 23) (tgt := 29) hx hb dX11_weigh_23 (by decide) (fun c_6 => ?_) (fun c_6 => ?_)
      · replace hw := hw.2 c_6
        refine lv_aload_n (pc := 29) hx hb dX11_weigh_29 rfl (lv_at hl 0 rfl) ?_
        refine va_get (pc := 30) (D := G) (ci := 11) (v := .int m_weighings) (C := RX11) (T := TX11) (N := 45) hx hb hts iw_X11_weigh_X11 hown hK hP 0 rfl rfl 5 (by decide) (hts _ (List.mem_of_getElem? (i := 1) rfl)) (fun _ h9 => h9) rfl dX11_weigh_30 ?_
        refine lv_bipush (pc := 33) (v := (40 : Int32)) hx hb dX11_weigh_33 (by decide) ?_
        refine lv_icmp_ne (pc := 35) (tgt := 41) hx hb dX11_weigh_35 (by decide) (fun c_7 => ?_) (fun c_7 => ?_)
        · replace hw := hw.2 c_7
          refine lv_aload_n (pc := 41) hx hb dX11_weigh_41 rfl (lv_at hl 0 rfl) ?_
          refine va_get (pc := 42) (D := G) (ci := 11) (v := .ref (q 5)) (C := RX11) (T := TX11) (N := 45) hx hb hts iw_X11_weigh_X11 hown hK hP 0 rfl rfl 6 (by decide) (hts _ (List.mem_of_getElem? (i := 2) rfl)) (fun _ h9 => h9) rfl dX11_weigh_42 ?_
          refine lv_aload_n (pc := 45) hx hb dX11_weigh_45 rfl (lv_at hl 0 rfl) ?_
          refine va_get (pc := 46) (D := G) (ci := 11) (v := .int m_weighings) (C := RX11) (T := TX11) (N := 45) hx hb hts iw_X11_weigh_X11 hown hK hP 0 rfl rfl 5 (by decide) (hts _ (List.mem_of_getElem? (i := 1) rfl)) (fun _ h9 => h9) rfl dX11_weigh_46 ?_
          refine lv_iload_n (pc := 49) hx hb dX11_weigh_49 rfl (lv_at hl 1 rfl) ?_
          obtain ⟨h_8, hw⟩ := hw
          refine va_iast (pc := 50) hx hb hK hP hD hS 1 0 rfl rfl h_8 dX11_weigh_50 (fun H locs hP hD hS => ?_)
          obtain ⟨m_weighHouse_9, em_weighHouse_9⟩ : ∃ z : Nat → Int32, z = upd m_weighHouse m_weighings.toNatClampNeg p1 := ⟨_, rfl⟩
          have hP : va_P G vwCl [oX11 q m_kinds m_weighings m_spanLow m_spanHigh m_events m_days m_edges m_crew m_breakages, aI K (q 5) 40 m_weighHouse_9, aI K (q 6) 40 m_weighKind, aI K (q 7) 40 m_weighLess, aI K (q 8) 40 m_weighMore] H := by rw [em_weighHouse_9]; exact hP
          have hD : va_D A [oX11 q m_kinds m_weighings m_spanLow m_spanHigh m_events m_days m_edges m_crew m_breakages, aI K (q 5) 40 m_weighHouse_9, aI K (q 6) 40 m_weighKind, aI K (q 7) 40 m_weighLess, aI K (q 8) 40 m_weighMore] := by rw [em_weighHouse_9]; exact hD
          replace hw := hw m_weighHouse_9 em_weighHouse_9
          refine lv_aload_n (pc := 51) hx hb dX11_weigh_51 rfl (lv_at hl 0 rfl) ?_
          refine va_get (pc := 52) (D := G) (ci := 11) (v := .ref (q 6)) (C := RX11) (T := TX11) (N := 45) hx hb hts iw_X11_weigh_X11 hown hK hP 0 rfl rfl 7 (by decide) (hts _ (List.mem_of_getElem? (i := 3) rfl)) (fun _ h9 => h9) rfl dX11_weigh_52 ?_
          refine lv_aload_n (pc := 55) hx hb dX11_weigh_55 rfl (lv_at hl 0 rfl) ?_
          refine va_get (pc := 56) (D := G) (ci := 11) (v := .int m_weighings) (C := RX11) (T := TX11) (N := 45) hx hb hts iw_X11_weigh_X11 hown hK hP 0 rfl rfl 5 (by decide) (hts _ (List.mem_of_getElem? (i := 1) rfl)) (fun _ h9 => h9) rfl dX11_weigh_56 ?_
          refine lv_iload_n (pc := 59) hx hb dX11_weigh_59 rfl (lv_at hl 2 rfl) ?_
          refine va_iast (pc := 60) hx hb hK hP hD hS 2 0 rfl rfl h_8 dX11_weigh_60 (fun H locs hP hD hS => ?_)
          obtain ⟨m_weighKind_10, em_weighKind_10⟩ : ∃ z : Nat → Int32, z = upd m_weighKind m_weighings.toNatClampNeg p2 := ⟨_, rfl⟩
          have hP : va_P G vwCl [oX11 q m_kinds m_weighings m_spanLow m_spanHigh m_events m_days m_edges m_crew m_breakages, aI K (q 5) 40 m_weighHouse_9, aI K (q 6) 40 m_weighKind_10, aI K (q 7) 40 m_weighLess, aI K (q 8) 40 m_weighMore] H := by rw [em_weighKind_10]; exact hP
          have hD : va_D A [oX11 q m_kinds m_weighings m_spanLow m_spanHigh m_events m_days m_edges m_crew m_breakages, aI K (q 5) 40 m_weighHouse_9, aI K (q 6) 40 m_weighKind_10, aI K (q 7) 40 m_weighLess, aI K (q 8) 40 m_weighMore] := by rw [em_weighKind_10]; exact hD
          replace hw := hw m_weighKind_10 em_weighKind_10
          refine lv_aload_n (pc := 61) hx hb dX11_weigh_61 rfl (lv_at hl 0 rfl) ?_
          refine va_get (pc := 62) (D := G) (ci := 11) (v := .ref (q 7)) (C := RX11) (T := TX11) (N := 45) hx hb hts iw_X11_weigh_X11 hown hK hP 0 rfl rfl 8 (by decide) (hts _ (List.mem_of_getElem? (i := 4) rfl)) (fun _ h9 => h9) rfl dX11_weigh_62 ?_
          refine lv_aload_n (pc := 65) hx hb dX11_weigh_65 rfl (lv_at hl 0 rfl) ?_
          refine va_get (pc := 66) (D := G) (ci := 11) (v := .int m_weighings) (C := RX11) (T := TX11) (N := 45) hx hb hts iw_X11_weigh_X11 hown hK hP 0 rfl rfl 5 (by decide) (hts _ (List.mem_of_getElem? (i := 1) rfl)) (fun _ h9 => h9) rfl dX11_weigh_66 ?_
          refine lv_iload_n (pc := 69) hx hb dX11_weigh_69 rfl (lv_at hl 3 rfl) ?_
          refine lv_iload (pc := 70) hx hb dX11_weigh_70 (lv_at hl 4 rfl) ?_
          refine lv_isub (pc := 72) hx hb dX11_weigh_72 ?_
          refine va_iast (pc := 73) hx hb hK hP hD hS 3 0 rfl rfl h_8 dX11_weigh_73 (fun H locs hP hD hS => ?_)
          obtain ⟨m_weighLess_11, em_weighLess_11⟩ : ∃ z : Nat → Int32, z = upd m_weighLess m_weighings.toNatClampNeg (p3 - p4) := ⟨_, rfl⟩
          have hP : va_P G vwCl [oX11 q m_kinds m_weighings m_spanLow m_spanHigh m_events m_days m_edges m_crew m_breakages, aI K (q 5) 40 m_weighHouse_9, aI K (q 6) 40 m_weighKind_10, aI K (q 7) 40 m_weighLess_11, aI K (q 8) 40 m_weighMore] H := by rw [em_weighLess_11]; exact hP
          have hD : va_D A [oX11 q m_kinds m_weighings m_spanLow m_spanHigh m_events m_days m_edges m_crew m_breakages, aI K (q 5) 40 m_weighHouse_9, aI K (q 6) 40 m_weighKind_10, aI K (q 7) 40 m_weighLess_11, aI K (q 8) 40 m_weighMore] := by rw [em_weighLess_11]; exact hD
          replace hw := hw m_weighLess_11 em_weighLess_11
          refine lv_aload_n (pc := 74) hx hb dX11_weigh_74 rfl (lv_at hl 0 rfl) ?_
          refine va_get (pc := 75) (D := G) (ci := 11) (v := .ref (q 8)) (C := RX11) (T := TX11) (N := 45) hx hb hts iw_X11_weigh_X11 hown hK hP 0 rfl rfl 9 (by decide) (hts _ (List.mem_of_getElem? (i := 5) rfl)) (fun _ h9 => h9) rfl dX11_weigh_75 ?_
          refine lv_aload_n (pc := 78) hx hb dX11_weigh_78 rfl (lv_at hl 0 rfl) ?_
          refine va_get (pc := 79) (D := G) (ci := 11) (v := .int m_weighings) (C := RX11) (T := TX11) (N := 45) hx hb hts iw_X11_weigh_X11 hown hK hP 0 rfl rfl 5 (by decide) (hts _ (List.mem_of_getElem? (i := 1) rfl)) (fun _ h9 => h9) rfl dX11_weigh_79 ?_
          refine lv_iload_n (pc := 82) hx hb dX11_weigh_82 rfl (lv_at hl 3 rfl) ?_
          refine lv_iload (pc := 83) hx hb dX11_weigh_83 (lv_at hl 4 rfl) ?_
          refine lv_iadd (pc := 85) hx hb dX11_weigh_85 ?_
          refine va_iast (pc := 86) hx hb hK hP hD hS 4 0 rfl rfl h_8 dX11_weigh_86 (fun H locs hP hD hS => ?_)
          obtain ⟨m_weighMore_12, em_weighMore_12⟩ : ∃ z : Nat → Int32, z = upd m_weighMore m_weighings.toNatClampNeg (p3 + p4) := ⟨_, rfl⟩
          have hP : va_P G vwCl [oX11 q m_kinds m_weighings m_spanLow m_spanHigh m_events m_days m_edges m_crew m_breakages, aI K (q 5) 40 m_weighHouse_9, aI K (q 6) 40 m_weighKind_10, aI K (q 7) 40 m_weighLess_11, aI K (q 8) 40 m_weighMore_12] H := by rw [em_weighMore_12]; exact hP
          have hD : va_D A [oX11 q m_kinds m_weighings m_spanLow m_spanHigh m_events m_days m_edges m_crew m_breakages, aI K (q 5) 40 m_weighHouse_9, aI K (q 6) 40 m_weighKind_10, aI K (q 7) 40 m_weighLess_11, aI K (q 8) 40 m_weighMore_12] := by rw [em_weighMore_12]; exact hD
          replace hw := hw m_weighMore_12 em_weighMore_12
          refine lv_aload_n (pc := 87) hx hb dX11_weigh_87 rfl (lv_at hl 0 rfl) ?_
          refine lv_dup (pc := 88) hx hb dX11_weigh_88 rfl ?_
          refine va_get (pc := 89) (D := G) (ci := 11) (v := .int m_weighings) (C := RX11) (T := TX11) (N := 45) hx hb hts iw_X11_weigh_X11 hown hK hP 0 rfl rfl 5 (by decide) (hts _ (List.mem_of_getElem? (i := 1) rfl)) (fun _ h9 => h9) rfl dX11_weigh_89 ?_
          refine lv_iconst (pc := 92) (v := (1 : Int32)) hx hb dX11_weigh_92 (by decide) ?_
          refine lv_iadd (pc := 93) hx hb dX11_weigh_93 ?_
          refine lv_topi (fun y_13 ey_13 => ?_)
          replace hw := hw y_13 ey_13
          refine va_put (pc := 94) (D := G) (ci := 11) (v := .int y_13) (ty := .int) (C := RX11) (T := TX11) (N := 45) hx hb hts iw_X11_weigh_X11 tyX11 tyX11_ok nmX11 hown hK hP hD hS 0 rfl rfl 5 (by decide) (hts _ (List.mem_of_getElem? (i := 1) rfl)) (fun _ h9 => h9) rfl (by decide +kernel) rfl rfl (Nat.le_of_ble_eq_true rfl) dX11_weigh_94 (fun H locs hP hD hS => ?_)
          have hP : va_P G vwCl [oX11 q m_kinds y_13 m_spanLow m_spanHigh m_events m_days m_edges m_crew m_breakages, aI K (q 5) 40 m_weighHouse_9, aI K (q 6) 40 m_weighKind_10, aI K (q 7) 40 m_weighLess_11, aI K (q 8) 40 m_weighMore_12] H := hP
          have hD : va_D A [oX11 q m_kinds y_13 m_spanLow m_spanHigh m_events m_days m_edges m_crew m_breakages, aI K (q 5) 40 m_weighHouse_9, aI K (q 6) 40 m_weighKind_10, aI K (q 7) 40 m_weighLess_11, aI K (q 8) 40 m_weighMore_12] := hD
          refine lv_aload_n (pc := 97) hx hb dX11_weigh_97 rfl (lv_at hl 0 rfl) ?_
          refine va_get (pc := 98) (D := G) (ci := 11) (v := .int y_13) (C := RX11) (T := TX11) (N := 45) hx hb hts iw_X11_weigh_X11 hown hK hP 0 rfl rfl 5 (by decide) (hts _ (List.mem_of_getElem? (i := 1) rfl)) (fun _ h9 => h9) rfl dX11_weigh_98 ?_
          refine lv_iconst (pc := 101) (v := (1 : Int32)) hx hb dX11_weigh_101 (by decide) ?_
          refine lv_isub (pc := 102) hx hb dX11_weigh_102 ?_
          exact hRetI (S := Int32 × (Nat → Int32) × (Nat → Int32) × (Nat → Int32) × (Nat → Int32)) (y_13, m_weighHouse_9, m_weighKind_10, m_weighLess_11, m_weighMore_12) hx hb hr hlocks hQ hw hP hK hD hS dX11_weigh_103
        · replace hw := hw.1 c_7
          refine lv_bipush (pc := 38) (v := (-4 : Int32)) hx hb dX11_weigh_38 (by decide) ?_
          exact hRetI (S := Int32 × (Nat → Int32) × (Nat → Int32) × (Nat → Int32) × (Nat → Int32)) (m_weighings, m_weighHouse, m_weighKind, m_weighLess, m_weighMore) hx hb hr hlocks hQ hw hP hK hD hS dX11_weigh_40
      · replace hw := hw.1 c_6
        refine lv_bipush (pc := 26) (v := (-2 : Int32)) hx hb dX11_weigh_26 (by decide) ?_
        exact hRetI (S := Int32 × (Nat → Int32) × (Nat → Int32) × (Nat → Int32) × (Nat → Int32)) (m_weighings, m_weighHouse, m_weighKind, m_weighLess, m_weighMore) hx hb hr hlocks hQ hw hP hK hD hS dX11_weigh_28
    · replace hw := hw.1 c_4
      refine lv_iconst (pc := 15) (v := (-1 : Int32)) hx hb dX11_weigh_15 (by decide) ?_
      exact hRetI (S := Int32 × (Nat → Int32) × (Nat → Int32) × (Nat → Int32) × (Nat → Int32)) (m_weighings, m_weighHouse, m_weighKind, m_weighLess, m_weighMore) hx hb hr hlocks hQ hw hP hK hD hS dX11_weigh_16
def P_X11_drop (post : Int32 → (Nat → Int32) → Prop) (p1 : Int32) (m_weighings : Int32) (m_isDropped : Nat → Int32) : Prop :=
  P_X11_in (fun r_1 => ((r_1 = (0 : Int32) → post (-1 : Int32) m_isDropped) ∧ (¬ r_1 = (0 : Int32) → vp_in p1 40 ∧ (((m_isDropped p1.toNatClampNeg) = (0 : Int32) → ∀ m_isDropped_5 : Nat → Int32, m_isDropped_5 = upd m_isDropped p1.toNatClampNeg (vp_nar .boolean (1 : Int32)) → post (1 : Int32) m_isDropped_5) ∧ (¬ (m_isDropped p1.toNatClampNeg) = (0 : Int32) → post (-3 : Int32) m_isDropped))))) p1.toInt64 (0 : Int64) (m_weighings - (1 : Int32)).toInt64
abbrev rm_X11_drop : Room := { frames := 1, cells := 0, slots := 0, locals := 25 }
theorem iw_X11_drop_X11 : ∀ w ∈ wsX110, w ∈ wsX11_drop := by decide +kernel
set_option maxHeartbeats 4000000 in
set_option maxRecDepth 100000 in
theorem c_X11_drop (l : Launch) (G : va_G) (K : ClassId × ClassId × ClassId) (tb q : Nat → Nat) (sz : Nat) (m_kinds : Int32) (m_spanLow : Int32) (m_spanHigh : Int32) (m_events : Int32) (m_days : Int32) (m_edges : Int32) (m_crew : Int32) (m_breakages : Int32) (post : Int32 → (Nat → Int32) → Prop) (p1 : Int32) (m_weighings : Int32) (m_isDropped : Nat → Int32) (hw : P_X11_drop post p1 m_weighings m_isDropped) : Met l yX11_drop wsX11_drop rm_X11_drop (va_Pc [.ref (q 0), .int p1] (hPre G K tb [oX11 q m_kinds m_weighings m_spanLow m_spanHigh m_events m_days m_edges m_crew m_breakages, aZ K (q 9) 40 m_isDropped] sz)) (va_Qi (fun (r : Int32) (u : (Nat → Int32)) => post r u) (fun u => hB G K (va_A [oX11 q m_kinds m_weighings m_spanLow m_spanHigh m_events m_days m_edges m_crew m_breakages, aZ K (q 9) 40 m_isDropped] sz) [oX11 q m_kinds m_weighings m_spanLow m_spanHigh m_events m_days m_edges m_crew m_breakages, aZ K (q 9) 40 u]) (va_A [oX11 q m_kinds m_weighings m_spanLow m_spanHigh m_events m_days m_edges m_crew m_breakages, aZ K (q 9) 40 m_isDropped] sz)) 0 0 (va_A [oX11 q m_kinds m_weighings m_spanLow m_spanHigh m_events m_days m_edges m_crew m_breakages, aZ K (q 9) 40 m_isDropped] sz) := by
  refine hMet (fun A => va_Qi (fun (r : Int32) (u : (Nat → Int32)) => post r u) (fun u => hB G K A [oX11 q m_kinds m_weighings m_spanLow m_spanHigh m_events m_days m_edges m_crew m_breakages, aZ K (q 9) 40 u]) A) (by decide) rfl (Nat.le_of_ble_eq_true rfl) ?_
  intro p e s m av below meth c A Q ls hx hb hr hml hts hown hlocks hnm hA hP hK hD hS hE hQ hl
  have hts : ∀ w ∈ wsX11_drop, w.before av s = true := hts
  have hown : s.vm.findClass RX11 = some m.cls := hown
  have hl : lv_has ls 2 [(0, .ref (q 0)), (1, .int p1)] := hl
  unfold P_X11_drop at hw
  refine lv_iload_n (pc := 0) hx hb dX11_drop_0 rfl (lv_at hl 1 rfl) ?_
  refine lv_i2l (pc := 1) hx hb dX11_drop_1 rfl ?_
  refine lv_lconst (pc := 2) (v := (0 : Int64)) hx hb dX11_drop_2 (by decide) ?_
  refine lv_aload_n (pc := 3) hx hb dX11_drop_3 rfl (lv_at hl 0 rfl) ?_
  refine va_get (pc := 4) (D := G) (ci := 11) (v := .int m_weighings) (C := RX11) (T := TX11) (N := 45) hx hb hts iw_X11_drop_X11 hown hK hP 0 rfl rfl 5 (by decide) (hts _ (List.mem_of_getElem? (i := 1) rfl)) (fun _ h9 => h9) rfl dX11_drop_4 ?_
  refine lv_iconst (pc := 7) (v := (1 : Int32)) hx hb dX11_drop_7 (by decide) ?_
  refine lv_isub (pc := 8) hx hb dX11_drop_8 ?_
  refine lv_i2l (pc := 9) hx hb dX11_drop_9 rfl ?_
  refine hCallI (pc := 10) (wr := [oX11 q m_kinds m_weighings m_spanLow m_spanHigh m_events m_days m_edges m_crew m_breakages, aZ K (q 9) 40 m_isDropped]) (wsf := fun (u : Unit) => []) [] [0, 1] (va_runS (As := [.long p1.toInt64, .long (0 : Int64), .long (m_weighings - (1 : Int32)).toInt64]) (rest := []) ⟨hx, hb, hml, hown, hts⟩ (c_X11_in l G K tb q s.heap.size _ p1.toInt64 (0 : Int64) (m_weighings - (1 : Int32)).toInt64 hw) (va_cwS 3 hts gX11_drop_X11_in rfl rfl rfl (by decide +kernel) ⟨Nat.le_of_ble_eq_true rfl, Nat.le_of_ble_eq_true rfl⟩) (hPreS hE hP hK hD hS hA [] (by decide) rfl rfl) rfl rfl hl.1 rfl (lv_room (Nat.le_of_ble_eq_true rfl)) dX11_drop_10 ⟨Nat.zero_le _, Nat.zero_le _⟩) hP hD hS hA rfl rfl (by decide) (by decide) (fun r_1 u H locs hw hP hD hS => ?_)
  have hP : va_P G vwCl [oX11 q m_kinds m_weighings m_spanLow m_spanHigh m_events m_days m_edges m_crew m_breakages, aZ K (q 9) 40 m_isDropped] H := hP.sub [0, 1] rfl
  have hD : va_D A [oX11 q m_kinds m_weighings m_spanLow m_spanHigh m_events m_days m_edges m_crew m_breakages, aZ K (q 9) 40 m_isDropped] := hD.sub [0, 1] (by decide) rfl
  refine lv_if_ne (pc := 13) (tgt := 18) hx hb dX11_drop_13 (by decide) (fun c_2 => ?_) (fun c_2 => ?_)
  · replace hw := hw.2 c_2
    refine lv_aload_n (pc := 18) hx hb dX11_drop_18 rfl (lv_at hl 0 rfl) ?_
    refine va_get (pc := 19) (D := G) (ci := 11) (v := .ref (q 9)) (C := RX11) (T := TX11) (N := 45) hx hb hts iw_X11_drop_X11 hown hK hP 0 rfl rfl 10 (by decide) (hts _ (List.mem_of_getElem? (i := 2) rfl)) (fun _ h9 => h9) rfl dX11_drop_19 ?_
    refine lv_iload_n (pc := 22) hx hb dX11_drop_22 rfl (lv_at hl 1 rfl) ?_
    obtain ⟨h_3, hw⟩ := hw
    refine va_zald (pc := 23) hx hb hK hP 1 2 rfl rfl h_3 dX11_drop_23 ?_
    refine lv_if_eq (pc := 24) (tgt := 30) hx hb dX11_drop_24 (by decide) (fun c_4 => ?_) (fun c_4 => ?_)
    · replace hw := hw.1 c_4
      refine lv_aload_n (pc := 30) hx hb dX11_drop_30 rfl (lv_at hl 0 rfl) ?_
      refine va_get (pc := 31) (D := G) (ci := 11) (v := .ref (q 9)) (C := RX11) (T := TX11) (N := 45) hx hb hts iw_X11_drop_X11 hown hK hP 0 rfl rfl 10 (by decide) (hts _ (List.mem_of_getElem? (i := 2) rfl)) (fun _ h9 => h9) rfl dX11_drop_31 ?_
      refine lv_iload_n (pc := 34) hx hb dX11_drop_34 rfl (lv_at hl 1 rfl) ?_
      refine lv_iconst (pc := 35) (v := (1 : Int32)) hx hb dX11_drop_35 (by decide) ?_
      refine va_zast (pc := 36) hx hb hK hP hD hS 1 2 rfl rfl h_3 dX11_drop_36 (fun H locs hP hD hS => ?_)
      obtain ⟨m_isDropped_5, em_isDropped_5⟩ : ∃ z : Nat → Int32, z = upd m_isDropped p1.toNatClampNeg (vp_nar .boolean (1 : Int32)) := ⟨_, rfl⟩
      have hP : va_P G vwCl [oX11 q m_kinds m_weighings m_spanLow m_spanHigh m_events m_days m_edges m_crew m_breakages, aZ K (q 9) 40 m_isDropped_5] H := by rw [em_isDropped_5]; exact hP
      have hD : va_D A [oX11 q m_kinds m_weighings m_spanLow m_spanHigh m_events m_days m_edges m_crew m_breakages, aZ K (q 9) 40 m_isDropped_5] := by rw [em_isDropped_5]; exact hD
      replace hw := hw m_isDropped_5 em_isDropped_5
      refine lv_iconst (pc := 37) (v := (1 : Int32)) hx hb dX11_drop_37 (by decide) ?_
      exact hRetI (S := (Nat → Int32)) m_isDropped_5 hx hb hr hlocks hQ hw hP hK hD hS dX11_drop_38
    · replace hw := hw.2 c_4
      refine lv_bipush (pc := 27) (v := (-3 : Int32)) hx hb dX11_drop_27 (by decide) ?_
      exact hRetI (S := (Nat → Int32)) m_isDropped hx hb hr hlocks hQ hw hP hK hD hS dX11_drop_29
  · replace hw := hw.1 c_2
    refine lv_iconst (pc := 16) (v := (-1 : Int32)) hx hb dX11_drop_16 (by decide) ?_
    exact hRetI (S := (Nat → Int32)) m_isDropped hx hb hr hlocks hQ hw hP hK hD hS dX11_drop_17
def P_X11_laySpan (post : Int32 → Int32 → Int32 → Prop) (p1 : Int32) (p2 : Int32) (p3 : Int32) (m_low : Nat → Int32) (m_high : Nat → Int32) (m_weighHouse : Nat → Int32) (m_weighKind : Nat → Int32) (m_weighLess : Nat → Int32) (m_weighMore : Nat → Int32) (m_isDropped : Nat → Int32) (m_spanLow : Int32) (m_spanHigh : Int32) : Prop :=
  ∀ (X15 : Int32 → Int32 → Int32 → Prop),
  (∀ (x4 : Int32) (m_spanLow : Int32) (m_spanHigh : Int32), (((p3 ≤ x4 → ∀ v_3 : Int32, v_3 = (if m_spanHigh < m_spanLow then (0 : Int32) else (1 : Int32)) → post v_3 m_spanLow m_spanHigh) ∧ (¬ p3 ≤ x4 → vp_in x4 40 ∧ (((m_isDropped x4.toNatClampNeg) = (0 : Int32) → (((m_weighHouse x4.toNatClampNeg) = p1 → (((m_weighKind x4.toNatClampNeg) = p2 → vp_in p2 6 ∧ ¬ (m_low p2.toNatClampNeg) = 0 ∧ ∀ y_13 : Int32, y_13 = ((m_weighMore x4.toNatClampNeg) / (m_low p2.toNatClampNeg)) → (((0 : Int32) < (m_weighLess x4.toNatClampNeg) → (¬ (m_high p2.toNatClampNeg) = 0 ∧ True)) ∧ (¬ (0 : Int32) < (m_weighLess x4.toNatClampNeg) → True)) ∧ ∀ v_16 : Int32, v_16 = (if (0 : Int32) < (m_weighLess x4.toNatClampNeg) then ((((m_weighLess x4.toNatClampNeg) + (m_high p2.toNatClampNeg)) - (1 : Int32)) / (m_high p2.toNatClampNeg)) else (0 : Int32)) → ∀ v_18 : Int32, v_18 = (if m_spanHigh ≤ y_13 then m_spanHigh else y_13) → ∀ v_20 : Int32, v_20 = (if v_16 ≤ m_spanLow then m_spanLow else v_16) → ∀ y_21 : Int32, y_21 = (x4 + (1 : Int32)) → X15 y_21 v_20 v_18) ∧ (¬ (m_weighKind x4.toNatClampNeg) = p2 → ∀ y_10 : Int32, y_10 = (x4 + (1 : Int32)) → X15 y_10 m_spanLow m_spanHigh))) ∧ (¬ (m_weighHouse x4.toNatClampNeg) = p1 → ∀ y_8 : Int32, y_8 = (x4 + (1 : Int32)) → X15 y_8 m_spanLow m_spanHigh))) ∧ (¬ (m_isDropped x4.toNatClampNeg) = (0 : Int32) → ∀ y_6 : Int32, y_6 = (x4 + (1 : Int32)) → X15 y_6 m_spanLow m_spanHigh))))) → X15 x4 m_spanLow m_spanHigh) →
  X15 (0 : Int32) (0 : Int32) (2000 : Int32)
abbrev rm_X11_laySpan : Room := { frames := 0, cells := 0, slots := 0, locals := 0 }
theorem iw_X11_laySpan_X11 : ∀ w ∈ wsX110, w ∈ wsX11_laySpan := by decide +kernel
set_option maxHeartbeats 4000000 in
set_option maxRecDepth 100000 in
theorem c_X11_laySpan (l : Launch) (G : va_G) (K : ClassId × ClassId × ClassId) (tb q : Nat → Nat) (sz : Nat) (m_kinds : Int32) (m_weighings : Int32) (m_events : Int32) (m_days : Int32) (m_edges : Int32) (m_crew : Int32) (m_breakages : Int32) (post : Int32 → Int32 → Int32 → Prop) (p1 : Int32) (p2 : Int32) (p3 : Int32) (m_low : Nat → Int32) (m_high : Nat → Int32) (m_weighHouse : Nat → Int32) (m_weighKind : Nat → Int32) (m_weighLess : Nat → Int32) (m_weighMore : Nat → Int32) (m_isDropped : Nat → Int32) (m_spanLow : Int32) (m_spanHigh : Int32) (hw : P_X11_laySpan post p1 p2 p3 m_low m_high m_weighHouse m_weighKind m_weighLess m_weighMore m_isDropped m_spanLow m_spanHigh) : Met l yX11_laySpan wsX11_laySpan rm_X11_laySpan (va_Pc [.ref (q 0), .int p1, .int p2, .int p3] (hPre G K tb [oX11 q m_kinds m_weighings m_spanLow m_spanHigh m_events m_days m_edges m_crew m_breakages, aI K (q 1) 6 m_low, aI K (q 2) 6 m_high, aI K (q 5) 40 m_weighHouse, aI K (q 6) 40 m_weighKind, aI K (q 7) 40 m_weighLess, aI K (q 8) 40 m_weighMore, aZ K (q 9) 40 m_isDropped] sz)) (va_Qi (fun (r : Int32) (u : Int32 × Int32) => post r u.1 u.2) (fun u => hB G K (va_A [oX11 q m_kinds m_weighings m_spanLow m_spanHigh m_events m_days m_edges m_crew m_breakages, aI K (q 1) 6 m_low, aI K (q 2) 6 m_high, aI K (q 5) 40 m_weighHouse, aI K (q 6) 40 m_weighKind, aI K (q 7) 40 m_weighLess, aI K (q 8) 40 m_weighMore, aZ K (q 9) 40 m_isDropped] sz) [oX11 q m_kinds m_weighings u.1 u.2 m_events m_days m_edges m_crew m_breakages, aI K (q 1) 6 m_low, aI K (q 2) 6 m_high, aI K (q 5) 40 m_weighHouse, aI K (q 6) 40 m_weighKind, aI K (q 7) 40 m_weighLess, aI K (q 8) 40 m_weighMore, aZ K (q 9) 40 m_isDropped]) (va_A [oX11 q m_kinds m_weighings m_spanLow m_spanHigh m_events m_days m_edges m_crew m_breakages, aI K (q 1) 6 m_low, aI K (q 2) 6 m_high, aI K (q 5) 40 m_weighHouse, aI K (q 6) 40 m_weighKind, aI K (q 7) 40 m_weighLess, aI K (q 8) 40 m_weighMore, aZ K (q 9) 40 m_isDropped] sz)) 0 0 (va_A [oX11 q m_kinds m_weighings m_spanLow m_spanHigh m_events m_days m_edges m_crew m_breakages, aI K (q 1) 6 m_low, aI K (q 2) 6 m_high, aI K (q 5) 40 m_weighHouse, aI K (q 6) 40 m_weighKind, aI K (q 7) 40 m_weighLess, aI K (q 8) 40 m_weighMore, aZ K (q 9) 40 m_isDropped] sz) := by
  refine hMet (fun A => va_Qi (fun (r : Int32) (u : Int32 × Int32) => post r u.1 u.2) (fun u => hB G K A [oX11 q m_kinds m_weighings u.1 u.2 m_events m_days m_edges m_crew m_breakages, aI K (q 1) 6 m_low, aI K (q 2) 6 m_high, aI K (q 5) 40 m_weighHouse, aI K (q 6) 40 m_weighKind, aI K (q 7) 40 m_weighLess, aI K (q 8) 40 m_weighMore, aZ K (q 9) 40 m_isDropped]) A) (by decide) rfl (Nat.le_of_ble_eq_true rfl) ?_
  intro p e s m av below meth c A Q ls hx hb hr hml hts hown hlocks hnm hA hP hK hD hS hE hQ hl
  have hts : ∀ w ∈ wsX11_laySpan, w.before av s = true := hts
  have hown : s.vm.findClass RX11 = some m.cls := hown
  have hl : lv_has ls 7 [(0, .ref (q 0)), (1, .int p1), (2, .int p2), (3, .int p3)] := hl
  unfold P_X11_laySpan at hw
  replace hw := hw (fun (x4 : Int32) (m_spanLow : Int32) (m_spanHigh : Int32) => ∀ (H : Heap) (locs : List Loc) (ls : Array Slot), va_P G vwCl [oX11 q m_kinds m_weighings m_spanLow m_spanHigh m_events m_days m_edges m_crew m_breakages, aI K (q 1) 6 m_low, aI K (q 2) 6 m_high, aI K (q 5) 40 m_weighHouse, aI K (q 6) 40 m_weighKind, aI K (q 7) 40 m_weighLess, aI K (q 8) 40 m_weighMore, aZ K (q 9) 40 m_isDropped] H → va_D A [oX11 q m_kinds m_weighings m_spanLow m_spanHigh m_events m_days m_edges m_crew m_breakages, aI K (q 1) 6 m_low, aI K (q 2) 6 m_high, aI K (q 5) 40 m_weighHouse, aI K (q 6) 40 m_weighKind, aI K (q 7) 40 m_weighLess, aI K (q 8) 40 m_weighMore, aZ K (q 9) 40 m_isDropped] → va_S A s.heap H locs → lv_has ls 7 [(0, .ref (q 0)), (1, .int p1), (2, .int p2), (3, .int p3), (4, .int x4)] → W p l e rm_X11_laySpan s m av below meth c H locs 0 0 Q (F0 m 15 ls []))
  replace hw := hw (by
    intro x4 m_spanLow m_spanHigh hw H locs ls hP hD hS hl
    refine lv_iload (pc := 15) hx hb dX11_laySpan_15 (lv_at hl 4 rfl) ?_
    refine lv_iload_n (pc := 17) hx hb dX11_laySpan_17 rfl (lv_at hl 3 rfl) ?_
    refine lv_icmp_ge (pc := 18) (tgt := 158) hx hb dX11_laySpan_18 (by decide) (fun c_1 => ?_) (fun c_1 => ?_)
    · replace hw := hw.1 c_1
      refine lv_aload_n (pc := 158) hx hb dX11_laySpan_158 rfl (lv_at hl 0 rfl) ?_
      refine va_get (pc := 159) (D := G) (ci := 11) (v := .int m_spanLow) (C := RX11) (T := TX11) (N := 45) hx hb hts iw_X11_laySpan_X11 hown hK hP 0 rfl rfl 11 (by decide) (hts _ (List.mem_of_getElem? (i := 1) rfl)) (fun _ h9 => h9) rfl dX11_laySpan_159 ?_
      refine lv_aload_n (pc := 162) hx hb dX11_laySpan_162 rfl (lv_at hl 0 rfl) ?_
      refine va_get (pc := 163) (D := G) (ci := 11) (v := .int m_spanHigh) (C := RX11) (T := TX11) (N := 45) hx hb hts iw_X11_laySpan_X11 hown hK hP 0 rfl rfl 12 (by decide) (hts _ (List.mem_of_getElem? (i := 2) rfl)) (fun _ h9 => h9) rfl dX11_laySpan_163 ?_
      have K_v_3 : ∀ v_3 : Int32, v_3 = (if m_spanHigh < m_spanLow then (0 : Int32) else (1 : Int32)) → W p l e rm_X11_laySpan s m av below meth c H locs 0 0 Q (F0 m 174 ls [.int v_3]) := by
        intro v_3 ev_3
        replace hw := hw v_3 ev_3
        exact hRetZ (S := Int32 × Int32) (m_spanLow, m_spanHigh) hx hb hr hlocks hQ (by rw [ev_3]; (repeat' split) <;> first | exact Or.inl rfl | exact Or.inr rfl) hw hP hK hD hS dX11_laySpan_174
      refine lv_icmp_gt (pc := 166) (tgt := 173) hx hb dX11_laySpan_166 (by decide) (fun c_2 => ?_) (fun c_2 => ?_)
      · skip
        refine lv_iconst (pc := 173) (v := (0 : Int32)) hx hb dX11_laySpan_173 (by decide) ?_
        exact K_v_3 _ (by rw [if_pos c_2])
      · skip
        refine lv_iconst (pc := 169) (v := (1 : Int32)) hx hb dX11_laySpan_169 (by decide) ?_
        refine lv_goto (pc := 170) (tgt := 174) hx hb dX11_laySpan_170 (by decide) ?_
        exact K_v_3 _ (by rw [if_neg c_2])
    · replace hw := hw.2 c_1
      refine lv_aload_n (pc := 21) hx hb dX11_laySpan_21 rfl (lv_at hl 0 rfl) ?_
      refine va_get (pc := 22) (D := G) (ci := 11) (v := .ref (q 9)) (C := RX11) (T := TX11) (N := 45) hx hb hts iw_X11_laySpan_X11 hown hK hP 0 rfl rfl 10 (by decide) (hts _ (List.mem_of_getElem? (i := 3) rfl)) (fun _ h9 => h9) rfl dX11_laySpan_22 ?_
      refine lv_iload (pc := 25) hx hb dX11_laySpan_25 (lv_at hl 4 rfl) ?_
      obtain ⟨h_4, hw⟩ := hw
      refine va_zald (pc := 27) hx hb hK hP 7 2 rfl rfl h_4 dX11_laySpan_27 ?_
      refine lv_if_ne (pc := 28) (tgt := 152) hx hb dX11_laySpan_28 (by decide) (fun c_5 => ?_) (fun c_5 => ?_)
      · replace hw := hw.2 c_5
        obtain ⟨y_6, ey_6⟩ : ∃ z : Int32, z = (x4 + (1 : Int32)) := ⟨_, rfl⟩
        replace hw := hw y_6 ey_6
        refine lv_iinc (pc := 152) (v := y_6) (lv' := [(4, .int y_6), (0, .ref (q 0)), (1, .int p1), (2, .int p2), (3, .int p3)]) hx hb dX11_laySpan_152 hl (k := 4) rfl (by rw [ey_6]; rfl) (by decide) rfl (fun ls hl => ?_)
        refine lv_goto (pc := 155) (tgt := 15) hx hb dX11_laySpan_155 (by decide) ?_
        exact hw _ _ _ hP hD hS (lv_sub hl [1, 2, 3, 4, 0] rfl)
      · replace hw := hw.1 c_5
        refine lv_aload_n (pc := 31) hx hb dX11_laySpan_31 rfl (lv_at hl 0 rfl) ?_
        refine va_get (pc := 32) (D := G) (ci := 11) (v := .ref (q 5)) (C := RX11) (T := TX11) (N := 45) hx hb hts iw_X11_laySpan_X11 hown hK hP 0 rfl rfl 6 (by decide) (hts _ (List.mem_of_getElem? (i := 4) rfl)) (fun _ h9 => h9) rfl dX11_laySpan_32 ?_
        refine lv_iload (pc := 35) hx hb dX11_laySpan_35 (lv_at hl 4 rfl) ?_
        refine va_iald (pc := 37) hx hb hK hP 3 0 rfl rfl h_4 dX11_laySpan_37 ?_
        refine lv_iload_n (pc := 38) hx hb dX11_laySpan_38 rfl (lv_at hl 1 rfl) ?_
        refine lv_icmp_ne (pc := 39) (tgt := 152) hx hb dX11_laySpan_39 (by decide) (fun c_7 => ?_) (fun c_7 => ?_)
        · replace hw := hw.2 c_7
          obtain ⟨y_8, ey_8⟩ : ∃ z : Int32, z = (x4 + (1 : Int32)) := ⟨_, rfl⟩
          replace hw := hw y_8 ey_8
          refine lv_iinc (pc := 152) (v := y_8) (lv' := [(4, .int y_8), (0, .ref (q 0)), (1, .int p1), (2, .int p2), (3, .int p3)]) hx hb dX11_laySpan_152 hl (k := 4) rfl (by rw [ey_8]; rfl) (by decide) rfl (fun ls hl => ?_)
          refine lv_goto (pc := 155) (tgt := 15) hx hb dX11_laySpan_155 (by decide) ?_
          exact hw _ _ _ hP hD hS (lv_sub hl [1, 2, 3, 4, 0] rfl)
        · replace hw := hw.1 c_7
          refine lv_aload_n (pc := 42) hx hb dX11_laySpan_42 rfl (lv_at hl 0 rfl) ?_
          refine va_get (pc := 43) (D := G) (ci := 11) (v := .ref (q 6)) (C := RX11) (T := TX11) (N := 45) hx hb hts iw_X11_laySpan_X11 hown hK hP 0 rfl rfl 7 (by decide) (hts _ (List.mem_of_getElem? (i := 5) rfl)) (fun _ h9 => h9) rfl dX11_laySpan_43 ?_
          refine lv_iload (pc := 46) hx hb dX11_laySpan_46 (lv_at hl 4 rfl) ?_
          refine va_iald (pc := 48) hx hb hK hP 4 0 rfl rfl h_4 dX11_laySpan_48 ?_
          refine lv_iload_n (pc := 49) hx hb dX11_laySpan_49 rfl (lv_at hl 2 rfl) ?_
          refine lv_icmp_ne (pc := 50) (tgt := 152) hx hb dX11_laySpan_50 (by decide) (fun c_9 => ?_) (fun c_9 => ?_)
          · replace hw := hw.2 c_9
            obtain ⟨y_10, ey_10⟩ : ∃ z : Int32, z = (x4 + (1 : Int32)) := ⟨_, rfl⟩
            replace hw := hw y_10 ey_10
            refine lv_iinc (pc := 152) (v := y_10) (lv' := [(4, .int y_10), (0, .ref (q 0)), (1, .int p1), (2, .int p2), (3, .int p3)]) hx hb dX11_laySpan_152 hl (k := 4) rfl (by rw [ey_10]; rfl) (by decide) rfl (fun ls hl => ?_)
            refine lv_goto (pc := 155) (tgt := 15) hx hb dX11_laySpan_155 (by decide) ?_
            exact hw _ _ _ hP hD hS (lv_sub hl [1, 2, 3, 4, 0] rfl)
          · replace hw := hw.1 c_9
            refine lv_aload_n (pc := 53) hx hb dX11_laySpan_53 rfl (lv_at hl 0 rfl) ?_
            refine va_get (pc := 54) (D := G) (ci := 11) (v := .ref (q 8)) (C := RX11) (T := TX11) (N := 45) hx hb hts iw_X11_laySpan_X11 hown hK hP 0 rfl rfl 9 (by decide) (hts _ (List.mem_of_getElem? (i := 6) rfl)) (fun _ h9 => h9) rfl dX11_laySpan_54 ?_
            refine lv_iload (pc := 57) hx hb dX11_laySpan_57 (lv_at hl 4 rfl) ?_
            refine va_iald (pc := 59) hx hb hK hP 6 0 rfl rfl h_4 dX11_laySpan_59 ?_
            refine lv_aload_n (pc := 60) hx hb dX11_laySpan_60 rfl (lv_at hl 0 rfl) ?_
            refine va_get (pc := 61) (D := G) (ci := 11) (v := .ref (q 1)) (C := RX11) (T := TX11) (N := 45) hx hb hts iw_X11_laySpan_X11 hown hK hP 0 rfl rfl 1 (by decide) (hts _ (List.mem_of_getElem? (i := 7) rfl)) (fun _ h9 => h9) rfl dX11_laySpan_61 ?_
            refine lv_iload_n (pc := 64) hx hb dX11_laySpan_64 rfl (lv_at hl 2 rfl) ?_
            obtain ⟨h_11, hw⟩ := hw
            refine va_iald (pc := 65) hx hb hK hP 1 0 rfl rfl h_11 dX11_laySpan_65 ?_
            obtain ⟨h_12, hw⟩ := hw
            refine lv_idiv (pc := 66) hx hb dX11_laySpan_66 h_12 ?_
            refine lv_topi (fun y_13 ey_13 => ?_)
            replace hw := hw y_13 ey_13
            refine lv_istore (pc := 67) (lv' := [(5, .int y_13), (0, .ref (q 0)), (1, .int p1), (2, .int p2), (3, .int p3), (4, .int x4)]) hx hb dX11_laySpan_67 hl (by decide) rfl (fun ls hl => ?_)
            refine lv_aload_n (pc := 69) hx hb dX11_laySpan_69 rfl (lv_at hl 1 rfl) ?_
            refine va_get (pc := 70) (D := G) (ci := 11) (v := .ref (q 7)) (C := RX11) (T := TX11) (N := 45) hx hb hts iw_X11_laySpan_X11 hown hK hP 0 rfl rfl 8 (by decide) (hts _ (List.mem_of_getElem? (i := 8) rfl)) (fun _ h9 => h9) rfl dX11_laySpan_70 ?_
            refine lv_iload (pc := 73) hx hb dX11_laySpan_73 (lv_at hl 5 rfl) ?_
            refine va_iald (pc := 75) hx hb hK hP 5 0 rfl rfl h_4 dX11_laySpan_75 ?_
            obtain ⟨hsf, hw⟩ := hw
            have K_v_16 : ∀ v_16 : Int32, v_16 = (if (0 : Int32) < (m_weighLess x4.toNatClampNeg) then ((((m_weighLess x4.toNatClampNeg) + (m_high p2.toNatClampNeg)) - (1 : Int32)) / (m_high p2.toNatClampNeg)) else (0 : Int32)) → W p l e rm_X11_laySpan s m av below meth c H locs 0 0 Q (F0 m 106 ls [.int v_16]) := by
              intro v_16 ev_16
              replace hw := hw v_16 ev_16
              refine lv_istore (pc := 106) (lv' := [(6, .int v_16), (5, .int y_13), (0, .ref (q 0)), (1, .int p1), (2, .int p2), (3, .int p3), (4, .int x4)]) hx hb dX11_laySpan_106 hl (by decide) rfl (fun ls hl => ?_)
              refine lv_aload_n (pc := 108) hx hb dX11_laySpan_108 rfl (lv_at hl 2 rfl) ?_
              refine lv_iload (pc := 109) hx hb dX11_laySpan_109 (lv_at hl 1 rfl) ?_
              refine lv_aload_n (pc := 111) hx hb dX11_laySpan_111 rfl (lv_at hl 2 rfl) ?_
              refine va_get (pc := 112) (D := G) (ci := 11) (v := .int m_spanHigh) (C := RX11) (T := TX11) (N := 45) hx hb hts iw_X11_laySpan_X11 hown hK hP 0 rfl rfl 12 (by decide) (hts _ (List.mem_of_getElem? (i := 2) rfl)) (fun _ h9 => h9) rfl dX11_laySpan_112 ?_
              have K_v_18 : ∀ v_18 : Int32, v_18 = (if m_spanHigh ≤ y_13 then m_spanHigh else y_13) → W p l e rm_X11_laySpan s m av below meth c H locs 0 0 Q (F0 m 127 ls [.int v_18, .ref (q 0)]) := by
                intro v_18 ev_18
                replace hw := hw v_18 ev_18
                refine va_put (pc := 127) (D := G) (ci := 11) (v := .int v_18) (ty := .int) (C := RX11) (T := TX11) (N := 45) hx hb hts iw_X11_laySpan_X11 tyX11 tyX11_ok nmX11 hown hK hP hD hS 0 rfl rfl 12 (by decide) (hts _ (List.mem_of_getElem? (i := 2) rfl)) (fun _ h9 => h9) rfl (by decide +kernel) rfl rfl (Nat.le_of_ble_eq_true rfl) dX11_laySpan_127 (fun H locs hP hD hS => ?_)
                have hP : va_P G vwCl [oX11 q m_kinds m_weighings m_spanLow v_18 m_events m_days m_edges m_crew m_breakages, aI K (q 1) 6 m_low, aI K (q 2) 6 m_high, aI K (q 5) 40 m_weighHouse, aI K (q 6) 40 m_weighKind, aI K (q 7) 40 m_weighLess, aI K (q 8) 40 m_weighMore, aZ K (q 9) 40 m_isDropped] H := hP
                have hD : va_D A [oX11 q m_kinds m_weighings m_spanLow v_18 m_events m_days m_edges m_crew m_breakages, aI K (q 1) 6 m_low, aI K (q 2) 6 m_high, aI K (q 5) 40 m_weighHouse, aI K (q 6) 40 m_weighKind, aI K (q 7) 40 m_weighLess, aI K (q 8) 40 m_weighMore, aZ K (q 9) 40 m_isDropped] := hD
                refine lv_aload_n (pc := 130) hx hb dX11_laySpan_130 rfl (lv_at hl 2 rfl) ?_
                refine lv_iload (pc := 131) hx hb dX11_laySpan_131 (lv_at hl 0 rfl) ?_
                refine lv_aload_n (pc := 133) hx hb dX11_laySpan_133 rfl (lv_at hl 2 rfl) ?_
                refine va_get (pc := 134) (D := G) (ci := 11) (v := .int m_spanLow) (C := RX11) (T := TX11) (N := 45) hx hb hts iw_X11_laySpan_X11 hown hK hP 0 rfl rfl 11 (by decide) (hts _ (List.mem_of_getElem? (i := 1) rfl)) (fun _ h9 => h9) rfl dX11_laySpan_134 ?_
                have K_v_20 : ∀ v_20 : Int32, v_20 = (if v_16 ≤ m_spanLow then m_spanLow else v_16) → W p l e rm_X11_laySpan s m av below meth c H locs 0 0 Q (F0 m 149 ls [.int v_20, .ref (q 0)]) := by
                  intro v_20 ev_20
                  replace hw := hw v_20 ev_20
                  refine va_put (pc := 149) (D := G) (ci := 11) (v := .int v_20) (ty := .int) (C := RX11) (T := TX11) (N := 45) hx hb hts iw_X11_laySpan_X11 tyX11 tyX11_ok nmX11 hown hK hP hD hS 0 rfl rfl 11 (by decide) (hts _ (List.mem_of_getElem? (i := 1) rfl)) (fun _ h9 => h9) rfl (by decide +kernel) rfl rfl (Nat.le_of_ble_eq_true rfl) dX11_laySpan_149 (fun H locs hP hD hS => ?_)
                  have hP : va_P G vwCl [oX11 q m_kinds m_weighings v_20 v_18 m_events m_days m_edges m_crew m_breakages, aI K (q 1) 6 m_low, aI K (q 2) 6 m_high, aI K (q 5) 40 m_weighHouse, aI K (q 6) 40 m_weighKind, aI K (q 7) 40 m_weighLess, aI K (q 8) 40 m_weighMore, aZ K (q 9) 40 m_isDropped] H := hP
                  have hD : va_D A [oX11 q m_kinds m_weighings v_20 v_18 m_events m_days m_edges m_crew m_breakages, aI K (q 1) 6 m_low, aI K (q 2) 6 m_high, aI K (q 5) 40 m_weighHouse, aI K (q 6) 40 m_weighKind, aI K (q 7) 40 m_weighLess, aI K (q 8) 40 m_weighMore, aZ K (q 9) 40 m_isDropped] := hD
                  obtain ⟨y_21, ey_21⟩ : ∃ z : Int32, z = (x4 + (1 : Int32)) := ⟨_, rfl⟩
                  replace hw := hw y_21 ey_21
                  refine lv_iinc (pc := 152) (v := y_21) (lv' := [(4, .int y_21), (6, .int v_16), (5, .int y_13), (0, .ref (q 0)), (1, .int p1), (2, .int p2), (3, .int p3)]) hx hb dX11_laySpan_152 hl (k := 6) rfl (by rw [ey_21]; rfl) (by decide) rfl (fun ls hl => ?_)
                  refine lv_goto (pc := 155) (tgt := 15) hx hb dX11_laySpan_155 (by decide) ?_
                  exact hw _ _ _ hP hD hS (lv_sub hl [3, 4, 5, 6, 0] rfl)
                refine lv_icmp_le (pc := 137) (tgt := 145) hx hb dX11_laySpan_137 (by decide) (fun c_19 => ?_) (fun c_19 => ?_)
                · skip
                  refine lv_aload_n (pc := 145) hx hb dX11_laySpan_145 rfl (lv_at hl 2 rfl) ?_
                  refine va_get (pc := 146) (D := G) (ci := 11) (v := .int m_spanLow) (C := RX11) (T := TX11) (N := 45) hx hb hts iw_X11_laySpan_X11 hown hK hP 0 rfl rfl 11 (by decide) (hts _ (List.mem_of_getElem? (i := 1) rfl)) (fun _ h9 => h9) rfl dX11_laySpan_146 ?_
                  exact K_v_20 _ (by rw [if_pos c_19])
                · skip
                  refine lv_iload (pc := 140) hx hb dX11_laySpan_140 (lv_at hl 0 rfl) ?_
                  refine lv_goto (pc := 142) (tgt := 149) hx hb dX11_laySpan_142 (by decide) ?_
                  exact K_v_20 _ (by rw [if_neg c_19])
              refine lv_icmp_ge (pc := 115) (tgt := 123) hx hb dX11_laySpan_115 (by decide) (fun c_17 => ?_) (fun c_17 => ?_)
              · skip
                refine lv_aload_n (pc := 123) hx hb dX11_laySpan_123 rfl (lv_at hl 2 rfl) ?_
                refine va_get (pc := 124) (D := G) (ci := 11) (v := .int m_spanHigh) (C := RX11) (T := TX11) (N := 45) hx hb hts iw_X11_laySpan_X11 hown hK hP 0 rfl rfl 12 (by decide) (hts _ (List.mem_of_getElem? (i := 2) rfl)) (fun _ h9 => h9) rfl dX11_laySpan_124 ?_
                exact K_v_18 _ (by rw [if_pos c_17])
              · skip
                refine lv_iload (pc := 118) hx hb dX11_laySpan_118 (lv_at hl 1 rfl) ?_
                refine lv_goto (pc := 120) (tgt := 127) hx hb dX11_laySpan_120 (by decide) ?_
                exact K_v_18 _ (by rw [if_neg c_17])
            refine lv_if_gt (pc := 76) (tgt := 83) hx hb dX11_laySpan_76 (by decide) (fun c_14 => ?_) (fun c_14 => ?_)
            · replace hsf := hsf.1 c_14
              refine lv_aload_n (pc := 83) hx hb dX11_laySpan_83 rfl (lv_at hl 1 rfl) ?_
              refine va_get (pc := 84) (D := G) (ci := 11) (v := .ref (q 7)) (C := RX11) (T := TX11) (N := 45) hx hb hts iw_X11_laySpan_X11 hown hK hP 0 rfl rfl 8 (by decide) (hts _ (List.mem_of_getElem? (i := 8) rfl)) (fun _ h9 => h9) rfl dX11_laySpan_84 ?_
              refine lv_iload (pc := 87) hx hb dX11_laySpan_87 (lv_at hl 5 rfl) ?_
              refine va_iald (pc := 89) hx hb hK hP 5 0 rfl rfl h_4 dX11_laySpan_89 ?_
              refine lv_aload_n (pc := 90) hx hb dX11_laySpan_90 rfl (lv_at hl 1 rfl) ?_
              refine va_get (pc := 91) (D := G) (ci := 11) (v := .ref (q 2)) (C := RX11) (T := TX11) (N := 45) hx hb hts iw_X11_laySpan_X11 hown hK hP 0 rfl rfl 2 (by decide) (hts _ (List.mem_of_getElem? (i := 9) rfl)) (fun _ h9 => h9) rfl dX11_laySpan_91 ?_
              refine lv_iload_n (pc := 94) hx hb dX11_laySpan_94 rfl (lv_at hl 3 rfl) ?_
              refine va_iald (pc := 95) hx hb hK hP 2 0 rfl rfl h_11 dX11_laySpan_95 ?_
              refine lv_iadd (pc := 96) hx hb dX11_laySpan_96 ?_
              refine lv_iconst (pc := 97) (v := (1 : Int32)) hx hb dX11_laySpan_97 (by decide) ?_
              refine lv_isub (pc := 98) hx hb dX11_laySpan_98 ?_
              refine lv_aload_n (pc := 99) hx hb dX11_laySpan_99 rfl (lv_at hl 1 rfl) ?_
              refine va_get (pc := 100) (D := G) (ci := 11) (v := .ref (q 2)) (C := RX11) (T := TX11) (N := 45) hx hb hts iw_X11_laySpan_X11 hown hK hP 0 rfl rfl 2 (by decide) (hts _ (List.mem_of_getElem? (i := 9) rfl)) (fun _ h9 => h9) rfl dX11_laySpan_100 ?_
              refine lv_iload_n (pc := 103) hx hb dX11_laySpan_103 rfl (lv_at hl 3 rfl) ?_
              refine va_iald (pc := 104) hx hb hK hP 2 0 rfl rfl h_11 dX11_laySpan_104 ?_
              obtain ⟨h_15, hsf⟩ := hsf
              refine lv_idiv (pc := 105) hx hb dX11_laySpan_105 h_15 ?_
              exact K_v_16 _ (by rw [if_pos c_14])
            · replace hsf := hsf.2 c_14
              refine lv_iconst (pc := 79) (v := (0 : Int32)) hx hb dX11_laySpan_79 (by decide) ?_
              refine lv_goto (pc := 80) (tgt := 106) hx hb dX11_laySpan_80 (by decide) ?_
              exact K_v_16 _ (by rw [if_neg c_14]))
  refine lv_aload_n (pc := 0) hx hb dX11_laySpan_0 rfl (lv_at hl 0 rfl) ?_
  refine lv_iconst (pc := 1) (v := (0 : Int32)) hx hb dX11_laySpan_1 (by decide) ?_
  refine va_put (pc := 2) (D := G) (ci := 11) (v := .int (0 : Int32)) (ty := .int) (C := RX11) (T := TX11) (N := 45) hx hb hts iw_X11_laySpan_X11 tyX11 tyX11_ok nmX11 hown hK hP hD hS 0 rfl rfl 11 (by decide) (hts _ (List.mem_of_getElem? (i := 1) rfl)) (fun _ h9 => h9) rfl (by decide +kernel) rfl rfl (Nat.le_of_ble_eq_true rfl) dX11_laySpan_2 (fun H locs hP hD hS => ?_)
  have hP : va_P G vwCl [oX11 q m_kinds m_weighings (0 : Int32) m_spanHigh m_events m_days m_edges m_crew m_breakages, aI K (q 1) 6 m_low, aI K (q 2) 6 m_high, aI K (q 5) 40 m_weighHouse, aI K (q 6) 40 m_weighKind, aI K (q 7) 40 m_weighLess, aI K (q 8) 40 m_weighMore, aZ K (q 9) 40 m_isDropped] H := hP
  have hD : va_D A [oX11 q m_kinds m_weighings (0 : Int32) m_spanHigh m_events m_days m_edges m_crew m_breakages, aI K (q 1) 6 m_low, aI K (q 2) 6 m_high, aI K (q 5) 40 m_weighHouse, aI K (q 6) 40 m_weighKind, aI K (q 7) 40 m_weighLess, aI K (q 8) 40 m_weighMore, aZ K (q 9) 40 m_isDropped] := hD
  refine lv_aload_n (pc := 5) hx hb dX11_laySpan_5 rfl (lv_at hl 0 rfl) ?_
  refine lv_sipush (pc := 6) (v := (2000 : Int32)) hx hb dX11_laySpan_6 (by decide) ?_
  refine va_put (pc := 9) (D := G) (ci := 11) (v := .int (2000 : Int32)) (ty := .int) (C := RX11) (T := TX11) (N := 45) hx hb hts iw_X11_laySpan_X11 tyX11 tyX11_ok nmX11 hown hK hP hD hS 0 rfl rfl 12 (by decide) (hts _ (List.mem_of_getElem? (i := 2) rfl)) (fun _ h9 => h9) rfl (by decide +kernel) rfl rfl (Nat.le_of_ble_eq_true rfl) dX11_laySpan_9 (fun H locs hP hD hS => ?_)
  have hP : va_P G vwCl [oX11 q m_kinds m_weighings (0 : Int32) (2000 : Int32) m_events m_days m_edges m_crew m_breakages, aI K (q 1) 6 m_low, aI K (q 2) 6 m_high, aI K (q 5) 40 m_weighHouse, aI K (q 6) 40 m_weighKind, aI K (q 7) 40 m_weighLess, aI K (q 8) 40 m_weighMore, aZ K (q 9) 40 m_isDropped] H := hP
  have hD : va_D A [oX11 q m_kinds m_weighings (0 : Int32) (2000 : Int32) m_events m_days m_edges m_crew m_breakages, aI K (q 1) 6 m_low, aI K (q 2) 6 m_high, aI K (q 5) 40 m_weighHouse, aI K (q 6) 40 m_weighKind, aI K (q 7) 40 m_weighLess, aI K (q 8) 40 m_weighMore, aZ K (q 9) 40 m_isDropped] := hD
  refine lv_iconst (pc := 12) (v := (0 : Int32)) hx hb dX11_laySpan_12 (by decide) ?_
  refine lv_istore (pc := 13) (lv' := [(4, .int (0 : Int32)), (0, .ref (q 0)), (1, .int p1), (2, .int p2), (3, .int p3)]) hx hb dX11_laySpan_13 hl (by decide) rfl (fun ls hl => ?_)
  exact hw _ _ _ hP hD hS (lv_sub hl [1, 2, 3, 4, 0] rfl)
def P_X11_sure (post : Int32 → Int32 → Int32 → Prop) (p1 : Int32) (p2 : Int32) (p3 : Int32) (m_kinds : Int32) (m_low : Nat → Int32) (m_high : Nat → Int32) (m_weighings : Int32) (m_weighHouse : Nat → Int32) (m_weighKind : Nat → Int32) (m_weighLess : Nat → Int32) (m_weighMore : Nat → Int32) (m_isDropped : Nat → Int32) (m_spanLow : Int32) (m_spanHigh : Int32) : Prop :=
  P_X11_isHouse (fun r_1 => ((r_1 = (0 : Int32) → post (-1 : Int32) m_spanLow m_spanHigh) ∧ (¬ r_1 = (0 : Int32) → P_X11_isKind (fun r_3 => ((r_3 = (0 : Int32) → post (-1 : Int32) m_spanLow m_spanHigh) ∧ (¬ r_3 = (0 : Int32) → P_X11_laySpan (fun r_5 m_spanLow_6 m_spanHigh_7 => ∀ v_10 : Int32, v_10 = (if r_5 = (0 : Int32) then (-9 : Int32) else (if p3 = (0 : Int32) then m_spanLow_6 else m_spanHigh_7)) → post v_10 m_spanLow_6 m_spanHigh_7) p1 p2 m_weighings m_low m_high m_weighHouse m_weighKind m_weighLess m_weighMore m_isDropped m_spanLow m_spanHigh))) p2 m_kinds))) p1
abbrev rm_X11_sure : Room := { frames := 2, cells := 0, slots := 0, locals := 46 }
theorem iw_X11_sure_X11 : ∀ w ∈ wsX110, w ∈ wsX11_sure := by decide +kernel
set_option maxHeartbeats 4000000 in
set_option maxRecDepth 100000 in
theorem c_X11_sure (l : Launch) (G : va_G) (K : ClassId × ClassId × ClassId) (tb q : Nat → Nat) (sz : Nat) (m_events : Int32) (m_days : Int32) (m_edges : Int32) (m_crew : Int32) (m_breakages : Int32) (post : Int32 → Int32 → Int32 → Prop) (p1 : Int32) (p2 : Int32) (p3 : Int32) (m_kinds : Int32) (m_low : Nat → Int32) (m_high : Nat → Int32) (m_weighings : Int32) (m_weighHouse : Nat → Int32) (m_weighKind : Nat → Int32) (m_weighLess : Nat → Int32) (m_weighMore : Nat → Int32) (m_isDropped : Nat → Int32) (m_spanLow : Int32) (m_spanHigh : Int32) (hw : P_X11_sure post p1 p2 p3 m_kinds m_low m_high m_weighings m_weighHouse m_weighKind m_weighLess m_weighMore m_isDropped m_spanLow m_spanHigh) : Met l yX11_sure wsX11_sure rm_X11_sure (va_Pc [.ref (q 0), .int p1, .int p2, .int p3] (hPre G K tb [oX11 q m_kinds m_weighings m_spanLow m_spanHigh m_events m_days m_edges m_crew m_breakages, aI K (q 1) 6 m_low, aI K (q 2) 6 m_high, aI K (q 5) 40 m_weighHouse, aI K (q 6) 40 m_weighKind, aI K (q 7) 40 m_weighLess, aI K (q 8) 40 m_weighMore, aZ K (q 9) 40 m_isDropped] sz)) (va_Qi (fun (r : Int32) (u : Int32 × Int32) => post r u.1 u.2) (fun u => hB G K (va_A [oX11 q m_kinds m_weighings m_spanLow m_spanHigh m_events m_days m_edges m_crew m_breakages, aI K (q 1) 6 m_low, aI K (q 2) 6 m_high, aI K (q 5) 40 m_weighHouse, aI K (q 6) 40 m_weighKind, aI K (q 7) 40 m_weighLess, aI K (q 8) 40 m_weighMore, aZ K (q 9) 40 m_isDropped] sz) [oX11 q m_kinds m_weighings u.1 u.2 m_events m_days m_edges m_crew m_breakages, aI K (q 1) 6 m_low, aI K (q 2) 6 m_high, aI K (q 5) 40 m_weighHouse, aI K (q 6) 40 m_weighKind, aI K (q 7) 40 m_weighLess, aI K (q 8) 40 m_weighMore, aZ K (q 9) 40 m_isDropped]) (va_A [oX11 q m_kinds m_weighings m_spanLow m_spanHigh m_events m_days m_edges m_crew m_breakages, aI K (q 1) 6 m_low, aI K (q 2) 6 m_high, aI K (q 5) 40 m_weighHouse, aI K (q 6) 40 m_weighKind, aI K (q 7) 40 m_weighLess, aI K (q 8) 40 m_weighMore, aZ K (q 9) 40 m_isDropped] sz)) 0 0 (va_A [oX11 q m_kinds m_weighings m_spanLow m_spanHigh m_events m_days m_edges m_crew m_breakages, aI K (q 1) 6 m_low, aI K (q 2) 6 m_high, aI K (q 5) 40 m_weighHouse, aI K (q 6) 40 m_weighKind, aI K (q 7) 40 m_weighLess, aI K (q 8) 40 m_weighMore, aZ K (q 9) 40 m_isDropped] sz) := by
  refine hMet (fun A => va_Qi (fun (r : Int32) (u : Int32 × Int32) => post r u.1 u.2) (fun u => hB G K A [oX11 q m_kinds m_weighings u.1 u.2 m_events m_days m_edges m_crew m_breakages, aI K (q 1) 6 m_low, aI K (q 2) 6 m_high, aI K (q 5) 40 m_weighHouse, aI K (q 6) 40 m_weighKind, aI K (q 7) 40 m_weighLess, aI K (q 8) 40 m_weighMore, aZ K (q 9) 40 m_isDropped]) A) (by decide) rfl (Nat.le_of_ble_eq_true rfl) ?_
  intro p e s m av below meth c A Q ls hx hb hr hml hts hown hlocks hnm hA hP hK hD hS hE hQ hl
  have hts : ∀ w ∈ wsX11_sure, w.before av s = true := hts
  have hown : s.vm.findClass RX11 = some m.cls := hown
  have hl : lv_has ls 4 [(0, .ref (q 0)), (1, .int p1), (2, .int p2), (3, .int p3)] := hl
  unfold P_X11_sure at hw
  refine lv_iload_n (pc := 0) hx hb dX11_sure_0 rfl (lv_at hl 1 rfl) ?_
  refine hCallI (pc := 1) (wr := [oX11 q m_kinds m_weighings m_spanLow m_spanHigh m_events m_days m_edges m_crew m_breakages, aI K (q 1) 6 m_low, aI K (q 2) 6 m_high, aI K (q 5) 40 m_weighHouse, aI K (q 6) 40 m_weighKind, aI K (q 7) 40 m_weighLess, aI K (q 8) 40 m_weighMore, aZ K (q 9) 40 m_isDropped]) (wsf := fun (u : Unit) => []) [] [0, 1, 2, 3, 4, 5, 6, 7] (va_runS (As := [.int p1]) (rest := []) ⟨hx, hb, hml, hown, hts⟩ (c_X11_isHouse l G K tb q s.heap.size _ p1 hw) (va_cwS 1 hts gX11_sure_X11_isHouse rfl rfl rfl (by decide +kernel) ⟨Nat.le_of_ble_eq_true rfl, Nat.le_of_ble_eq_true rfl⟩) (hPreS hE hP hK hD hS hA [] (by decide) rfl rfl) rfl rfl hl.1 rfl (lv_room (Nat.le_of_ble_eq_true rfl)) dX11_sure_1 ⟨Nat.zero_le _, Nat.zero_le _⟩) hP hD hS hA rfl rfl (by decide) (by decide) (fun r_1 u H locs hw hP hD hS => ?_)
  have hP : va_P G vwCl [oX11 q m_kinds m_weighings m_spanLow m_spanHigh m_events m_days m_edges m_crew m_breakages, aI K (q 1) 6 m_low, aI K (q 2) 6 m_high, aI K (q 5) 40 m_weighHouse, aI K (q 6) 40 m_weighKind, aI K (q 7) 40 m_weighLess, aI K (q 8) 40 m_weighMore, aZ K (q 9) 40 m_isDropped] H := hP.sub [0, 1, 2, 3, 4, 5, 6, 7] rfl
  have hD : va_D A [oX11 q m_kinds m_weighings m_spanLow m_spanHigh m_events m_days m_edges m_crew m_breakages, aI K (q 1) 6 m_low, aI K (q 2) 6 m_high, aI K (q 5) 40 m_weighHouse, aI K (q 6) 40 m_weighKind, aI K (q 7) 40 m_weighLess, aI K (q 8) 40 m_weighMore, aZ K (q 9) 40 m_isDropped] := hD.sub [0, 1, 2, 3, 4, 5, 6, 7] (by decide) rfl
  refine lv_if_eq (pc := 4) (tgt := 15) hx hb dX11_sure_4 (by decide) (fun c_2 => ?_) (fun c_2 => ?_)
  · replace hw := hw.1 c_2
    refine lv_iconst (pc := 15) (v := (-1 : Int32)) hx hb dX11_sure_15 (by decide) ?_
    exact hRetI (S := Int32 × Int32) (m_spanLow, m_spanHigh) hx hb hr hlocks hQ hw hP hK hD hS dX11_sure_16
  · replace hw := hw.2 c_2
    refine lv_aload_n (pc := 7) hx hb dX11_sure_7 rfl (lv_at hl 0 rfl) ?_
    refine lv_iload_n (pc := 8) hx hb dX11_sure_8 rfl (lv_at hl 2 rfl) ?_
    refine hCallI (pc := 9) (wr := [aI K (q 1) 6 m_low, aI K (q 2) 6 m_high, aI K (q 5) 40 m_weighHouse, aI K (q 6) 40 m_weighKind, aI K (q 7) 40 m_weighLess, aI K (q 8) 40 m_weighMore, aZ K (q 9) 40 m_isDropped]) (wsf := fun (u : Unit) => [oX11 q m_kinds m_weighings m_spanLow m_spanHigh m_events m_days m_edges m_crew m_breakages]) [0] [1, 2, 3, 4, 5, 6, 7] (va_runV (As := [.int p2]) (rest := []) ⟨hx, hb, hml, hown, hts⟩ (c_X11_isKind l G K tb q H.size m_weighings m_spanLow m_spanHigh m_events m_days m_edges m_crew m_breakages _ p2 m_kinds hw) (cwV 1 hts gX11_sure_X11_isKind rfl rfl rfl (by decide +kernel) ⟨Nat.le_of_ble_eq_true rfl, Nat.le_of_ble_eq_true rfl⟩) (hPreV hE hP hK hD hS hA [0] (by decide) rfl rfl rfl rfl (q0 := 0) (ci := 11) rfl) rfl rfl hl.1 rfl (lv_room (Nat.le_of_ble_eq_true rfl)) dX11_sure_9 ⟨Nat.zero_le _, Nat.zero_le _⟩) hP hD hS hA rfl rfl (by decide) (by decide) (fun r_3 u H locs hw hP hD hS => ?_)
    have hP : va_P G vwCl [oX11 q m_kinds m_weighings m_spanLow m_spanHigh m_events m_days m_edges m_crew m_breakages, aI K (q 1) 6 m_low, aI K (q 2) 6 m_high, aI K (q 5) 40 m_weighHouse, aI K (q 6) 40 m_weighKind, aI K (q 7) 40 m_weighLess, aI K (q 8) 40 m_weighMore, aZ K (q 9) 40 m_isDropped] H := hP.sub [7, 0, 1, 2, 3, 4, 5, 6] rfl
    have hD : va_D A [oX11 q m_kinds m_weighings m_spanLow m_spanHigh m_events m_days m_edges m_crew m_breakages, aI K (q 1) 6 m_low, aI K (q 2) 6 m_high, aI K (q 5) 40 m_weighHouse, aI K (q 6) 40 m_weighKind, aI K (q 7) 40 m_weighLess, aI K (q 8) 40 m_weighMore, aZ K (q 9) 40 m_isDropped] := hD.sub [7, 0, 1, 2, 3, 4, 5, 6] (by decide) rfl
    refine lv_if_ne (pc := 12) (tgt := 17) hx hb dX11_sure_12 (by decide) (fun c_4 => ?_) (fun c_4 => ?_)
    · replace hw := hw.2 c_4
      refine lv_aload_n (pc := 17) hx hb dX11_sure_17 rfl (lv_at hl 0 rfl) ?_
      refine lv_iload_n (pc := 18) hx hb dX11_sure_18 rfl (lv_at hl 1 rfl) ?_
      refine lv_iload_n (pc := 19) hx hb dX11_sure_19 rfl (lv_at hl 2 rfl) ?_
      refine lv_aload_n (pc := 20) hx hb dX11_sure_20 rfl (lv_at hl 0 rfl) ?_
      refine va_get (pc := 21) (D := G) (ci := 11) (v := .int m_weighings) (C := RX11) (T := TX11) (N := 45) hx hb hts iw_X11_sure_X11 hown hK hP 0 rfl rfl 5 (by decide) (hts _ (List.mem_of_getElem? (i := 1) rfl)) (fun _ h9 => h9) rfl dX11_sure_21 ?_
      refine hCallI (pc := 24) (wr := []) (wsf := fun (u : Int32 × Int32) => [oX11 q m_kinds m_weighings u.1 u.2 m_events m_days m_edges m_crew m_breakages, aI K (q 1) 6 m_low, aI K (q 2) 6 m_high, aI K (q 5) 40 m_weighHouse, aI K (q 6) 40 m_weighKind, aI K (q 7) 40 m_weighLess, aI K (q 8) 40 m_weighMore, aZ K (q 9) 40 m_isDropped]) [0, 1, 2, 3, 4, 5, 6, 7] [] (va_runV (As := [.int p1, .int p2, .int m_weighings]) (rest := []) ⟨hx, hb, hml, hown, hts⟩ (c_X11_laySpan l G K tb q H.size m_kinds m_weighings m_events m_days m_edges m_crew m_breakages _ p1 p2 m_weighings m_low m_high m_weighHouse m_weighKind m_weighLess m_weighMore m_isDropped m_spanLow m_spanHigh hw) (cwV 3 hts gX11_sure_X11_laySpan rfl rfl rfl (by decide +kernel) ⟨Nat.le_of_ble_eq_true rfl, Nat.le_of_ble_eq_true rfl⟩) (hPreV hE hP hK hD hS hA [0, 1, 2, 3, 4, 5, 6, 7] (by decide) rfl rfl rfl rfl (q0 := 0) (ci := 11) rfl) rfl rfl hl.1 rfl (lv_room (Nat.le_of_ble_eq_true rfl)) dX11_sure_24 ⟨Nat.zero_le _, Nat.zero_le _⟩) hP hD hS hA rfl rfl (by decide) (by decide) (fun r_5 u H locs hw hP hD hS => ?_)
      obtain ⟨m_spanLow_6, m_spanHigh_7⟩ := u
      have hP : va_P G vwCl [oX11 q m_kinds m_weighings m_spanLow_6 m_spanHigh_7 m_events m_days m_edges m_crew m_breakages, aI K (q 1) 6 m_low, aI K (q 2) 6 m_high, aI K (q 5) 40 m_weighHouse, aI K (q 6) 40 m_weighKind, aI K (q 7) 40 m_weighLess, aI K (q 8) 40 m_weighMore, aZ K (q 9) 40 m_isDropped] H := hP.sub [0, 1, 2, 3, 4, 5, 6, 7] rfl
      have hD : va_D A [oX11 q m_kinds m_weighings m_spanLow_6 m_spanHigh_7 m_events m_days m_edges m_crew m_breakages, aI K (q 1) 6 m_low, aI K (q 2) 6 m_high, aI K (q 5) 40 m_weighHouse, aI K (q 6) 40 m_weighKind, aI K (q 7) 40 m_weighLess, aI K (q 8) 40 m_weighMore, aZ K (q 9) 40 m_isDropped] := hD.sub [0, 1, 2, 3, 4, 5, 6, 7] (by decide) rfl
      have K_v_10 : ∀ v_10 : Int32, v_10 = (if r_5 = (0 : Int32) then (-9 : Int32) else (if p3 = (0 : Int32) then m_spanLow_6 else m_spanHigh_7)) → W p l e rm_X11_sure s m av below meth c H locs 0 0 Q (F0 m 50 ls [.int v_10]) := by
        intro v_10 ev_10
        replace hw := hw v_10 ev_10
        exact hRetI (S := Int32 × Int32) (m_spanLow_6, m_spanHigh_7) hx hb hr hlocks hQ hw hP hK hD hS dX11_sure_50
      refine lv_if_ne (pc := 27) (tgt := 35) hx hb dX11_sure_27 (by decide) (fun c_8 => ?_) (fun c_8 => ?_)
      · skip
        refine lv_iload_n (pc := 35) hx hb dX11_sure_35 rfl (lv_at hl 3 rfl) ?_
        refine lv_if_eq (pc := 36) (tgt := 46) hx hb dX11_sure_36 (by decide) (fun c_9 => ?_) (fun c_9 => ?_)
        · skip
          refine lv_aload_n (pc := 46) hx hb dX11_sure_46 rfl (lv_at hl 0 rfl) ?_
          refine va_get (pc := 47) (D := G) (ci := 11) (v := .int m_spanLow_6) (C := RX11) (T := TX11) (N := 45) hx hb hts iw_X11_sure_X11 hown hK hP 0 rfl rfl 11 (by decide) (hts _ (List.mem_of_getElem? (i := 3) rfl)) (fun _ h9 => h9) rfl dX11_sure_47 ?_
          exact K_v_10 _ (by rw [if_neg c_8, if_pos c_9])
        · skip
          refine lv_aload_n (pc := 39) hx hb dX11_sure_39 rfl (lv_at hl 0 rfl) ?_
          refine va_get (pc := 40) (D := G) (ci := 11) (v := .int m_spanHigh_7) (C := RX11) (T := TX11) (N := 45) hx hb hts iw_X11_sure_X11 hown hK hP 0 rfl rfl 12 (by decide) (hts _ (List.mem_of_getElem? (i := 2) rfl)) (fun _ h9 => h9) rfl dX11_sure_40 ?_
          refine lv_goto (pc := 43) (tgt := 50) hx hb dX11_sure_43 (by decide) ?_
          exact K_v_10 _ (by rw [if_neg c_8, if_neg c_9])
      · skip
        refine lv_bipush (pc := 30) (v := (-9 : Int32)) hx hb dX11_sure_30 (by decide) ?_
        refine lv_goto (pc := 32) (tgt := 50) hx hb dX11_sure_32 (by decide) ?_
        exact K_v_10 _ (by rw [if_pos c_8])
    · replace hw := hw.1 c_4
      refine lv_iconst (pc := 15) (v := (-1 : Int32)) hx hb dX11_sure_15 (by decide) ?_
      exact hRetI (S := Int32 × Int32) (m_spanLow, m_spanHigh) hx hb hr hlocks hQ hw hP hK hD hS dX11_sure_16
def P_X11_quarrel (post : Int32 → Int32 → Int32 → Prop) (p1 : Int32) (p2 : Int32) (m_kinds : Int32) (m_low : Nat → Int32) (m_high : Nat → Int32) (m_weighings : Int32) (m_weighHouse : Nat → Int32) (m_weighKind : Nat → Int32) (m_weighLess : Nat → Int32) (m_weighMore : Nat → Int32) (m_isDropped : Nat → Int32) (m_spanLow : Int32) (m_spanHigh : Int32) : Prop :=
  ∀ (X19 : Int32 → Int32 → Int32 → Prop),
  (∀ (x3 : Int32) (m_spanLow : Int32) (m_spanHigh : Int32), (((m_weighings ≤ x3 → post (-9 : Int32) m_spanLow m_spanHigh) ∧ (¬ m_weighings ≤ x3 → P_X11_laySpan (fun r_6 m_spanLow_7 m_spanHigh_8 => ((r_6 = (0 : Int32) → post x3 m_spanLow_7 m_spanHigh_8) ∧ (¬ r_6 = (0 : Int32) → ∀ y_10 : Int32, y_10 = (x3 + (1 : Int32)) → X19 y_10 m_spanLow_7 m_spanHigh_8))) p1 p2 (x3 + (1 : Int32)) m_low m_high m_weighHouse m_weighKind m_weighLess m_weighMore m_isDropped m_spanLow m_spanHigh))) → X19 x3 m_spanLow m_spanHigh) →
  P_X11_isHouse (fun r_1 => ((r_1 = (0 : Int32) → post (-1 : Int32) m_spanLow m_spanHigh) ∧ (¬ r_1 = (0 : Int32) → P_X11_isKind (fun r_3 => ((r_3 = (0 : Int32) → post (-1 : Int32) m_spanLow m_spanHigh) ∧ (¬ r_3 = (0 : Int32) → X19 (0 : Int32) m_spanLow m_spanHigh))) p2 m_kinds))) p1
abbrev rm_X11_quarrel : Room := { frames := 2, cells := 0, slots := 0, locals := 46 }
theorem iw_X11_quarrel_X11 : ∀ w ∈ wsX110, w ∈ wsX11_quarrel := by decide +kernel
set_option maxHeartbeats 4000000 in
set_option maxRecDepth 100000 in
theorem c_X11_quarrel (l : Launch) (G : va_G) (K : ClassId × ClassId × ClassId) (tb q : Nat → Nat) (sz : Nat) (m_events : Int32) (m_days : Int32) (m_edges : Int32) (m_crew : Int32) (m_breakages : Int32) (post : Int32 → Int32 → Int32 → Prop) (p1 : Int32) (p2 : Int32) (m_kinds : Int32) (m_low : Nat → Int32) (m_high : Nat → Int32) (m_weighings : Int32) (m_weighHouse : Nat → Int32) (m_weighKind : Nat → Int32) (m_weighLess : Nat → Int32) (m_weighMore : Nat → Int32) (m_isDropped : Nat → Int32) (m_spanLow : Int32) (m_spanHigh : Int32) (hw : P_X11_quarrel post p1 p2 m_kinds m_low m_high m_weighings m_weighHouse m_weighKind m_weighLess m_weighMore m_isDropped m_spanLow m_spanHigh) : Met l yX11_quarrel wsX11_quarrel rm_X11_quarrel (va_Pc [.ref (q 0), .int p1, .int p2] (hPre G K tb [oX11 q m_kinds m_weighings m_spanLow m_spanHigh m_events m_days m_edges m_crew m_breakages, aI K (q 1) 6 m_low, aI K (q 2) 6 m_high, aI K (q 5) 40 m_weighHouse, aI K (q 6) 40 m_weighKind, aI K (q 7) 40 m_weighLess, aI K (q 8) 40 m_weighMore, aZ K (q 9) 40 m_isDropped] sz)) (va_Qi (fun (r : Int32) (u : Int32 × Int32) => post r u.1 u.2) (fun u => hB G K (va_A [oX11 q m_kinds m_weighings m_spanLow m_spanHigh m_events m_days m_edges m_crew m_breakages, aI K (q 1) 6 m_low, aI K (q 2) 6 m_high, aI K (q 5) 40 m_weighHouse, aI K (q 6) 40 m_weighKind, aI K (q 7) 40 m_weighLess, aI K (q 8) 40 m_weighMore, aZ K (q 9) 40 m_isDropped] sz) [oX11 q m_kinds m_weighings u.1 u.2 m_events m_days m_edges m_crew m_breakages, aI K (q 1) 6 m_low, aI K (q 2) 6 m_high, aI K (q 5) 40 m_weighHouse, aI K (q 6) 40 m_weighKind, aI K (q 7) 40 m_weighLess, aI K (q 8) 40 m_weighMore, aZ K (q 9) 40 m_isDropped]) (va_A [oX11 q m_kinds m_weighings m_spanLow m_spanHigh m_events m_days m_edges m_crew m_breakages, aI K (q 1) 6 m_low, aI K (q 2) 6 m_high, aI K (q 5) 40 m_weighHouse, aI K (q 6) 40 m_weighKind, aI K (q 7) 40 m_weighLess, aI K (q 8) 40 m_weighMore, aZ K (q 9) 40 m_isDropped] sz)) 0 0 (va_A [oX11 q m_kinds m_weighings m_spanLow m_spanHigh m_events m_days m_edges m_crew m_breakages, aI K (q 1) 6 m_low, aI K (q 2) 6 m_high, aI K (q 5) 40 m_weighHouse, aI K (q 6) 40 m_weighKind, aI K (q 7) 40 m_weighLess, aI K (q 8) 40 m_weighMore, aZ K (q 9) 40 m_isDropped] sz) := by
  refine hMet (fun A => va_Qi (fun (r : Int32) (u : Int32 × Int32) => post r u.1 u.2) (fun u => hB G K A [oX11 q m_kinds m_weighings u.1 u.2 m_events m_days m_edges m_crew m_breakages, aI K (q 1) 6 m_low, aI K (q 2) 6 m_high, aI K (q 5) 40 m_weighHouse, aI K (q 6) 40 m_weighKind, aI K (q 7) 40 m_weighLess, aI K (q 8) 40 m_weighMore, aZ K (q 9) 40 m_isDropped]) A) (by decide) rfl (Nat.le_of_ble_eq_true rfl) ?_
  intro p e s m av below meth c A Q ls hx hb hr hml hts hown hlocks hnm hA hP hK hD hS hE hQ hl
  have hts : ∀ w ∈ wsX11_quarrel, w.before av s = true := hts
  have hown : s.vm.findClass RX11 = some m.cls := hown
  have hl : lv_has ls 4 [(0, .ref (q 0)), (1, .int p1), (2, .int p2)] := hl
  unfold P_X11_quarrel at hw
  replace hw := hw (fun (x3 : Int32) (m_spanLow : Int32) (m_spanHigh : Int32) => ∀ (H : Heap) (locs : List Loc) (ls : Array Slot), va_P G vwCl [oX11 q m_kinds m_weighings m_spanLow m_spanHigh m_events m_days m_edges m_crew m_breakages, aI K (q 1) 6 m_low, aI K (q 2) 6 m_high, aI K (q 5) 40 m_weighHouse, aI K (q 6) 40 m_weighKind, aI K (q 7) 40 m_weighLess, aI K (q 8) 40 m_weighMore, aZ K (q 9) 40 m_isDropped] H → va_D A [oX11 q m_kinds m_weighings m_spanLow m_spanHigh m_events m_days m_edges m_crew m_breakages, aI K (q 1) 6 m_low, aI K (q 2) 6 m_high, aI K (q 5) 40 m_weighHouse, aI K (q 6) 40 m_weighKind, aI K (q 7) 40 m_weighLess, aI K (q 8) 40 m_weighMore, aZ K (q 9) 40 m_isDropped] → va_S A s.heap H locs → lv_has ls 4 [(0, .ref (q 0)), (1, .int p1), (2, .int p2), (3, .int x3)] → W p l e rm_X11_quarrel s m av below meth c H locs 0 0 Q (F0 m 19 ls []))
  replace hw := hw (by
    intro x3 m_spanLow m_spanHigh hw H locs ls hP hD hS hl
    refine lv_iload_n (pc := 19) hx hb dX11_quarrel_19 rfl (lv_at hl 3 rfl) ?_
    refine lv_aload_n (pc := 20) hx hb dX11_quarrel_20 rfl (lv_at hl 0 rfl) ?_
    refine va_get (pc := 21) (D := G) (ci := 11) (v := .int m_weighings) (C := RX11) (T := TX11) (N := 45) hx hb hts iw_X11_quarrel_X11 hown hK hP 0 rfl rfl 5 (by decide) (hts _ (List.mem_of_getElem? (i := 1) rfl)) (fun _ h9 => h9) rfl dX11_quarrel_21 ?_
    refine lv_icmp_ge (pc := 24) (tgt := 47) hx hb dX11_quarrel_24 (by decide) (fun c_5 => ?_) (fun c_5 => ?_)
    · replace hw := hw.1 c_5
      refine lv_bipush (pc := 47) (v := (-9 : Int32)) hx hb dX11_quarrel_47 (by decide) ?_
      exact hRetI (S := Int32 × Int32) (m_spanLow, m_spanHigh) hx hb hr hlocks hQ hw hP hK hD hS dX11_quarrel_49
    · replace hw := hw.2 c_5
      refine lv_aload_n (pc := 27) hx hb dX11_quarrel_27 rfl (lv_at hl 0 rfl) ?_
      refine lv_iload_n (pc := 28) hx hb dX11_quarrel_28 rfl (lv_at hl 1 rfl) ?_
      refine lv_iload_n (pc := 29) hx hb dX11_quarrel_29 rfl (lv_at hl 2 rfl) ?_
      refine lv_iload_n (pc := 30) hx hb dX11_quarrel_30 rfl (lv_at hl 3 rfl) ?_
      refine lv_iconst (pc := 31) (v := (1 : Int32)) hx hb dX11_quarrel_31 (by decide) ?_
      refine lv_iadd (pc := 32) hx hb dX11_quarrel_32 ?_
      refine hCallI (pc := 33) (wr := []) (wsf := fun (u : Int32 × Int32) => [oX11 q m_kinds m_weighings u.1 u.2 m_events m_days m_edges m_crew m_breakages, aI K (q 1) 6 m_low, aI K (q 2) 6 m_high, aI K (q 5) 40 m_weighHouse, aI K (q 6) 40 m_weighKind, aI K (q 7) 40 m_weighLess, aI K (q 8) 40 m_weighMore, aZ K (q 9) 40 m_isDropped]) [0, 1, 2, 3, 4, 5, 6, 7] [] (va_runV (As := [.int p1, .int p2, .int (x3 + (1 : Int32))]) (rest := []) ⟨hx, hb, hml, hown, hts⟩ (c_X11_laySpan l G K tb q H.size m_kinds m_weighings m_events m_days m_edges m_crew m_breakages _ p1 p2 (x3 + (1 : Int32)) m_low m_high m_weighHouse m_weighKind m_weighLess m_weighMore m_isDropped m_spanLow m_spanHigh hw) (cwV 3 hts gX11_quarrel_X11_laySpan rfl rfl rfl (by decide +kernel) ⟨Nat.le_of_ble_eq_true rfl, Nat.le_of_ble_eq_true rfl⟩) (hPreV hE hP hK hD hS hA [0, 1, 2, 3, 4, 5, 6, 7] (by decide) rfl rfl rfl rfl (q0 := 0) (ci := 11) rfl) rfl rfl hl.1 rfl (lv_room (Nat.le_of_ble_eq_true rfl)) dX11_quarrel_33 ⟨Nat.zero_le _, Nat.zero_le _⟩) hP hD hS hA rfl rfl (by decide) (by decide) (fun r_6 u H locs hw hP hD hS => ?_)
      obtain ⟨m_spanLow_7, m_spanHigh_8⟩ := u
      have hP : va_P G vwCl [oX11 q m_kinds m_weighings m_spanLow_7 m_spanHigh_8 m_events m_days m_edges m_crew m_breakages, aI K (q 1) 6 m_low, aI K (q 2) 6 m_high, aI K (q 5) 40 m_weighHouse, aI K (q 6) 40 m_weighKind, aI K (q 7) 40 m_weighLess, aI K (q 8) 40 m_weighMore, aZ K (q 9) 40 m_isDropped] H := hP.sub [0, 1, 2, 3, 4, 5, 6, 7] rfl
      have hD : va_D A [oX11 q m_kinds m_weighings m_spanLow_7 m_spanHigh_8 m_events m_days m_edges m_crew m_breakages, aI K (q 1) 6 m_low, aI K (q 2) 6 m_high, aI K (q 5) 40 m_weighHouse, aI K (q 6) 40 m_weighKind, aI K (q 7) 40 m_weighLess, aI K (q 8) 40 m_weighMore, aZ K (q 9) 40 m_isDropped] := hD.sub [0, 1, 2, 3, 4, 5, 6, 7] (by decide) rfl
      refine lv_if_ne (pc := 36) (tgt := 41) hx hb dX11_quarrel_36 (by decide) (fun c_9 => ?_) (fun c_9 => ?_)
      · replace hw := hw.2 c_9
        obtain ⟨y_10, ey_10⟩ : ∃ z : Int32, z = (x3 + (1 : Int32)) := ⟨_, rfl⟩
        replace hw := hw y_10 ey_10
        refine lv_iinc (pc := 41) (v := y_10) (lv' := [(3, .int y_10), (0, .ref (q 0)), (1, .int p1), (2, .int p2)]) hx hb dX11_quarrel_41 hl (k := 3) rfl (by rw [ey_10]; rfl) (by decide) rfl (fun ls hl => ?_)
        refine lv_goto (pc := 44) (tgt := 19) hx hb dX11_quarrel_44 (by decide) ?_
        exact hw _ _ _ hP hD hS (lv_sub hl [1, 2, 3, 0] rfl)
      · replace hw := hw.1 c_9
        refine lv_iload_n (pc := 39) hx hb dX11_quarrel_39 rfl (lv_at hl 3 rfl) ?_
        exact hRetI (S := Int32 × Int32) (m_spanLow_7, m_spanHigh_8) hx hb hr hlocks hQ hw hP hK hD hS dX11_quarrel_40)
  refine lv_iload_n (pc := 0) hx hb dX11_quarrel_0 rfl (lv_at hl 1 rfl) ?_
  refine hCallI (pc := 1) (wr := [oX11 q m_kinds m_weighings m_spanLow m_spanHigh m_events m_days m_edges m_crew m_breakages, aI K (q 1) 6 m_low, aI K (q 2) 6 m_high, aI K (q 5) 40 m_weighHouse, aI K (q 6) 40 m_weighKind, aI K (q 7) 40 m_weighLess, aI K (q 8) 40 m_weighMore, aZ K (q 9) 40 m_isDropped]) (wsf := fun (u : Unit) => []) [] [0, 1, 2, 3, 4, 5, 6, 7] (va_runS (As := [.int p1]) (rest := []) ⟨hx, hb, hml, hown, hts⟩ (c_X11_isHouse l G K tb q s.heap.size _ p1 hw) (va_cwS 1 hts gX11_quarrel_X11_isHouse rfl rfl rfl (by decide +kernel) ⟨Nat.le_of_ble_eq_true rfl, Nat.le_of_ble_eq_true rfl⟩) (hPreS hE hP hK hD hS hA [] (by decide) rfl rfl) rfl rfl hl.1 rfl (lv_room (Nat.le_of_ble_eq_true rfl)) dX11_quarrel_1 ⟨Nat.zero_le _, Nat.zero_le _⟩) hP hD hS hA rfl rfl (by decide) (by decide) (fun r_1 u H locs hw hP hD hS => ?_)
  have hP : va_P G vwCl [oX11 q m_kinds m_weighings m_spanLow m_spanHigh m_events m_days m_edges m_crew m_breakages, aI K (q 1) 6 m_low, aI K (q 2) 6 m_high, aI K (q 5) 40 m_weighHouse, aI K (q 6) 40 m_weighKind, aI K (q 7) 40 m_weighLess, aI K (q 8) 40 m_weighMore, aZ K (q 9) 40 m_isDropped] H := hP.sub [0, 1, 2, 3, 4, 5, 6, 7] rfl
  have hD : va_D A [oX11 q m_kinds m_weighings m_spanLow m_spanHigh m_events m_days m_edges m_crew m_breakages, aI K (q 1) 6 m_low, aI K (q 2) 6 m_high, aI K (q 5) 40 m_weighHouse, aI K (q 6) 40 m_weighKind, aI K (q 7) 40 m_weighLess, aI K (q 8) 40 m_weighMore, aZ K (q 9) 40 m_isDropped] := hD.sub [0, 1, 2, 3, 4, 5, 6, 7] (by decide) rfl
  refine lv_if_eq (pc := 4) (tgt := 15) hx hb dX11_quarrel_4 (by decide) (fun c_2 => ?_) (fun c_2 => ?_)
  · replace hw := hw.1 c_2
    refine lv_iconst (pc := 15) (v := (-1 : Int32)) hx hb dX11_quarrel_15 (by decide) ?_
    exact hRetI (S := Int32 × Int32) (m_spanLow, m_spanHigh) hx hb hr hlocks hQ hw hP hK hD hS dX11_quarrel_16
  · replace hw := hw.2 c_2
    refine lv_aload_n (pc := 7) hx hb dX11_quarrel_7 rfl (lv_at hl 0 rfl) ?_
    refine lv_iload_n (pc := 8) hx hb dX11_quarrel_8 rfl (lv_at hl 2 rfl) ?_
    refine hCallI (pc := 9) (wr := [aI K (q 1) 6 m_low, aI K (q 2) 6 m_high, aI K (q 5) 40 m_weighHouse, aI K (q 6) 40 m_weighKind, aI K (q 7) 40 m_weighLess, aI K (q 8) 40 m_weighMore, aZ K (q 9) 40 m_isDropped]) (wsf := fun (u : Unit) => [oX11 q m_kinds m_weighings m_spanLow m_spanHigh m_events m_days m_edges m_crew m_breakages]) [0] [1, 2, 3, 4, 5, 6, 7] (va_runV (As := [.int p2]) (rest := []) ⟨hx, hb, hml, hown, hts⟩ (c_X11_isKind l G K tb q H.size m_weighings m_spanLow m_spanHigh m_events m_days m_edges m_crew m_breakages _ p2 m_kinds hw) (cwV 1 hts gX11_quarrel_X11_isKind rfl rfl rfl (by decide +kernel) ⟨Nat.le_of_ble_eq_true rfl, Nat.le_of_ble_eq_true rfl⟩) (hPreV hE hP hK hD hS hA [0] (by decide) rfl rfl rfl rfl (q0 := 0) (ci := 11) rfl) rfl rfl hl.1 rfl (lv_room (Nat.le_of_ble_eq_true rfl)) dX11_quarrel_9 ⟨Nat.zero_le _, Nat.zero_le _⟩) hP hD hS hA rfl rfl (by decide) (by decide) (fun r_3 u H locs hw hP hD hS => ?_)
    have hP : va_P G vwCl [oX11 q m_kinds m_weighings m_spanLow m_spanHigh m_events m_days m_edges m_crew m_breakages, aI K (q 1) 6 m_low, aI K (q 2) 6 m_high, aI K (q 5) 40 m_weighHouse, aI K (q 6) 40 m_weighKind, aI K (q 7) 40 m_weighLess, aI K (q 8) 40 m_weighMore, aZ K (q 9) 40 m_isDropped] H := hP.sub [7, 0, 1, 2, 3, 4, 5, 6] rfl
    have hD : va_D A [oX11 q m_kinds m_weighings m_spanLow m_spanHigh m_events m_days m_edges m_crew m_breakages, aI K (q 1) 6 m_low, aI K (q 2) 6 m_high, aI K (q 5) 40 m_weighHouse, aI K (q 6) 40 m_weighKind, aI K (q 7) 40 m_weighLess, aI K (q 8) 40 m_weighMore, aZ K (q 9) 40 m_isDropped] := hD.sub [7, 0, 1, 2, 3, 4, 5, 6] (by decide) rfl
    refine lv_if_ne (pc := 12) (tgt := 17) hx hb dX11_quarrel_12 (by decide) (fun c_4 => ?_) (fun c_4 => ?_)
    · replace hw := hw.2 c_4
      refine lv_iconst (pc := 17) (v := (0 : Int32)) hx hb dX11_quarrel_17 (by decide) ?_
      refine lv_istore_n (pc := 18) (lv' := [(3, .int (0 : Int32)), (0, .ref (q 0)), (1, .int p1), (2, .int p2)]) hx hb dX11_quarrel_18 rfl hl (by decide) rfl (fun ls hl => ?_)
      exact hw _ _ _ hP hD hS (lv_sub hl [1, 2, 3, 0] rfl)
    · replace hw := hw.1 c_4
      refine lv_iconst (pc := 15) (v := (-1 : Int32)) hx hb dX11_quarrel_15 (by decide) ?_
      exact hRetI (S := Int32 × Int32) (m_spanLow, m_spanHigh) hx hb hr hlocks hQ hw hP hK hD hS dX11_quarrel_16
def P_X11_mayTray (post : Int32 → Prop) (p1 : Int32) (p2 : Int32) (p3 : Int32) (p4 : Int32) (m_kinds : Int32) : Prop :=
  P_X11_isKind (fun r_1 => ((r_1 = (0 : Int32) → post (-1 : Int32)) ∧ (¬ r_1 = (0 : Int32) → P_X11_isKind (fun r_3 => ((r_3 = (0 : Int32) → post (-1 : Int32)) ∧ (¬ r_3 = (0 : Int32) → P_X11_isWeight (fun r_5 => ((r_5 = (0 : Int32) → post (-2 : Int32)) ∧ (¬ r_5 = (0 : Int32) → ∀ v_8 : Int32, v_8 = (if p1 = p2 then (-3 : Int32) else (0 : Int32)) → post v_8))) p3 p4))) p2 m_kinds))) p1 m_kinds
abbrev rm_X11_mayTray : Room := { frames := 2, cells := 0, slots := 0, locals := 46 }
set_option maxHeartbeats 4000000 in
set_option maxRecDepth 100000 in
theorem c_X11_mayTray (l : Launch) (G : va_G) (K : ClassId × ClassId × ClassId) (tb q : Nat → Nat) (sz : Nat) (m_weighings : Int32) (m_spanLow : Int32) (m_spanHigh : Int32) (m_events : Int32) (m_days : Int32) (m_edges : Int32) (m_crew : Int32) (m_breakages : Int32) (post : Int32 → Prop) (p1 : Int32) (p2 : Int32) (p3 : Int32) (p4 : Int32) (m_kinds : Int32) (hw : P_X11_mayTray post p1 p2 p3 p4 m_kinds) : Met l yX11_mayTray wsX11_mayTray rm_X11_mayTray (va_Pc [.ref (q 0), .int p1, .int p2, .int p3, .int p4] (hPre G K tb [oX11 q m_kinds m_weighings m_spanLow m_spanHigh m_events m_days m_edges m_crew m_breakages] sz)) (va_Qi (fun (r : Int32) (u : Unit) => post r) (fun u => hB G K (va_A [oX11 q m_kinds m_weighings m_spanLow m_spanHigh m_events m_days m_edges m_crew m_breakages] sz) [oX11 q m_kinds m_weighings m_spanLow m_spanHigh m_events m_days m_edges m_crew m_breakages]) (va_A [oX11 q m_kinds m_weighings m_spanLow m_spanHigh m_events m_days m_edges m_crew m_breakages] sz)) 0 0 (va_A [oX11 q m_kinds m_weighings m_spanLow m_spanHigh m_events m_days m_edges m_crew m_breakages] sz) := by
  refine hMet (fun A => va_Qi (fun (r : Int32) (u : Unit) => post r) (fun u => hB G K A [oX11 q m_kinds m_weighings m_spanLow m_spanHigh m_events m_days m_edges m_crew m_breakages]) A) (by decide) rfl (Nat.le_of_ble_eq_true rfl) ?_
  intro p e s m av below meth c A Q ls hx hb hr hml hts hown hlocks hnm hA hP hK hD hS hE hQ hl
  have hts : ∀ w ∈ wsX11_mayTray, w.before av s = true := hts
  have hown : s.vm.findClass RX11 = some m.cls := hown
  have hl : lv_has ls 5 [(0, .ref (q 0)), (1, .int p1), (2, .int p2), (3, .int p3), (4, .int p4)] := hl
  unfold P_X11_mayTray at hw
  refine lv_aload_n (pc := 0) hx hb dX11_mayTray_0 rfl (lv_at hl 0 rfl) ?_
  refine lv_iload_n (pc := 1) hx hb dX11_mayTray_1 rfl (lv_at hl 1 rfl) ?_
  refine hCallI (pc := 2) (wr := []) (wsf := fun (u : Unit) => [oX11 q m_kinds m_weighings m_spanLow m_spanHigh m_events m_days m_edges m_crew m_breakages]) [0] [] (va_runV (As := [.int p1]) (rest := []) ⟨hx, hb, hml, hown, hts⟩ (c_X11_isKind l G K tb q s.heap.size m_weighings m_spanLow m_spanHigh m_events m_days m_edges m_crew m_breakages _ p1 m_kinds hw) (cwV 1 hts gX11_mayTray_X11_isKind rfl rfl rfl (by decide +kernel) ⟨Nat.le_of_ble_eq_true rfl, Nat.le_of_ble_eq_true rfl⟩) (hPreV hE hP hK hD hS hA [0] (by decide) rfl rfl rfl rfl (q0 := 0) (ci := 11) rfl) rfl rfl hl.1 rfl (lv_room (Nat.le_of_ble_eq_true rfl)) dX11_mayTray_2 ⟨Nat.zero_le _, Nat.zero_le _⟩) hP hD hS hA rfl rfl (by decide) (by decide) (fun r_1 u H locs hw hP hD hS => ?_)
  have hP : va_P G vwCl [oX11 q m_kinds m_weighings m_spanLow m_spanHigh m_events m_days m_edges m_crew m_breakages] H := hP.sub [0] rfl
  have hD : va_D A [oX11 q m_kinds m_weighings m_spanLow m_spanHigh m_events m_days m_edges m_crew m_breakages] := hD.sub [0] (by decide) rfl
  refine lv_if_eq (pc := 5) (tgt := 16) hx hb dX11_mayTray_5 (by decide) (fun c_2 => ?_) (fun c_2 => ?_)
  · replace hw := hw.1 c_2
    refine lv_iconst (pc := 16) (v := (-1 : Int32)) hx hb dX11_mayTray_16 (by decide) ?_
    exact hRetI (S := Unit) () hx hb hr hlocks hQ hw hP hK hD hS dX11_mayTray_17
  · replace hw := hw.2 c_2
    refine lv_aload_n (pc := 8) hx hb dX11_mayTray_8 rfl (lv_at hl 0 rfl) ?_
    refine lv_iload_n (pc := 9) hx hb dX11_mayTray_9 rfl (lv_at hl 2 rfl) ?_
    refine hCallI (pc := 10) (wr := []) (wsf := fun (u : Unit) => [oX11 q m_kinds m_weighings m_spanLow m_spanHigh m_events m_days m_edges m_crew m_breakages]) [0] [] (va_runV (As := [.int p2]) (rest := []) ⟨hx, hb, hml, hown, hts⟩ (c_X11_isKind l G K tb q H.size m_weighings m_spanLow m_spanHigh m_events m_days m_edges m_crew m_breakages _ p2 m_kinds hw) (cwV 1 hts gX11_mayTray_X11_isKind rfl rfl rfl (by decide +kernel) ⟨Nat.le_of_ble_eq_true rfl, Nat.le_of_ble_eq_true rfl⟩) (hPreV hE hP hK hD hS hA [0] (by decide) rfl rfl rfl rfl (q0 := 0) (ci := 11) rfl) rfl rfl hl.1 rfl (lv_room (Nat.le_of_ble_eq_true rfl)) dX11_mayTray_10 ⟨Nat.zero_le _, Nat.zero_le _⟩) hP hD hS hA rfl rfl (by decide) (by decide) (fun r_3 u H locs hw hP hD hS => ?_)
    have hP : va_P G vwCl [oX11 q m_kinds m_weighings m_spanLow m_spanHigh m_events m_days m_edges m_crew m_breakages] H := hP.sub [0] rfl
    have hD : va_D A [oX11 q m_kinds m_weighings m_spanLow m_spanHigh m_events m_days m_edges m_crew m_breakages] := hD.sub [0] (by decide) rfl
    refine lv_if_ne (pc := 13) (tgt := 18) hx hb dX11_mayTray_13 (by decide) (fun c_4 => ?_) (fun c_4 => ?_)
    · replace hw := hw.2 c_4
      refine lv_iload_n (pc := 18) hx hb dX11_mayTray_18 rfl (lv_at hl 3 rfl) ?_
      refine lv_iload (pc := 19) hx hb dX11_mayTray_19 (lv_at hl 4 rfl) ?_
      refine hCallI (pc := 21) (wr := [oX11 q m_kinds m_weighings m_spanLow m_spanHigh m_events m_days m_edges m_crew m_breakages]) (wsf := fun (u : Unit) => []) [] [0] (va_runS (As := [.int p3, .int p4]) (rest := []) ⟨hx, hb, hml, hown, hts⟩ (c_X11_isWeight l G K tb q H.size _ p3 p4 hw) (va_cwS 2 hts gX11_mayTray_X11_isWeight rfl rfl rfl (by decide +kernel) ⟨Nat.le_of_ble_eq_true rfl, Nat.le_of_ble_eq_true rfl⟩) (hPreS hE hP hK hD hS hA [] (by decide) rfl rfl) rfl rfl hl.1 rfl (lv_room (Nat.le_of_ble_eq_true rfl)) dX11_mayTray_21 ⟨Nat.zero_le _, Nat.zero_le _⟩) hP hD hS hA rfl rfl (by decide) (by decide) (fun r_5 u H locs hw hP hD hS => ?_)
      have hP : va_P G vwCl [oX11 q m_kinds m_weighings m_spanLow m_spanHigh m_events m_days m_edges m_crew m_breakages] H := hP.sub [0] rfl
      have hD : va_D A [oX11 q m_kinds m_weighings m_spanLow m_spanHigh m_events m_days m_edges m_crew m_breakages] := hD.sub [0] (by decide) rfl
      refine lv_if_ne (pc := 24) (tgt := 30) hx hb dX11_mayTray_24 (by decide) (fun c_6 => ?_) (fun c_6 => ?_)
      · replace hw := hw.2 c_6
        refine lv_iload_n (pc := 30) hx hb dX11_mayTray_30 rfl (lv_at hl 1 rfl) ?_
        refine lv_iload_n (pc := 31) hx hb dX11_mayTray_31 rfl (lv_at hl 2 rfl) ?_
        have K_v_8 : ∀ v_8 : Int32, v_8 = (if p1 = p2 then (-3 : Int32) else (0 : Int32)) → W p l e rm_X11_mayTray s m av below meth c H locs 0 0 Q (F0 m 41 ls [.int v_8]) := by
          intro v_8 ev_8
          replace hw := hw v_8 ev_8
          exact hRetI (S := Unit) () hx hb hr hlocks hQ hw hP hK hD hS dX11_mayTray_41
        refine lv_icmp_ne (pc := 32) (tgt := 40) hx hb dX11_mayTray_32 (by decide) (fun c_7 => ?_) (fun c_7 => ?_)
        · skip
          refine lv_iconst (pc := 40) (v := (0 : Int32)) hx hb dX11_mayTray_40 (by decide) ?_
          exact K_v_8 _ (by rw [if_neg c_7])
        · skip
          refine lv_bipush (pc := 35) (v := (-3 : Int32)) hx hb dX11_mayTray_35 (by decide) ?_
          refine lv_goto (pc := 37) (tgt := 41) hx hb dX11_mayTray_37 (by decide) ?_
          exact K_v_8 _ (by rw [if_pos c_7])
      · replace hw := hw.1 c_6
        refine lv_bipush (pc := 27) (v := (-2 : Int32)) hx hb dX11_mayTray_27 (by decide) ?_
        exact hRetI (S := Unit) () hx hb hr hlocks hQ hw hP hK hD hS dX11_mayTray_29
    · replace hw := hw.1 c_4
      refine lv_iconst (pc := 16) (v := (-1 : Int32)) hx hb dX11_mayTray_16 (by decide) ?_
      exact hRetI (S := Unit) () hx hb hr hlocks hQ hw hP hK hD hS dX11_mayTray_17
def P_X11_isPair (post : Int32 → Prop) (p1 : Int32) (p2 : Int32) (p3 : Int32) (p4 : Int32) (p5 : Int32) (p6 : Int32) (m_low : Nat → Int32) (m_high : Nat → Int32) : Prop :=
  vp_in p1 6 ∧ vp_in p2 6 ∧ ∀ v_5 : Int32, v_5 = (if p4 < ((p5 * (m_low p1.toNatClampNeg)) + (p6 * (m_low p2.toNatClampNeg))) then (0 : Int32) else (if ((p5 * (m_high p1.toNatClampNeg)) + (p6 * (m_high p2.toNatClampNeg))) < p3 then (0 : Int32) else (1 : Int32))) → post v_5
abbrev rm_X11_isPair : Room := { frames := 0, cells := 0, slots := 0, locals := 0 }
theorem iw_X11_isPair_X11 : ∀ w ∈ wsX110, w ∈ wsX11_isPair := by decide +kernel
set_option maxHeartbeats 4000000 in
set_option maxRecDepth 100000 in
theorem c_X11_isPair (l : Launch) (G : va_G) (K : ClassId × ClassId × ClassId) (tb q : Nat → Nat) (sz : Nat) (m_kinds : Int32) (m_weighings : Int32) (m_spanLow : Int32) (m_spanHigh : Int32) (m_events : Int32) (m_days : Int32) (m_edges : Int32) (m_crew : Int32) (m_breakages : Int32) (post : Int32 → Prop) (p1 : Int32) (p2 : Int32) (p3 : Int32) (p4 : Int32) (p5 : Int32) (p6 : Int32) (m_low : Nat → Int32) (m_high : Nat → Int32) (hw : P_X11_isPair post p1 p2 p3 p4 p5 p6 m_low m_high) : Met l yX11_isPair wsX11_isPair rm_X11_isPair (va_Pc [.ref (q 0), .int p1, .int p2, .int p3, .int p4, .int p5, .int p6] (hPre G K tb [oX11 q m_kinds m_weighings m_spanLow m_spanHigh m_events m_days m_edges m_crew m_breakages, aI K (q 1) 6 m_low, aI K (q 2) 6 m_high] sz)) (va_Qi (fun (r : Int32) (u : Unit) => post r) (fun u => hB G K (va_A [oX11 q m_kinds m_weighings m_spanLow m_spanHigh m_events m_days m_edges m_crew m_breakages, aI K (q 1) 6 m_low, aI K (q 2) 6 m_high] sz) [oX11 q m_kinds m_weighings m_spanLow m_spanHigh m_events m_days m_edges m_crew m_breakages, aI K (q 1) 6 m_low, aI K (q 2) 6 m_high]) (va_A [oX11 q m_kinds m_weighings m_spanLow m_spanHigh m_events m_days m_edges m_crew m_breakages, aI K (q 1) 6 m_low, aI K (q 2) 6 m_high] sz)) 0 0 (va_A [oX11 q m_kinds m_weighings m_spanLow m_spanHigh m_events m_days m_edges m_crew m_breakages, aI K (q 1) 6 m_low, aI K (q 2) 6 m_high] sz) := by
  refine hMet (fun A => va_Qi (fun (r : Int32) (u : Unit) => post r) (fun u => hB G K A [oX11 q m_kinds m_weighings m_spanLow m_spanHigh m_events m_days m_edges m_crew m_breakages, aI K (q 1) 6 m_low, aI K (q 2) 6 m_high]) A) (by decide) rfl (Nat.le_of_ble_eq_true rfl) ?_
  intro p e s m av below meth c A Q ls hx hb hr hml hts hown hlocks hnm hA hP hK hD hS hE hQ hl
  have hts : ∀ w ∈ wsX11_isPair, w.before av s = true := hts
  have hown : s.vm.findClass RX11 = some m.cls := hown
  have hl : lv_has ls 7 [(0, .ref (q 0)), (1, .int p1), (2, .int p2), (3, .int p3), (4, .int p4), (5, .int p5), (6, .int p6)] := hl
  unfold P_X11_isPair at hw
  refine lv_iload (pc := 0) hx hb dX11_isPair_0 (lv_at hl 5 rfl) ?_
  refine lv_aload_n (pc := 2) hx hb dX11_isPair_2 rfl (lv_at hl 0 rfl) ?_
  refine va_get (pc := 3) (D := G) (ci := 11) (v := .ref (q 1)) (C := RX11) (T := TX11) (N := 45) hx hb hts iw_X11_isPair_X11 hown hK hP 0 rfl rfl 1 (by decide) (hts _ (List.mem_of_getElem? (i := 1) rfl)) (fun _ h9 => h9) rfl dX11_isPair_3 ?_
  refine lv_iload_n (pc := 6) hx hb dX11_isPair_6 rfl (lv_at hl 1 rfl) ?_
  obtain ⟨h_1, hw⟩ := hw
  refine va_iald (pc := 7) hx hb hK hP 1 0 rfl rfl h_1 dX11_isPair_7 ?_
  refine lv_imul (pc := 8) hx hb dX11_isPair_8 ?_
  refine lv_iload (pc := 9) hx hb dX11_isPair_9 (lv_at hl 6 rfl) ?_
  refine lv_aload_n (pc := 11) hx hb dX11_isPair_11 rfl (lv_at hl 0 rfl) ?_
  refine va_get (pc := 12) (D := G) (ci := 11) (v := .ref (q 1)) (C := RX11) (T := TX11) (N := 45) hx hb hts iw_X11_isPair_X11 hown hK hP 0 rfl rfl 1 (by decide) (hts _ (List.mem_of_getElem? (i := 1) rfl)) (fun _ h9 => h9) rfl dX11_isPair_12 ?_
  refine lv_iload_n (pc := 15) hx hb dX11_isPair_15 rfl (lv_at hl 2 rfl) ?_
  obtain ⟨h_2, hw⟩ := hw
  refine va_iald (pc := 16) hx hb hK hP 1 0 rfl rfl h_2 dX11_isPair_16 ?_
  refine lv_imul (pc := 17) hx hb dX11_isPair_17 ?_
  refine lv_iadd (pc := 18) hx hb dX11_isPair_18 ?_
  refine lv_iload (pc := 19) hx hb dX11_isPair_19 (lv_at hl 4 rfl) ?_
  have K_v_5 : ∀ v_5 : Int32, v_5 = (if p4 < ((p5 * (m_low p1.toNatClampNeg)) + (p6 * (m_low p2.toNatClampNeg))) then (0 : Int32) else (if ((p5 * (m_high p1.toNatClampNeg)) + (p6 * (m_high p2.toNatClampNeg))) < p3 then (0 : Int32) else (1 : Int32))) → W p l e rm_X11_isPair s m av below meth c s.heap [] 0 0 Q (F0 m 52 ls [.int v_5]) := by
    intro v_5 ev_5
    replace hw := hw v_5 ev_5
    exact hRetZ (S := Unit) () hx hb hr hlocks hQ (by rw [ev_5]; (repeat' split) <;> first | exact Or.inl rfl | exact Or.inr rfl) hw hP hK hD hS dX11_isPair_52
  refine lv_icmp_gt (pc := 21) (tgt := 51) hx hb dX11_isPair_21 (by decide) (fun c_3 => ?_) (fun c_3 => ?_)
  · skip
    refine lv_iconst (pc := 51) (v := (0 : Int32)) hx hb dX11_isPair_51 (by decide) ?_
    exact K_v_5 _ (by rw [if_pos c_3])
  · skip
    refine lv_iload (pc := 24) hx hb dX11_isPair_24 (lv_at hl 5 rfl) ?_
    refine lv_aload_n (pc := 26) hx hb dX11_isPair_26 rfl (lv_at hl 0 rfl) ?_
    refine va_get (pc := 27) (D := G) (ci := 11) (v := .ref (q 2)) (C := RX11) (T := TX11) (N := 45) hx hb hts iw_X11_isPair_X11 hown hK hP 0 rfl rfl 2 (by decide) (hts _ (List.mem_of_getElem? (i := 2) rfl)) (fun _ h9 => h9) rfl dX11_isPair_27 ?_
    refine lv_iload_n (pc := 30) hx hb dX11_isPair_30 rfl (lv_at hl 1 rfl) ?_
    refine va_iald (pc := 31) hx hb hK hP 2 0 rfl rfl h_1 dX11_isPair_31 ?_
    refine lv_imul (pc := 32) hx hb dX11_isPair_32 ?_
    refine lv_iload (pc := 33) hx hb dX11_isPair_33 (lv_at hl 6 rfl) ?_
    refine lv_aload_n (pc := 35) hx hb dX11_isPair_35 rfl (lv_at hl 0 rfl) ?_
    refine va_get (pc := 36) (D := G) (ci := 11) (v := .ref (q 2)) (C := RX11) (T := TX11) (N := 45) hx hb hts iw_X11_isPair_X11 hown hK hP 0 rfl rfl 2 (by decide) (hts _ (List.mem_of_getElem? (i := 2) rfl)) (fun _ h9 => h9) rfl dX11_isPair_36 ?_
    refine lv_iload_n (pc := 39) hx hb dX11_isPair_39 rfl (lv_at hl 2 rfl) ?_
    refine va_iald (pc := 40) hx hb hK hP 2 0 rfl rfl h_2 dX11_isPair_40 ?_
    refine lv_imul (pc := 41) hx hb dX11_isPair_41 ?_
    refine lv_iadd (pc := 42) hx hb dX11_isPair_42 ?_
    refine lv_iload_n (pc := 43) hx hb dX11_isPair_43 rfl (lv_at hl 3 rfl) ?_
    refine lv_icmp_lt (pc := 44) (tgt := 51) hx hb dX11_isPair_44 (by decide) (fun c_4 => ?_) (fun c_4 => ?_)
    · skip
      refine lv_iconst (pc := 51) (v := (0 : Int32)) hx hb dX11_isPair_51 (by decide) ?_
      exact K_v_5 _ (by rw [if_neg c_3, if_pos c_4])
    · skip
      refine lv_iconst (pc := 47) (v := (1 : Int32)) hx hb dX11_isPair_47 (by decide) ?_
      refine lv_goto (pc := 48) (tgt := 52) hx hb dX11_isPair_48 (by decide) ?_
      exact K_v_5 _ (by rw [if_neg c_3, if_neg c_4])
def P_X11_tray (post : Int32 → Prop) (p1 : Int32) (p2 : Int32) (p3 : Int32) (p4 : Int32) (m_kinds : Int32) (m_low : Nat → Int32) (m_high : Nat → Int32) : Prop :=
  ∀ (X17 : Int32 → Int32 → Int32 → Prop),
  ∀ (X33 : Int32 → Int32 → Int32 → Int32 → Prop),
  (∀ (x5 : Int32) (x6 : Int32) (x7 : Int32), ((((200 : Int32) < x7 → ∀ v_4 : Int32, v_4 = (if (0 : Int32) ≤ x5 then x6 else x5) → post v_4) ∧ (¬ (200 : Int32) < x7 → ((x5 = (0 : Int32) → X33 x5 x6 x7 (0 : Int32)) ∧ (¬ x5 = (0 : Int32) → ∀ v_7 : Int32, v_7 = (if (0 : Int32) ≤ x5 then x6 else x5) → post v_7))))) → X17 x5 x6 x7) →
  (∀ (x5 : Int32) (x6 : Int32) (x7 : Int32) (x8 : Int32), ((((200 : Int32) < x8 → ∀ y_9 : Int32, y_9 = (x7 + (1 : Int32)) → X17 x5 x6 y_9) ∧ (¬ (200 : Int32) < x8 → P_X11_isPair (fun r_10 => ∀ v_12 : Int32, v_12 = (if r_10 = (0 : Int32) then (0 : Int32) else (1 : Int32)) → ∀ y_13 : Int32, y_13 = (x6 + v_12) → ∀ y_14 : Int32, y_14 = (x8 + (1 : Int32)) → X33 x5 y_13 x7 y_14) p1 p2 (p3 - p4) (p3 + p4) x7 x8 m_low m_high))) → X33 x5 x6 x7 x8) →
  P_X11_mayTray (fun r_1 => X17 r_1 (0 : Int32) (0 : Int32)) p1 p2 p3 p4 m_kinds
abbrev rm_X11_tray : Room := { frames := 3, cells := 0, slots := 0, locals := 70 }
set_option maxHeartbeats 4000000 in
set_option maxRecDepth 100000 in
theorem c_X11_tray (l : Launch) (G : va_G) (K : ClassId × ClassId × ClassId) (tb q : Nat → Nat) (sz : Nat) (m_weighings : Int32) (m_spanLow : Int32) (m_spanHigh : Int32) (m_events : Int32) (m_days : Int32) (m_edges : Int32) (m_crew : Int32) (m_breakages : Int32) (post : Int32 → Prop) (p1 : Int32) (p2 : Int32) (p3 : Int32) (p4 : Int32) (m_kinds : Int32) (m_low : Nat → Int32) (m_high : Nat → Int32) (hw : P_X11_tray post p1 p2 p3 p4 m_kinds m_low m_high) : Met l yX11_tray wsX11_tray rm_X11_tray (va_Pc [.ref (q 0), .int p1, .int p2, .int p3, .int p4] (hPre G K tb [oX11 q m_kinds m_weighings m_spanLow m_spanHigh m_events m_days m_edges m_crew m_breakages, aI K (q 1) 6 m_low, aI K (q 2) 6 m_high] sz)) (va_Qi (fun (r : Int32) (u : Unit) => post r) (fun u => hB G K (va_A [oX11 q m_kinds m_weighings m_spanLow m_spanHigh m_events m_days m_edges m_crew m_breakages, aI K (q 1) 6 m_low, aI K (q 2) 6 m_high] sz) [oX11 q m_kinds m_weighings m_spanLow m_spanHigh m_events m_days m_edges m_crew m_breakages, aI K (q 1) 6 m_low, aI K (q 2) 6 m_high]) (va_A [oX11 q m_kinds m_weighings m_spanLow m_spanHigh m_events m_days m_edges m_crew m_breakages, aI K (q 1) 6 m_low, aI K (q 2) 6 m_high] sz)) 0 0 (va_A [oX11 q m_kinds m_weighings m_spanLow m_spanHigh m_events m_days m_edges m_crew m_breakages, aI K (q 1) 6 m_low, aI K (q 2) 6 m_high] sz) := by
  refine hMet (fun A => va_Qi (fun (r : Int32) (u : Unit) => post r) (fun u => hB G K A [oX11 q m_kinds m_weighings m_spanLow m_spanHigh m_events m_days m_edges m_crew m_breakages, aI K (q 1) 6 m_low, aI K (q 2) 6 m_high]) A) (by decide) rfl (Nat.le_of_ble_eq_true rfl) ?_
  intro p e s m av below meth c A Q ls hx hb hr hml hts hown hlocks hnm hA hP hK hD hS hE hQ hl
  have hts : ∀ w ∈ wsX11_tray, w.before av s = true := hts
  have hown : s.vm.findClass RX11 = some m.cls := hown
  have hl : lv_has ls 9 [(0, .ref (q 0)), (1, .int p1), (2, .int p2), (3, .int p3), (4, .int p4)] := hl
  unfold P_X11_tray at hw
  replace hw := hw (fun (x5 : Int32) (x6 : Int32) (x7 : Int32) => ∀ (H : Heap) (locs : List Loc) (ls : Array Slot), va_P G vwCl [oX11 q m_kinds m_weighings m_spanLow m_spanHigh m_events m_days m_edges m_crew m_breakages, aI K (q 1) 6 m_low, aI K (q 2) 6 m_high] H → va_D A [oX11 q m_kinds m_weighings m_spanLow m_spanHigh m_events m_days m_edges m_crew m_breakages, aI K (q 1) 6 m_low, aI K (q 2) 6 m_high] → va_S A s.heap H locs → lv_has ls 9 [(0, .ref (q 0)), (1, .int p1), (2, .int p2), (3, .int p3), (4, .int p4), (5, .int x5), (6, .int x6), (7, .int x7)] → W p l e rm_X11_tray s m av below meth c H locs 0 0 Q (F0 m 17 ls []))
  replace hw := hw (fun (x5 : Int32) (x6 : Int32) (x7 : Int32) (x8 : Int32) => ∀ (H : Heap) (locs : List Loc) (ls : Array Slot), va_P G vwCl [oX11 q m_kinds m_weighings m_spanLow m_spanHigh m_events m_days m_edges m_crew m_breakages, aI K (q 1) 6 m_low, aI K (q 2) 6 m_high] H → va_D A [oX11 q m_kinds m_weighings m_spanLow m_spanHigh m_events m_days m_edges m_crew m_breakages, aI K (q 1) 6 m_low, aI K (q 2) 6 m_high] → va_S A s.heap H locs → lv_has ls 9 [(0, .ref (q 0)), (1, .int p1), (2, .int p2), (3, .int p3), (4, .int p4), (5, .int x5), (6, .int x6), (7, .int x7), (8, .int x8)] → W p l e rm_X11_tray s m av below meth c H locs 0 0 Q (F0 m 33 ls []))
  replace hw := hw (by
    intro x5 x6 x7 hw H locs ls hP hD hS hl
    refine lv_iload (pc := 17) hx hb dX11_tray_17 (lv_at hl 7 rfl) ?_
    refine lv_sipush (pc := 19) (v := (200 : Int32)) hx hb dX11_tray_19 (by decide) ?_
    refine lv_icmp_gt (pc := 22) (tgt := 84) hx hb dX11_tray_22 (by decide) (fun c_2 => ?_) (fun c_2 => ?_)
    · replace hw := hw.1 c_2
      refine lv_iload (pc := 84) hx hb dX11_tray_84 (lv_at hl 5 rfl) ?_
      have K_v_4 : ∀ v_4 : Int32, v_4 = (if (0 : Int32) ≤ x5 then x6 else x5) → W p l e rm_X11_tray s m av below meth c H locs 0 0 Q (F0 m 96 ls [.int v_4]) := by
        intro v_4 ev_4
        replace hw := hw v_4 ev_4
        exact hRetI (S := Unit) () hx hb hr hlocks hQ hw hP hK hD hS dX11_tray_96
      refine lv_if_ge (pc := 86) (tgt := 94) hx hb dX11_tray_86 (by decide) (fun c_3 => ?_) (fun c_3 => ?_)
      · skip
        refine lv_iload (pc := 94) hx hb dX11_tray_94 (lv_at hl 6 rfl) ?_
        exact K_v_4 _ (by rw [if_pos c_3])
      · skip
        refine lv_iload (pc := 89) hx hb dX11_tray_89 (lv_at hl 5 rfl) ?_
        refine lv_goto (pc := 91) (tgt := 96) hx hb dX11_tray_91 (by decide) ?_
        exact K_v_4 _ (by rw [if_neg c_3])
    · replace hw := hw.2 c_2
      refine lv_iload (pc := 25) hx hb dX11_tray_25 (lv_at hl 5 rfl) ?_
      refine lv_if_ne (pc := 27) (tgt := 84) hx hb dX11_tray_27 (by decide) (fun c_5 => ?_) (fun c_5 => ?_)
      · replace hw := hw.2 c_5
        refine lv_iload (pc := 84) hx hb dX11_tray_84 (lv_at hl 5 rfl) ?_
        have K_v_7 : ∀ v_7 : Int32, v_7 = (if (0 : Int32) ≤ x5 then x6 else x5) → W p l e rm_X11_tray s m av below meth c H locs 0 0 Q (F0 m 96 ls [.int v_7]) := by
          intro v_7 ev_7
          replace hw := hw v_7 ev_7
          exact hRetI (S := Unit) () hx hb hr hlocks hQ hw hP hK hD hS dX11_tray_96
        refine lv_if_ge (pc := 86) (tgt := 94) hx hb dX11_tray_86 (by decide) (fun c_6 => ?_) (fun c_6 => ?_)
        · skip
          refine lv_iload (pc := 94) hx hb dX11_tray_94 (lv_at hl 6 rfl) ?_
          exact K_v_7 _ (by rw [if_pos c_6])
        · skip
          refine lv_iload (pc := 89) hx hb dX11_tray_89 (lv_at hl 5 rfl) ?_
          refine lv_goto (pc := 91) (tgt := 96) hx hb dX11_tray_91 (by decide) ?_
          exact K_v_7 _ (by rw [if_neg c_6])
      · replace hw := hw.1 c_5
        refine lv_iconst (pc := 30) (v := (0 : Int32)) hx hb dX11_tray_30 (by decide) ?_
        refine lv_istore (pc := 31) (lv' := [(8, .int (0 : Int32)), (0, .ref (q 0)), (1, .int p1), (2, .int p2), (3, .int p3), (4, .int p4), (5, .int x5), (6, .int x6), (7, .int x7)]) hx hb dX11_tray_31 hl (by decide) rfl (fun ls hl => ?_)
        exact hw _ _ _ hP hD hS (lv_sub hl [1, 2, 3, 4, 5, 6, 7, 8, 0] rfl))
  replace hw := hw (by
    intro x5 x6 x7 x8 hw H locs ls hP hD hS hl
    refine lv_iload (pc := 33) hx hb dX11_tray_33 (lv_at hl 8 rfl) ?_
    refine lv_sipush (pc := 35) (v := (200 : Int32)) hx hb dX11_tray_35 (by decide) ?_
    refine lv_icmp_gt (pc := 38) (tgt := 78) hx hb dX11_tray_38 (by decide) (fun c_8 => ?_) (fun c_8 => ?_)
    · replace hw := hw.1 c_8
      obtain ⟨y_9, ey_9⟩ : ∃ z : Int32, z = (x7 + (1 : Int32)) := ⟨_, rfl⟩
      replace hw := hw y_9 ey_9
      refine lv_iinc (pc := 78) (v := y_9) (lv' := [(7, .int y_9), (0, .ref (q 0)), (1, .int p1), (2, .int p2), (3, .int p3), (4, .int p4), (5, .int x5), (6, .int x6), (8, .int x8)]) hx hb dX11_tray_78 hl (k := 7) rfl (by rw [ey_9]; rfl) (by decide) rfl (fun ls hl => ?_)
      refine lv_goto (pc := 81) (tgt := 17) hx hb dX11_tray_81 (by decide) ?_
      exact hw _ _ _ hP hD hS (lv_sub hl [1, 2, 3, 4, 5, 6, 7, 0] rfl)
    · replace hw := hw.2 c_8
      refine lv_iload (pc := 41) hx hb dX11_tray_41 (lv_at hl 6 rfl) ?_
      refine lv_aload_n (pc := 43) hx hb dX11_tray_43 rfl (lv_at hl 0 rfl) ?_
      refine lv_iload_n (pc := 44) hx hb dX11_tray_44 rfl (lv_at hl 1 rfl) ?_
      refine lv_iload_n (pc := 45) hx hb dX11_tray_45 rfl (lv_at hl 2 rfl) ?_
      refine lv_iload_n (pc := 46) hx hb dX11_tray_46 rfl (lv_at hl 3 rfl) ?_
      refine lv_iload (pc := 47) hx hb dX11_tray_47 (lv_at hl 4 rfl) ?_
      refine lv_isub (pc := 49) hx hb dX11_tray_49 ?_
      refine lv_iload_n (pc := 50) hx hb dX11_tray_50 rfl (lv_at hl 3 rfl) ?_
      refine lv_iload (pc := 51) hx hb dX11_tray_51 (lv_at hl 4 rfl) ?_
      refine lv_iadd (pc := 53) hx hb dX11_tray_53 ?_
      refine lv_iload (pc := 54) hx hb dX11_tray_54 (lv_at hl 7 rfl) ?_
      refine lv_iload (pc := 56) hx hb dX11_tray_56 (lv_at hl 8 rfl) ?_
      refine hCallI (pc := 58) (wr := []) (wsf := fun (u : Unit) => [oX11 q m_kinds m_weighings m_spanLow m_spanHigh m_events m_days m_edges m_crew m_breakages, aI K (q 1) 6 m_low, aI K (q 2) 6 m_high]) [0, 1, 2] [] (va_runV (As := [.int p1, .int p2, .int (p3 - p4), .int (p3 + p4), .int x7, .int x8]) (rest := [.int x6]) ⟨hx, hb, hml, hown, hts⟩ (c_X11_isPair l G K tb q H.size m_kinds m_weighings m_spanLow m_spanHigh m_events m_days m_edges m_crew m_breakages _ p1 p2 (p3 - p4) (p3 + p4) x7 x8 m_low m_high hw) (cwV 6 hts gX11_tray_X11_isPair rfl rfl rfl (by decide +kernel) ⟨Nat.le_of_ble_eq_true rfl, Nat.le_of_ble_eq_true rfl⟩) (hPreV hE hP hK hD hS hA [0, 1, 2] (by decide) rfl rfl rfl rfl (q0 := 0) (ci := 11) rfl) rfl rfl hl.1 rfl (lv_room (Nat.le_of_ble_eq_true rfl)) dX11_tray_58 ⟨Nat.zero_le _, Nat.zero_le _⟩) hP hD hS hA rfl rfl (by decide) (by decide) (fun r_10 u H locs hw hP hD hS => ?_)
      have hP : va_P G vwCl [oX11 q m_kinds m_weighings m_spanLow m_spanHigh m_events m_days m_edges m_crew m_breakages, aI K (q 1) 6 m_low, aI K (q 2) 6 m_high] H := hP.sub [0, 1, 2] rfl
      have hD : va_D A [oX11 q m_kinds m_weighings m_spanLow m_spanHigh m_events m_days m_edges m_crew m_breakages, aI K (q 1) 6 m_low, aI K (q 2) 6 m_high] := hD.sub [0, 1, 2] (by decide) rfl
      have K_v_12 : ∀ v_12 : Int32, v_12 = (if r_10 = (0 : Int32) then (0 : Int32) else (1 : Int32)) → W p l e rm_X11_tray s m av below meth c H locs 0 0 Q (F0 m 69 ls [.int v_12, .int x6]) := by
        intro v_12 ev_12
        replace hw := hw v_12 ev_12
        refine lv_iadd (pc := 69) hx hb dX11_tray_69 ?_
        refine lv_topi (fun y_13 ey_13 => ?_)
        replace hw := hw y_13 ey_13
        refine lv_istore (pc := 70) (lv' := [(6, .int y_13), (0, .ref (q 0)), (1, .int p1), (2, .int p2), (3, .int p3), (4, .int p4), (5, .int x5), (7, .int x7), (8, .int x8)]) hx hb dX11_tray_70 hl (by decide) rfl (fun ls hl => ?_)
        obtain ⟨y_14, ey_14⟩ : ∃ z : Int32, z = (x8 + (1 : Int32)) := ⟨_, rfl⟩
        replace hw := hw y_14 ey_14
        refine lv_iinc (pc := 72) (v := y_14) (lv' := [(8, .int y_14), (6, .int y_13), (0, .ref (q 0)), (1, .int p1), (2, .int p2), (3, .int p3), (4, .int p4), (5, .int x5), (7, .int x7)]) hx hb dX11_tray_72 hl (k := 8) rfl (by rw [ey_14]; rfl) (by decide) rfl (fun ls hl => ?_)
        refine lv_goto (pc := 75) (tgt := 33) hx hb dX11_tray_75 (by decide) ?_
        exact hw _ _ _ hP hD hS (lv_sub hl [2, 3, 4, 5, 6, 7, 1, 8, 0] rfl)
      refine lv_if_eq (pc := 61) (tgt := 68) hx hb dX11_tray_61 (by decide) (fun c_11 => ?_) (fun c_11 => ?_)
      · skip
        refine lv_iconst (pc := 68) (v := (0 : Int32)) hx hb dX11_tray_68 (by decide) ?_
        exact K_v_12 _ (by rw [if_pos c_11])
      · skip
        refine lv_iconst (pc := 64) (v := (1 : Int32)) hx hb dX11_tray_64 (by decide) ?_
        refine lv_goto (pc := 65) (tgt := 69) hx hb dX11_tray_65 (by decide) ?_
        exact K_v_12 _ (by rw [if_neg c_11]))
  refine lv_aload_n (pc := 0) hx hb dX11_tray_0 rfl (lv_at hl 0 rfl) ?_
  refine lv_iload_n (pc := 1) hx hb dX11_tray_1 rfl (lv_at hl 1 rfl) ?_
  refine lv_iload_n (pc := 2) hx hb dX11_tray_2 rfl (lv_at hl 2 rfl) ?_
  refine lv_iload_n (pc := 3) hx hb dX11_tray_3 rfl (lv_at hl 3 rfl) ?_
  refine lv_iload (pc := 4) hx hb dX11_tray_4 (lv_at hl 4 rfl) ?_
  refine hCallI (pc := 6) (wr := [aI K (q 1) 6 m_low, aI K (q 2) 6 m_high]) (wsf := fun (u : Unit) => [oX11 q m_kinds m_weighings m_spanLow m_spanHigh m_events m_days m_edges m_crew m_breakages]) [0] [1, 2] (va_runV (As := [.int p1, .int p2, .int p3, .int p4]) (rest := []) ⟨hx, hb, hml, hown, hts⟩ (c_X11_mayTray l G K tb q s.heap.size m_weighings m_spanLow m_spanHigh m_events m_days m_edges m_crew m_breakages _ p1 p2 p3 p4 m_kinds hw) (cwV 4 hts gX11_tray_X11_mayTray rfl rfl rfl (by decide +kernel) ⟨Nat.le_of_ble_eq_true rfl, Nat.le_of_ble_eq_true rfl⟩) (hPreV hE hP hK hD hS hA [0] (by decide) rfl rfl rfl rfl (q0 := 0) (ci := 11) rfl) rfl rfl hl.1 rfl (lv_room (Nat.le_of_ble_eq_true rfl)) dX11_tray_6 ⟨Nat.zero_le _, Nat.zero_le _⟩) hP hD hS hA rfl rfl (by decide) (by decide) (fun r_1 u H locs hw hP hD hS => ?_)
  have hP : va_P G vwCl [oX11 q m_kinds m_weighings m_spanLow m_spanHigh m_events m_days m_edges m_crew m_breakages, aI K (q 1) 6 m_low, aI K (q 2) 6 m_high] H := hP.sub [2, 0, 1] rfl
  have hD : va_D A [oX11 q m_kinds m_weighings m_spanLow m_spanHigh m_events m_days m_edges m_crew m_breakages, aI K (q 1) 6 m_low, aI K (q 2) 6 m_high] := hD.sub [2, 0, 1] (by decide) rfl
  refine lv_istore (pc := 9) (lv' := [(5, .int r_1), (0, .ref (q 0)), (1, .int p1), (2, .int p2), (3, .int p3), (4, .int p4)]) hx hb dX11_tray_9 hl (by decide) rfl (fun ls hl => ?_)
  refine lv_iconst (pc := 11) (v := (0 : Int32)) hx hb dX11_tray_11 (by decide) ?_
  refine lv_istore (pc := 12) (lv' := [(6, .int (0 : Int32)), (5, .int r_1), (0, .ref (q 0)), (1, .int p1), (2, .int p2), (3, .int p3), (4, .int p4)]) hx hb dX11_tray_12 hl (by decide) rfl (fun ls hl => ?_)
  refine lv_iconst (pc := 14) (v := (0 : Int32)) hx hb dX11_tray_14 (by decide) ?_
  refine lv_istore (pc := 15) (lv' := [(7, .int (0 : Int32)), (6, .int (0 : Int32)), (5, .int r_1), (0, .ref (q 0)), (1, .int p1), (2, .int p2), (3, .int p3), (4, .int p4)]) hx hb dX11_tray_15 hl (by decide) rfl (fun ls hl => ?_)
  exact hw _ _ _ hP hD hS (lv_sub hl [3, 4, 5, 6, 7, 2, 1, 0] rfl)
def P_X11_trayPair (post : Int32 → Prop) (p1 : Int32) (p2 : Int32) (p3 : Int32) (p4 : Int32) (p5 : Int32) (m_kinds : Int32) (m_low : Nat → Int32) (m_high : Nat → Int32) : Prop :=
  ∀ (X18 : Int32 → Int32 → Int32 → Prop),
  ∀ (X39 : Int32 → Int32 → Int32 → Int32 → Prop),
  (∀ (x6 : Int32) (x7 : Int32) (x8 : Int32), ((((200 : Int32) < x8 → ∀ v_4 : Int32, v_4 = (if (0 : Int32) ≤ x6 then (-9 : Int32) else x6) → post v_4) ∧ (¬ (200 : Int32) < x8 → ((x6 = (0 : Int32) → ((p5 < (0 : Int32) → ∀ v_10 : Int32, v_10 = (if (0 : Int32) ≤ x6 then (-9 : Int32) else x6) → post v_10) ∧ (¬ p5 < (0 : Int32) → X39 x6 x7 x8 (0 : Int32)))) ∧ (¬ x6 = (0 : Int32) → ∀ v_7 : Int32, v_7 = (if (0 : Int32) ≤ x6 then (-9 : Int32) else x6) → post v_7))))) → X18 x6 x7 x8) →
  (∀ (x6 : Int32) (x7 : Int32) (x8 : Int32) (x9 : Int32), ((((200 : Int32) < x9 → ∀ y_12 : Int32, y_12 = (x8 + (1 : Int32)) → X18 x6 x7 y_12) ∧ (¬ (200 : Int32) < x9 → P_X11_isPair (fun r_13 => ((r_13 = (0 : Int32) → ∀ y_15 : Int32, y_15 = (x9 + (1 : Int32)) → X39 x6 x7 x8 y_15) ∧ (¬ r_13 = (0 : Int32) → ((x7 = (0 : Int32) → post (((1000 : Int32) * x8) + x9)) ∧ (¬ x7 = (0 : Int32) → ∀ y_17 : Int32, y_17 = (x7 + (-1 : Int32)) → ∀ y_18 : Int32, y_18 = (x9 + (1 : Int32)) → X39 x6 y_17 x8 y_18))))) p1 p2 (p3 - p4) (p3 + p4) x8 x9 m_low m_high))) → X39 x6 x7 x8 x9) →
  P_X11_mayTray (fun r_1 => X18 r_1 p5 (0 : Int32)) p1 p2 p3 p4 m_kinds
abbrev rm_X11_trayPair : Room := { frames := 3, cells := 0, slots := 0, locals := 70 }
set_option maxHeartbeats 4000000 in
set_option maxRecDepth 100000 in
theorem c_X11_trayPair (l : Launch) (G : va_G) (K : ClassId × ClassId × ClassId) (tb q : Nat → Nat) (sz : Nat) (m_weighings : Int32) (m_spanLow : Int32) (m_spanHigh : Int32) (m_events : Int32) (m_days : Int32) (m_edges : Int32) (m_crew : Int32) (m_breakages : Int32) (post : Int32 → Prop) (p1 : Int32) (p2 : Int32) (p3 : Int32) (p4 : Int32) (p5 : Int32) (m_kinds : Int32) (m_low : Nat → Int32) (m_high : Nat → Int32) (hw : P_X11_trayPair post p1 p2 p3 p4 p5 m_kinds m_low m_high) : Met l yX11_trayPair wsX11_trayPair rm_X11_trayPair (va_Pc [.ref (q 0), .int p1, .int p2, .int p3, .int p4, .int p5] (hPre G K tb [oX11 q m_kinds m_weighings m_spanLow m_spanHigh m_events m_days m_edges m_crew m_breakages, aI K (q 1) 6 m_low, aI K (q 2) 6 m_high] sz)) (va_Qi (fun (r : Int32) (u : Unit) => post r) (fun u => hB G K (va_A [oX11 q m_kinds m_weighings m_spanLow m_spanHigh m_events m_days m_edges m_crew m_breakages, aI K (q 1) 6 m_low, aI K (q 2) 6 m_high] sz) [oX11 q m_kinds m_weighings m_spanLow m_spanHigh m_events m_days m_edges m_crew m_breakages, aI K (q 1) 6 m_low, aI K (q 2) 6 m_high]) (va_A [oX11 q m_kinds m_weighings m_spanLow m_spanHigh m_events m_days m_edges m_crew m_breakages, aI K (q 1) 6 m_low, aI K (q 2) 6 m_high] sz)) 0 0 (va_A [oX11 q m_kinds m_weighings m_spanLow m_spanHigh m_events m_days m_edges m_crew m_breakages, aI K (q 1) 6 m_low, aI K (q 2) 6 m_high] sz) := by
  refine hMet (fun A => va_Qi (fun (r : Int32) (u : Unit) => post r) (fun u => hB G K A [oX11 q m_kinds m_weighings m_spanLow m_spanHigh m_events m_days m_edges m_crew m_breakages, aI K (q 1) 6 m_low, aI K (q 2) 6 m_high]) A) (by decide) rfl (Nat.le_of_ble_eq_true rfl) ?_
  intro p e s m av below meth c A Q ls hx hb hr hml hts hown hlocks hnm hA hP hK hD hS hE hQ hl
  have hts : ∀ w ∈ wsX11_trayPair, w.before av s = true := hts
  have hown : s.vm.findClass RX11 = some m.cls := hown
  have hl : lv_has ls 10 [(0, .ref (q 0)), (1, .int p1), (2, .int p2), (3, .int p3), (4, .int p4), (5, .int p5)] := hl
  unfold P_X11_trayPair at hw
  replace hw := hw (fun (x6 : Int32) (x7 : Int32) (x8 : Int32) => ∀ (H : Heap) (locs : List Loc) (ls : Array Slot), va_P G vwCl [oX11 q m_kinds m_weighings m_spanLow m_spanHigh m_events m_days m_edges m_crew m_breakages, aI K (q 1) 6 m_low, aI K (q 2) 6 m_high] H → va_D A [oX11 q m_kinds m_weighings m_spanLow m_spanHigh m_events m_days m_edges m_crew m_breakages, aI K (q 1) 6 m_low, aI K (q 2) 6 m_high] → va_S A s.heap H locs → lv_has ls 10 [(0, .ref (q 0)), (1, .int p1), (2, .int p2), (3, .int p3), (4, .int p4), (5, .int p5), (6, .int x6), (7, .int x7), (8, .int x8)] → W p l e rm_X11_trayPair s m av below meth c H locs 0 0 Q (F0 m 18 ls []))
  replace hw := hw (fun (x6 : Int32) (x7 : Int32) (x8 : Int32) (x9 : Int32) => ∀ (H : Heap) (locs : List Loc) (ls : Array Slot), va_P G vwCl [oX11 q m_kinds m_weighings m_spanLow m_spanHigh m_events m_days m_edges m_crew m_breakages, aI K (q 1) 6 m_low, aI K (q 2) 6 m_high] H → va_D A [oX11 q m_kinds m_weighings m_spanLow m_spanHigh m_events m_days m_edges m_crew m_breakages, aI K (q 1) 6 m_low, aI K (q 2) 6 m_high] → va_S A s.heap H locs → lv_has ls 10 [(0, .ref (q 0)), (1, .int p1), (2, .int p2), (3, .int p3), (4, .int p4), (5, .int p5), (6, .int x6), (7, .int x7), (8, .int x8), (9, .int x9)] → W p l e rm_X11_trayPair s m av below meth c H locs 0 0 Q (F0 m 39 ls []))
  replace hw := hw (by
    intro x6 x7 x8 hw H locs ls hP hD hS hl
    refine lv_iload (pc := 18) hx hb dX11_trayPair_18 (lv_at hl 8 rfl) ?_
    refine lv_sipush (pc := 20) (v := (200 : Int32)) hx hb dX11_trayPair_20 (by decide) ?_
    refine lv_icmp_gt (pc := 23) (tgt := 98) hx hb dX11_trayPair_23 (by decide) (fun c_2 => ?_) (fun c_2 => ?_)
    · replace hw := hw.1 c_2
      refine lv_iload (pc := 98) hx hb dX11_trayPair_98 (lv_at hl 6 rfl) ?_
      have K_v_4 : ∀ v_4 : Int32, v_4 = (if (0 : Int32) ≤ x6 then (-9 : Int32) else x6) → W p l e rm_X11_trayPair s m av below meth c H locs 0 0 Q (F0 m 110 ls [.int v_4]) := by
        intro v_4 ev_4
        replace hw := hw v_4 ev_4
        exact hRetI (S := Unit) () hx hb hr hlocks hQ hw hP hK hD hS dX11_trayPair_110
      refine lv_if_ge (pc := 100) (tgt := 108) hx hb dX11_trayPair_100 (by decide) (fun c_3 => ?_) (fun c_3 => ?_)
      · skip
        refine lv_bipush (pc := 108) (v := (-9 : Int32)) hx hb dX11_trayPair_108 (by decide) ?_
        exact K_v_4 _ (by rw [if_pos c_3])
      · skip
        refine lv_iload (pc := 103) hx hb dX11_trayPair_103 (lv_at hl 6 rfl) ?_
        refine lv_goto (pc := 105) (tgt := 110) hx hb dX11_trayPair_105 (by decide) ?_
        exact K_v_4 _ (by rw [if_neg c_3])
    · replace hw := hw.2 c_2
      refine lv_iload (pc := 26) hx hb dX11_trayPair_26 (lv_at hl 6 rfl) ?_
      refine lv_if_ne (pc := 28) (tgt := 98) hx hb dX11_trayPair_28 (by decide) (fun c_5 => ?_) (fun c_5 => ?_)
      · replace hw := hw.2 c_5
        refine lv_iload (pc := 98) hx hb dX11_trayPair_98 (lv_at hl 6 rfl) ?_
        have K_v_7 : ∀ v_7 : Int32, v_7 = (if (0 : Int32) ≤ x6 then (-9 : Int32) else x6) → W p l e rm_X11_trayPair s m av below meth c H locs 0 0 Q (F0 m 110 ls [.int v_7]) := by
          intro v_7 ev_7
          replace hw := hw v_7 ev_7
          exact hRetI (S := Unit) () hx hb hr hlocks hQ hw hP hK hD hS dX11_trayPair_110
        refine lv_if_ge (pc := 100) (tgt := 108) hx hb dX11_trayPair_100 (by decide) (fun c_6 => ?_) (fun c_6 => ?_)
        · skip
          refine lv_bipush (pc := 108) (v := (-9 : Int32)) hx hb dX11_trayPair_108 (by decide) ?_
          exact K_v_7 _ (by rw [if_pos c_6])
        · skip
          refine lv_iload (pc := 103) hx hb dX11_trayPair_103 (lv_at hl 6 rfl) ?_
          refine lv_goto (pc := 105) (tgt := 110) hx hb dX11_trayPair_105 (by decide) ?_
          exact K_v_7 _ (by rw [if_neg c_6])
      · replace hw := hw.1 c_5
        refine lv_iload (pc := 31) hx hb dX11_trayPair_31 (lv_at hl 5 rfl) ?_
        refine lv_if_lt (pc := 33) (tgt := 98) hx hb dX11_trayPair_33 (by decide) (fun c_8 => ?_) (fun c_8 => ?_)
        · replace hw := hw.1 c_8
          refine lv_iload (pc := 98) hx hb dX11_trayPair_98 (lv_at hl 6 rfl) ?_
          have K_v_10 : ∀ v_10 : Int32, v_10 = (if (0 : Int32) ≤ x6 then (-9 : Int32) else x6) → W p l e rm_X11_trayPair s m av below meth c H locs 0 0 Q (F0 m 110 ls [.int v_10]) := by
            intro v_10 ev_10
            replace hw := hw v_10 ev_10
            exact hRetI (S := Unit) () hx hb hr hlocks hQ hw hP hK hD hS dX11_trayPair_110
          refine lv_if_ge (pc := 100) (tgt := 108) hx hb dX11_trayPair_100 (by decide) (fun c_9 => ?_) (fun c_9 => ?_)
          · skip
            refine lv_bipush (pc := 108) (v := (-9 : Int32)) hx hb dX11_trayPair_108 (by decide) ?_
            exact K_v_10 _ (by rw [if_pos c_9])
          · skip
            refine lv_iload (pc := 103) hx hb dX11_trayPair_103 (lv_at hl 6 rfl) ?_
            refine lv_goto (pc := 105) (tgt := 110) hx hb dX11_trayPair_105 (by decide) ?_
            exact K_v_10 _ (by rw [if_neg c_9])
        · replace hw := hw.2 c_8
          refine lv_iconst (pc := 36) (v := (0 : Int32)) hx hb dX11_trayPair_36 (by decide) ?_
          refine lv_istore (pc := 37) (lv' := [(9, .int (0 : Int32)), (0, .ref (q 0)), (1, .int p1), (2, .int p2), (3, .int p3), (4, .int p4), (5, .int p5), (6, .int x6), (7, .int x7), (8, .int x8)]) hx hb dX11_trayPair_37 hl (by decide) rfl (fun ls hl => ?_)
          exact hw _ _ _ hP hD hS (lv_sub hl [1, 2, 3, 4, 5, 6, 7, 8, 9, 0] rfl))
  replace hw := hw (by
    intro x6 x7 x8 x9 hw H locs ls hP hD hS hl
    refine lv_iload (pc := 39) hx hb dX11_trayPair_39 (lv_at hl 9 rfl) ?_
    refine lv_sipush (pc := 41) (v := (200 : Int32)) hx hb dX11_trayPair_41 (by decide) ?_
    refine lv_icmp_gt (pc := 44) (tgt := 92) hx hb dX11_trayPair_44 (by decide) (fun c_11 => ?_) (fun c_11 => ?_)
    · replace hw := hw.1 c_11
      obtain ⟨y_12, ey_12⟩ : ∃ z : Int32, z = (x8 + (1 : Int32)) := ⟨_, rfl⟩
      replace hw := hw y_12 ey_12
      refine lv_iinc (pc := 92) (v := y_12) (lv' := [(8, .int y_12), (0, .ref (q 0)), (1, .int p1), (2, .int p2), (3, .int p3), (4, .int p4), (5, .int p5), (6, .int x6), (7, .int x7), (9, .int x9)]) hx hb dX11_trayPair_92 hl (k := 8) rfl (by rw [ey_12]; rfl) (by decide) rfl (fun ls hl => ?_)
      refine lv_goto (pc := 95) (tgt := 18) hx hb dX11_trayPair_95 (by decide) ?_
      exact hw _ _ _ hP hD hS (lv_sub hl [1, 2, 3, 4, 5, 6, 7, 8, 0] rfl)
    · replace hw := hw.2 c_11
      refine lv_aload_n (pc := 47) hx hb dX11_trayPair_47 rfl (lv_at hl 0 rfl) ?_
      refine lv_iload_n (pc := 48) hx hb dX11_trayPair_48 rfl (lv_at hl 1 rfl) ?_
      refine lv_iload_n (pc := 49) hx hb dX11_trayPair_49 rfl (lv_at hl 2 rfl) ?_
      refine lv_iload_n (pc := 50) hx hb dX11_trayPair_50 rfl (lv_at hl 3 rfl) ?_
      refine lv_iload (pc := 51) hx hb dX11_trayPair_51 (lv_at hl 4 rfl) ?_
      refine lv_isub (pc := 53) hx hb dX11_trayPair_53 ?_
      refine lv_iload_n (pc := 54) hx hb dX11_trayPair_54 rfl (lv_at hl 3 rfl) ?_
      refine lv_iload (pc := 55) hx hb dX11_trayPair_55 (lv_at hl 4 rfl) ?_
      refine lv_iadd (pc := 57) hx hb dX11_trayPair_57 ?_
      refine lv_iload (pc := 58) hx hb dX11_trayPair_58 (lv_at hl 8 rfl) ?_
      refine lv_iload (pc := 60) hx hb dX11_trayPair_60 (lv_at hl 9 rfl) ?_
      refine hCallI (pc := 62) (wr := []) (wsf := fun (u : Unit) => [oX11 q m_kinds m_weighings m_spanLow m_spanHigh m_events m_days m_edges m_crew m_breakages, aI K (q 1) 6 m_low, aI K (q 2) 6 m_high]) [0, 1, 2] [] (va_runV (As := [.int p1, .int p2, .int (p3 - p4), .int (p3 + p4), .int x8, .int x9]) (rest := []) ⟨hx, hb, hml, hown, hts⟩ (c_X11_isPair l G K tb q H.size m_kinds m_weighings m_spanLow m_spanHigh m_events m_days m_edges m_crew m_breakages _ p1 p2 (p3 - p4) (p3 + p4) x8 x9 m_low m_high hw) (cwV 6 hts gX11_trayPair_X11_isPair rfl rfl rfl (by decide +kernel) ⟨Nat.le_of_ble_eq_true rfl, Nat.le_of_ble_eq_true rfl⟩) (hPreV hE hP hK hD hS hA [0, 1, 2] (by decide) rfl rfl rfl rfl (q0 := 0) (ci := 11) rfl) rfl rfl hl.1 rfl (lv_room (Nat.le_of_ble_eq_true rfl)) dX11_trayPair_62 ⟨Nat.zero_le _, Nat.zero_le _⟩) hP hD hS hA rfl rfl (by decide) (by decide) (fun r_13 u H locs hw hP hD hS => ?_)
      have hP : va_P G vwCl [oX11 q m_kinds m_weighings m_spanLow m_spanHigh m_events m_days m_edges m_crew m_breakages, aI K (q 1) 6 m_low, aI K (q 2) 6 m_high] H := hP.sub [0, 1, 2] rfl
      have hD : va_D A [oX11 q m_kinds m_weighings m_spanLow m_spanHigh m_events m_days m_edges m_crew m_breakages, aI K (q 1) 6 m_low, aI K (q 2) 6 m_high] := hD.sub [0, 1, 2] (by decide) rfl
      refine lv_if_eq (pc := 65) (tgt := 86) hx hb dX11_trayPair_65 (by decide) (fun c_14 => ?_) (fun c_14 => ?_)
      · replace hw := hw.1 c_14
        obtain ⟨y_15, ey_15⟩ : ∃ z : Int32, z = (x9 + (1 : Int32)) := ⟨_, rfl⟩
        replace hw := hw y_15 ey_15
        refine lv_iinc (pc := 86) (v := y_15) (lv' := [(9, .int y_15), (0, .ref (q 0)), (1, .int p1), (2, .int p2), (3, .int p3), (4, .int p4), (5, .int p5), (6, .int x6), (7, .int x7), (8, .int x8)]) hx hb dX11_trayPair_86 hl (k := 9) rfl (by rw [ey_15]; rfl) (by decide) rfl (fun ls hl => ?_)
        refine lv_goto (pc := 89) (tgt := 39) hx hb dX11_trayPair_89 (by decide) ?_
        exact hw _ _ _ hP hD hS (lv_sub hl [1, 2, 3, 4, 5, 6, 7, 8, 9, 0] rfl)
      · replace hw := hw.2 c_14
        refine lv_iload (pc := 68) hx hb dX11_trayPair_68 (lv_at hl 7 rfl) ?_
        refine lv_if_ne (pc := 70) (tgt := 83) hx hb dX11_trayPair_70 (by decide) (fun c_16 => ?_) (fun c_16 => ?_)
        · replace hw := hw.2 c_16
          obtain ⟨y_17, ey_17⟩ : ∃ z : Int32, z = (x7 + (-1 : Int32)) := ⟨_, rfl⟩
          replace hw := hw y_17 ey_17
          refine lv_iinc (pc := 83) (v := y_17) (lv' := [(7, .int y_17), (0, .ref (q 0)), (1, .int p1), (2, .int p2), (3, .int p3), (4, .int p4), (5, .int p5), (6, .int x6), (8, .int x8), (9, .int x9)]) hx hb dX11_trayPair_83 hl (k := 7) rfl (by rw [ey_17]; rfl) (by decide) rfl (fun ls hl => ?_)
          obtain ⟨y_18, ey_18⟩ : ∃ z : Int32, z = (x9 + (1 : Int32)) := ⟨_, rfl⟩
          replace hw := hw y_18 ey_18
          refine lv_iinc (pc := 86) (v := y_18) (lv' := [(9, .int y_18), (7, .int y_17), (0, .ref (q 0)), (1, .int p1), (2, .int p2), (3, .int p3), (4, .int p4), (5, .int p5), (6, .int x6), (8, .int x8)]) hx hb dX11_trayPair_86 hl (k := 9) rfl (by rw [ey_18]; rfl) (by decide) rfl (fun ls hl => ?_)
          refine lv_goto (pc := 89) (tgt := 39) hx hb dX11_trayPair_89 (by decide) ?_
          exact hw _ _ _ hP hD hS (lv_sub hl [2, 3, 4, 5, 6, 7, 8, 1, 9, 0] rfl)
        · replace hw := hw.1 c_16
          refine lv_sipush (pc := 73) (v := (1000 : Int32)) hx hb dX11_trayPair_73 (by decide) ?_
          refine lv_iload (pc := 76) hx hb dX11_trayPair_76 (lv_at hl 8 rfl) ?_
          refine lv_imul (pc := 78) hx hb dX11_trayPair_78 ?_
          refine lv_iload (pc := 79) hx hb dX11_trayPair_79 (lv_at hl 9 rfl) ?_
          refine lv_iadd (pc := 81) hx hb dX11_trayPair_81 ?_
          exact hRetI (S := Unit) () hx hb hr hlocks hQ hw hP hK hD hS dX11_trayPair_82)
  refine lv_aload_n (pc := 0) hx hb dX11_trayPair_0 rfl (lv_at hl 0 rfl) ?_
  refine lv_iload_n (pc := 1) hx hb dX11_trayPair_1 rfl (lv_at hl 1 rfl) ?_
  refine lv_iload_n (pc := 2) hx hb dX11_trayPair_2 rfl (lv_at hl 2 rfl) ?_
  refine lv_iload_n (pc := 3) hx hb dX11_trayPair_3 rfl (lv_at hl 3 rfl) ?_
  refine lv_iload (pc := 4) hx hb dX11_trayPair_4 (lv_at hl 4 rfl) ?_
  refine hCallI (pc := 6) (wr := [aI K (q 1) 6 m_low, aI K (q 2) 6 m_high]) (wsf := fun (u : Unit) => [oX11 q m_kinds m_weighings m_spanLow m_spanHigh m_events m_days m_edges m_crew m_breakages]) [0] [1, 2] (va_runV (As := [.int p1, .int p2, .int p3, .int p4]) (rest := []) ⟨hx, hb, hml, hown, hts⟩ (c_X11_mayTray l G K tb q s.heap.size m_weighings m_spanLow m_spanHigh m_events m_days m_edges m_crew m_breakages _ p1 p2 p3 p4 m_kinds hw) (cwV 4 hts gX11_trayPair_X11_mayTray rfl rfl rfl (by decide +kernel) ⟨Nat.le_of_ble_eq_true rfl, Nat.le_of_ble_eq_true rfl⟩) (hPreV hE hP hK hD hS hA [0] (by decide) rfl rfl rfl rfl (q0 := 0) (ci := 11) rfl) rfl rfl hl.1 rfl (lv_room (Nat.le_of_ble_eq_true rfl)) dX11_trayPair_6 ⟨Nat.zero_le _, Nat.zero_le _⟩) hP hD hS hA rfl rfl (by decide) (by decide) (fun r_1 u H locs hw hP hD hS => ?_)
  have hP : va_P G vwCl [oX11 q m_kinds m_weighings m_spanLow m_spanHigh m_events m_days m_edges m_crew m_breakages, aI K (q 1) 6 m_low, aI K (q 2) 6 m_high] H := hP.sub [2, 0, 1] rfl
  have hD : va_D A [oX11 q m_kinds m_weighings m_spanLow m_spanHigh m_events m_days m_edges m_crew m_breakages, aI K (q 1) 6 m_low, aI K (q 2) 6 m_high] := hD.sub [2, 0, 1] (by decide) rfl
  refine lv_istore (pc := 9) (lv' := [(6, .int r_1), (0, .ref (q 0)), (1, .int p1), (2, .int p2), (3, .int p3), (4, .int p4), (5, .int p5)]) hx hb dX11_trayPair_9 hl (by decide) rfl (fun ls hl => ?_)
  refine lv_iload (pc := 11) hx hb dX11_trayPair_11 (lv_at hl 6 rfl) ?_
  refine lv_istore (pc := 13) (lv' := [(7, .int p5), (6, .int r_1), (0, .ref (q 0)), (1, .int p1), (2, .int p2), (3, .int p3), (4, .int p4), (5, .int p5)]) hx hb dX11_trayPair_13 hl (by decide) rfl (fun ls hl => ?_)
  refine lv_iconst (pc := 15) (v := (0 : Int32)) hx hb dX11_trayPair_15 (by decide) ?_
  refine lv_istore (pc := 16) (lv' := [(8, .int (0 : Int32)), (7, .int p5), (6, .int r_1), (0, .ref (q 0)), (1, .int p1), (2, .int p2), (3, .int p3), (4, .int p4), (5, .int p5)]) hx hb dX11_trayPair_16 hl (by decide) rfl (fun ls hl => ?_)
  exact hw _ _ _ hP hD hS (lv_sub hl [3, 4, 5, 6, 7, 8, 2, 1, 0] rfl)
def P_X11_ledger (post : Int32 → (Nat → Int32) → Prop) (p1 : Int32) (p2 : Int32) (p3 : Int32) (p4 : Int32) (m_kinds : Int32) (m_ledger : Nat → Int32) : Prop :=
  P_X11_isHouse (fun r_1 => ((r_1 = (0 : Int32) → post (-1 : Int32) m_ledger) ∧ (¬ r_1 = (0 : Int32) → P_X11_isKind (fun r_3 => ((r_3 = (0 : Int32) → post (-1 : Int32) m_ledger) ∧ (¬ r_3 = (0 : Int32) → P_X11_in (fun r_5 => ((r_5 = (0 : Int32) → post (-2 : Int32) m_ledger) ∧ (¬ r_5 = (0 : Int32) → P_X11_in (fun r_7 => ((r_7 = (0 : Int32) → post (-2 : Int32) m_ledger) ∧ (¬ r_7 = (0 : Int32) → vp_in ((((18 : Int32) * p1) + ((3 : Int32) * p2)) + p3) 90 ∧ ∀ y_10 : Int32, y_10 = (m_ledger ((((18 : Int32) * p1) + ((3 : Int32) * p2)) + p3).toNatClampNeg) → ∀ m_ledger_11 : Nat → Int32, m_ledger_11 = upd m_ledger ((((18 : Int32) * p1) + ((3 : Int32) * p2)) + p3).toNatClampNeg p4 → post y_10 m_ledger_11))) p4.toInt64 (0 : Int64) (999 : Int64)))) p3.toInt64 (0 : Int64) (2 : Int64)))) p2 m_kinds))) p1
abbrev rm_X11_ledger : Room := { frames := 2, cells := 0, slots := 0, locals := 46 }
theorem iw_X11_ledger_X11 : ∀ w ∈ wsX110, w ∈ wsX11_ledger := by decide +kernel
set_option maxHeartbeats 4000000 in
set_option maxRecDepth 100000 in
theorem c_X11_ledger (l : Launch) (G : va_G) (K : ClassId × ClassId × ClassId) (tb q : Nat → Nat) (sz : Nat) (m_weighings : Int32) (m_spanLow : Int32) (m_spanHigh : Int32) (m_events : Int32) (m_days : Int32) (m_edges : Int32) (m_crew : Int32) (m_breakages : Int32) (post : Int32 → (Nat → Int32) → Prop) (p1 : Int32) (p2 : Int32) (p3 : Int32) (p4 : Int32) (m_kinds : Int32) (m_ledger : Nat → Int32) (hw : P_X11_ledger post p1 p2 p3 p4 m_kinds m_ledger) : Met l yX11_ledger wsX11_ledger rm_X11_ledger (va_Pc [.ref (q 0), .int p1, .int p2, .int p3, .int p4] (hPre G K tb [oX11 q m_kinds m_weighings m_spanLow m_spanHigh m_events m_days m_edges m_crew m_breakages, aI K (q 4) 90 m_ledger] sz)) (va_Qi (fun (r : Int32) (u : (Nat → Int32)) => post r u) (fun u => hB G K (va_A [oX11 q m_kinds m_weighings m_spanLow m_spanHigh m_events m_days m_edges m_crew m_breakages, aI K (q 4) 90 m_ledger] sz) [oX11 q m_kinds m_weighings m_spanLow m_spanHigh m_events m_days m_edges m_crew m_breakages, aI K (q 4) 90 u]) (va_A [oX11 q m_kinds m_weighings m_spanLow m_spanHigh m_events m_days m_edges m_crew m_breakages, aI K (q 4) 90 m_ledger] sz)) 0 0 (va_A [oX11 q m_kinds m_weighings m_spanLow m_spanHigh m_events m_days m_edges m_crew m_breakages, aI K (q 4) 90 m_ledger] sz) := by
  refine hMet (fun A => va_Qi (fun (r : Int32) (u : (Nat → Int32)) => post r u) (fun u => hB G K A [oX11 q m_kinds m_weighings m_spanLow m_spanHigh m_events m_days m_edges m_crew m_breakages, aI K (q 4) 90 u]) A) (by decide) rfl (Nat.le_of_ble_eq_true rfl) ?_
  intro p e s m av below meth c A Q ls hx hb hr hml hts hown hlocks hnm hA hP hK hD hS hE hQ hl
  have hts : ∀ w ∈ wsX11_ledger, w.before av s = true := hts
  have hown : s.vm.findClass RX11 = some m.cls := hown
  have hl : lv_has ls 6 [(0, .ref (q 0)), (1, .int p1), (2, .int p2), (3, .int p3), (4, .int p4)] := hl
  unfold P_X11_ledger at hw
  refine lv_iload_n (pc := 0) hx hb dX11_ledger_0 rfl (lv_at hl 1 rfl) ?_
  refine hCallI (pc := 1) (wr := [oX11 q m_kinds m_weighings m_spanLow m_spanHigh m_events m_days m_edges m_crew m_breakages, aI K (q 4) 90 m_ledger]) (wsf := fun (u : Unit) => []) [] [0, 1] (va_runS (As := [.int p1]) (rest := []) ⟨hx, hb, hml, hown, hts⟩ (c_X11_isHouse l G K tb q s.heap.size _ p1 hw) (va_cwS 1 hts gX11_ledger_X11_isHouse rfl rfl rfl (by decide +kernel) ⟨Nat.le_of_ble_eq_true rfl, Nat.le_of_ble_eq_true rfl⟩) (hPreS hE hP hK hD hS hA [] (by decide) rfl rfl) rfl rfl hl.1 rfl (lv_room (Nat.le_of_ble_eq_true rfl)) dX11_ledger_1 ⟨Nat.zero_le _, Nat.zero_le _⟩) hP hD hS hA rfl rfl (by decide) (by decide) (fun r_1 u H locs hw hP hD hS => ?_)
  have hP : va_P G vwCl [oX11 q m_kinds m_weighings m_spanLow m_spanHigh m_events m_days m_edges m_crew m_breakages, aI K (q 4) 90 m_ledger] H := hP.sub [0, 1] rfl
  have hD : va_D A [oX11 q m_kinds m_weighings m_spanLow m_spanHigh m_events m_days m_edges m_crew m_breakages, aI K (q 4) 90 m_ledger] := hD.sub [0, 1] (by decide) rfl
  refine lv_if_eq (pc := 4) (tgt := 15) hx hb dX11_ledger_4 (by decide) (fun c_2 => ?_) (fun c_2 => ?_)
  · replace hw := hw.1 c_2
    refine lv_iconst (pc := 15) (v := (-1 : Int32)) hx hb dX11_ledger_15 (by decide) ?_
    exact hRetI (S := (Nat → Int32)) m_ledger hx hb hr hlocks hQ hw hP hK hD hS dX11_ledger_16
  · replace hw := hw.2 c_2
    refine lv_aload_n (pc := 7) hx hb dX11_ledger_7 rfl (lv_at hl 0 rfl) ?_
    refine lv_iload_n (pc := 8) hx hb dX11_ledger_8 rfl (lv_at hl 2 rfl) ?_
    refine hCallI (pc := 9) (wr := [aI K (q 4) 90 m_ledger]) (wsf := fun (u : Unit) => [oX11 q m_kinds m_weighings m_spanLow m_spanHigh m_events m_days m_edges m_crew m_breakages]) [0] [1] (va_runV (As := [.int p2]) (rest := []) ⟨hx, hb, hml, hown, hts⟩ (c_X11_isKind l G K tb q H.size m_weighings m_spanLow m_spanHigh m_events m_days m_edges m_crew m_breakages _ p2 m_kinds hw) (cwV 1 hts gX11_ledger_X11_isKind rfl rfl rfl (by decide +kernel) ⟨Nat.le_of_ble_eq_true rfl, Nat.le_of_ble_eq_true rfl⟩) (hPreV hE hP hK hD hS hA [0] (by decide) rfl rfl rfl rfl (q0 := 0) (ci := 11) rfl) rfl rfl hl.1 rfl (lv_room (Nat.le_of_ble_eq_true rfl)) dX11_ledger_9 ⟨Nat.zero_le _, Nat.zero_le _⟩) hP hD hS hA rfl rfl (by decide) (by decide) (fun r_3 u H locs hw hP hD hS => ?_)
    have hP : va_P G vwCl [oX11 q m_kinds m_weighings m_spanLow m_spanHigh m_events m_days m_edges m_crew m_breakages, aI K (q 4) 90 m_ledger] H := hP.sub [1, 0] rfl
    have hD : va_D A [oX11 q m_kinds m_weighings m_spanLow m_spanHigh m_events m_days m_edges m_crew m_breakages, aI K (q 4) 90 m_ledger] := hD.sub [1, 0] (by decide) rfl
    refine lv_if_ne (pc := 12) (tgt := 17) hx hb dX11_ledger_12 (by decide) (fun c_4 => ?_) (fun c_4 => ?_)
    · replace hw := hw.2 c_4
      refine lv_iload_n (pc := 17) hx hb dX11_ledger_17 rfl (lv_at hl 3 rfl) ?_
      refine lv_i2l (pc := 18) hx hb dX11_ledger_18 rfl ?_
      refine lv_lconst (pc := 19) (v := (0 : Int64)) hx hb dX11_ledger_19 (by decide) ?_
      refine lv_ldc2 (pc := 20) (v := (2 : Int64)) hx hb hown (hts _ (List.mem_of_getElem? (i := 1) rfl)) dX11_ledger_20 ?_
      refine hCallI (pc := 23) (wr := [oX11 q m_kinds m_weighings m_spanLow m_spanHigh m_events m_days m_edges m_crew m_breakages, aI K (q 4) 90 m_ledger]) (wsf := fun (u : Unit) => []) [] [0, 1] (va_runS (As := [.long p3.toInt64, .long (0 : Int64), .long (2 : Int64)]) (rest := []) ⟨hx, hb, hml, hown, hts⟩ (c_X11_in l G K tb q H.size _ p3.toInt64 (0 : Int64) (2 : Int64) hw) (va_cwS 3 hts gX11_ledger_X11_in rfl rfl rfl (by decide +kernel) ⟨Nat.le_of_ble_eq_true rfl, Nat.le_of_ble_eq_true rfl⟩) (hPreS hE hP hK hD hS hA [] (by decide) rfl rfl) rfl rfl hl.1 rfl (lv_room (Nat.le_of_ble_eq_true rfl)) dX11_ledger_23 ⟨Nat.zero_le _, Nat.zero_le _⟩) hP hD hS hA rfl rfl (by decide) (by decide) (fun r_5 u H locs hw hP hD hS => ?_)
      have hP : va_P G vwCl [oX11 q m_kinds m_weighings m_spanLow m_spanHigh m_events m_days m_edges m_crew m_breakages, aI K (q 4) 90 m_ledger] H := hP.sub [0, 1] rfl
      have hD : va_D A [oX11 q m_kinds m_weighings m_spanLow m_spanHigh m_events m_days m_edges m_crew m_breakages, aI K (q 4) 90 m_ledger] := hD.sub [0, 1] (by decide) rfl
      refine lv_if_eq (pc := 26) (tgt := 42) hx hb dX11_ledger_26 (by decide) (fun c_6 => ?_) (fun c_6 => ?_)
      · replace hw := hw.1 c_6
        refine lv_bipush (pc := 42) (v := (-2 : Int32)) hx hb dX11_ledger_42 (by decide) ?_
        exact hRetI (S := (Nat → Int32)) m_ledger hx hb hr hlocks hQ hw hP hK hD hS dX11_ledger_44
      · replace hw := hw.2 c_6
        refine lv_iload (pc := 29) hx hb dX11_ledger_29 (lv_at hl 4 rfl) ?_
        refine lv_i2l (pc := 31) hx hb dX11_ledger_31 rfl ?_
        refine lv_lconst (pc := 32) (v := (0 : Int64)) hx hb dX11_ledger_32 (by decide) ?_
        refine lv_ldc2 (pc := 33) (v := (999 : Int64)) hx hb hown (hts _ (List.mem_of_getElem? (i := 2) rfl)) dX11_ledger_33 ?_
        refine hCallI (pc := 36) (wr := [oX11 q m_kinds m_weighings m_spanLow m_spanHigh m_events m_days m_edges m_crew m_breakages, aI K (q 4) 90 m_ledger]) (wsf := fun (u : Unit) => []) [] [0, 1] (va_runS (As := [.long p4.toInt64, .long (0 : Int64), .long (999 : Int64)]) (rest := []) ⟨hx, hb, hml, hown, hts⟩ (c_X11_in l G K tb q H.size _ p4.toInt64 (0 : Int64) (999 : Int64) hw) (va_cwS 3 hts gX11_ledger_X11_in rfl rfl rfl (by decide +kernel) ⟨Nat.le_of_ble_eq_true rfl, Nat.le_of_ble_eq_true rfl⟩) (hPreS hE hP hK hD hS hA [] (by decide) rfl rfl) rfl rfl hl.1 rfl (lv_room (Nat.le_of_ble_eq_true rfl)) dX11_ledger_36 ⟨Nat.zero_le _, Nat.zero_le _⟩) hP hD hS hA rfl rfl (by decide) (by decide) (fun r_7 u H locs hw hP hD hS => ?_)
        have hP : va_P G vwCl [oX11 q m_kinds m_weighings m_spanLow m_spanHigh m_events m_days m_edges m_crew m_breakages, aI K (q 4) 90 m_ledger] H := hP.sub [0, 1] rfl
        have hD : va_D A [oX11 q m_kinds m_weighings m_spanLow m_spanHigh m_events m_days m_edges m_crew m_breakages, aI K (q 4) 90 m_ledger] := hD.sub [0, 1] (by decide) rfl
        refine lv_if_ne (pc := 39) (tgt := 45) hx hb dX11_ledger_39 (by decide) (fun c_8 => ?_) (fun c_8 => ?_)
        · replace hw := hw.2 c_8
          refine lv_aload_n (pc := 45) hx hb dX11_ledger_45 rfl (lv_at hl 0 rfl) ?_
          refine va_get (pc := 46) (D := G) (ci := 11) (v := .ref (q 4)) (C := RX11) (T := TX11) (N := 45) hx hb hts iw_X11_ledger_X11 hown hK hP 0 rfl rfl 4 (by decide) (hts _ (List.mem_of_getElem? (i := 3) rfl)) (fun _ h9 => h9) rfl dX11_ledger_46 ?_
          refine lv_bipush (pc := 49) (v := (18 : Int32)) hx hb dX11_ledger_49 (by decide) ?_
          refine lv_iload_n (pc := 51) hx hb dX11_ledger_51 rfl (lv_at hl 1 rfl) ?_
          refine lv_imul (pc := 52) hx hb dX11_ledger_52 ?_
          refine lv_iconst (pc := 53) (v := (3 : Int32)) hx hb dX11_ledger_53 (by decide) ?_
          refine lv_iload_n (pc := 54) hx hb dX11_ledger_54 rfl (lv_at hl 2 rfl) ?_
          refine lv_imul (pc := 55) hx hb dX11_ledger_55 ?_
          refine lv_iadd (pc := 56) hx hb dX11_ledger_56 ?_
          refine lv_iload_n (pc := 57) hx hb dX11_ledger_57 rfl (lv_at hl 3 rfl) ?_
          refine lv_iadd (pc := 58) hx hb dX11_ledger_58 ?_
          obtain ⟨h_9, hw⟩ := hw
          refine va_iald (pc := 59) hx hb hK hP 1 0 rfl rfl h_9 dX11_ledger_59 ?_
          refine lv_topi (fun y_10 ey_10 => ?_)
          replace hw := hw y_10 ey_10
          refine lv_istore (pc := 60) (lv' := [(5, .int y_10), (0, .ref (q 0)), (1, .int p1), (2, .int p2), (3, .int p3), (4, .int p4)]) hx hb dX11_ledger_60 hl (by decide) rfl (fun ls hl => ?_)
          refine lv_aload_n (pc := 62) hx hb dX11_ledger_62 rfl (lv_at hl 1 rfl) ?_
          refine va_get (pc := 63) (D := G) (ci := 11) (v := .ref (q 4)) (C := RX11) (T := TX11) (N := 45) hx hb hts iw_X11_ledger_X11 hown hK hP 0 rfl rfl 4 (by decide) (hts _ (List.mem_of_getElem? (i := 3) rfl)) (fun _ h9 => h9) rfl dX11_ledger_63 ?_
          refine lv_bipush (pc := 66) (v := (18 : Int32)) hx hb dX11_ledger_66 (by decide) ?_
          refine lv_iload_n (pc := 68) hx hb dX11_ledger_68 rfl (lv_at hl 2 rfl) ?_
          refine lv_imul (pc := 69) hx hb dX11_ledger_69 ?_
          refine lv_iconst (pc := 70) (v := (3 : Int32)) hx hb dX11_ledger_70 (by decide) ?_
          refine lv_iload_n (pc := 71) hx hb dX11_ledger_71 rfl (lv_at hl 3 rfl) ?_
          refine lv_imul (pc := 72) hx hb dX11_ledger_72 ?_
          refine lv_iadd (pc := 73) hx hb dX11_ledger_73 ?_
          refine lv_iload_n (pc := 74) hx hb dX11_ledger_74 rfl (lv_at hl 4 rfl) ?_
          refine lv_iadd (pc := 75) hx hb dX11_ledger_75 ?_
          refine lv_iload (pc := 76) hx hb dX11_ledger_76 (lv_at hl 5 rfl) ?_
          refine va_iast (pc := 78) hx hb hK hP hD hS 1 0 rfl rfl h_9 dX11_ledger_78 (fun H locs hP hD hS => ?_)
          obtain ⟨m_ledger_11, em_ledger_11⟩ : ∃ z : Nat → Int32, z = upd m_ledger ((((18 : Int32) * p1) + ((3 : Int32) * p2)) + p3).toNatClampNeg p4 := ⟨_, rfl⟩
          have hP : va_P G vwCl [oX11 q m_kinds m_weighings m_spanLow m_spanHigh m_events m_days m_edges m_crew m_breakages, aI K (q 4) 90 m_ledger_11] H := by rw [em_ledger_11]; exact hP
          have hD : va_D A [oX11 q m_kinds m_weighings m_spanLow m_spanHigh m_events m_days m_edges m_crew m_breakages, aI K (q 4) 90 m_ledger_11] := by rw [em_ledger_11]; exact hD
          replace hw := hw m_ledger_11 em_ledger_11
          refine lv_iload (pc := 79) hx hb dX11_ledger_79 (lv_at hl 0 rfl) ?_
          exact hRetI (S := (Nat → Int32)) m_ledger_11 hx hb hr hlocks hQ hw hP hK hD hS dX11_ledger_81
        · replace hw := hw.1 c_8
          refine lv_bipush (pc := 42) (v := (-2 : Int32)) hx hb dX11_ledger_42 (by decide) ?_
          exact hRetI (S := (Nat → Int32)) m_ledger hx hb hr hlocks hQ hw hP hK hD hS dX11_ledger_44
    · replace hw := hw.1 c_4
      refine lv_iconst (pc := 15) (v := (-1 : Int32)) hx hb dX11_ledger_15 (by decide) ?_
      exact hRetI (S := (Nat → Int32)) m_ledger hx hb hr hlocks hQ hw hP hK hD hS dX11_ledger_16
def P_X11_missingOf (post : Int32 → Prop) (p1 : Int32) (p2 : Int32) (p3 : Int32) (m_book : Nat → Int32) (m_ledger : Nat → Int32) (m_spanLow : Int32) (m_spanHigh : Int32) : Prop :=
  ∀ y_1 : Int32, y_1 = (((18 : Int32) * p1) + ((3 : Int32) * p2)) → vp_in (((6 : Int32) * p1) + p2) 30 ∧ vp_in y_1 90 ∧ vp_in (y_1 + (1 : Int32)) 90 ∧ vp_in (y_1 + (2 : Int32)) 90 ∧ ∀ y_6 : Int32, y_6 = ((((m_book (((6 : Int32) * p1) + p2).toNatClampNeg) - (m_ledger y_1.toNatClampNeg)) - (m_ledger (y_1 + (1 : Int32)).toNatClampNeg)) - (m_ledger (y_1 + (2 : Int32)).toNatClampNeg)) → ∀ v_8 : Int32, v_8 = (if p3 = (0 : Int32) then m_spanHigh else m_spanLow) → ∀ y_9 : Int32, y_9 = (y_6 - v_8) → ∀ v_11 : Int32, v_11 = (if (0 : Int32) ≤ y_9 then y_9 else (0 : Int32)) → post v_11
abbrev rm_X11_missingOf : Room := { frames := 0, cells := 0, slots := 0, locals := 0 }
theorem iw_X11_missingOf_X11 : ∀ w ∈ wsX110, w ∈ wsX11_missingOf := by decide +kernel
set_option maxHeartbeats 4000000 in
set_option maxRecDepth 100000 in
theorem c_X11_missingOf (l : Launch) (G : va_G) (K : ClassId × ClassId × ClassId) (tb q : Nat → Nat) (sz : Nat) (m_kinds : Int32) (m_weighings : Int32) (m_events : Int32) (m_days : Int32) (m_edges : Int32) (m_crew : Int32) (m_breakages : Int32) (post : Int32 → Prop) (p1 : Int32) (p2 : Int32) (p3 : Int32) (m_book : Nat → Int32) (m_ledger : Nat → Int32) (m_spanLow : Int32) (m_spanHigh : Int32) (hw : P_X11_missingOf post p1 p2 p3 m_book m_ledger m_spanLow m_spanHigh) : Met l yX11_missingOf wsX11_missingOf rm_X11_missingOf (va_Pc [.ref (q 0), .int p1, .int p2, .int p3] (hPre G K tb [oX11 q m_kinds m_weighings m_spanLow m_spanHigh m_events m_days m_edges m_crew m_breakages, aI K (q 3) 30 m_book, aI K (q 4) 90 m_ledger] sz)) (va_Qi (fun (r : Int32) (u : Unit) => post r) (fun u => hB G K (va_A [oX11 q m_kinds m_weighings m_spanLow m_spanHigh m_events m_days m_edges m_crew m_breakages, aI K (q 3) 30 m_book, aI K (q 4) 90 m_ledger] sz) [oX11 q m_kinds m_weighings m_spanLow m_spanHigh m_events m_days m_edges m_crew m_breakages, aI K (q 3) 30 m_book, aI K (q 4) 90 m_ledger]) (va_A [oX11 q m_kinds m_weighings m_spanLow m_spanHigh m_events m_days m_edges m_crew m_breakages, aI K (q 3) 30 m_book, aI K (q 4) 90 m_ledger] sz)) 0 0 (va_A [oX11 q m_kinds m_weighings m_spanLow m_spanHigh m_events m_days m_edges m_crew m_breakages, aI K (q 3) 30 m_book, aI K (q 4) 90 m_ledger] sz) := by
  refine hMet (fun A => va_Qi (fun (r : Int32) (u : Unit) => post r) (fun u => hB G K A [oX11 q m_kinds m_weighings m_spanLow m_spanHigh m_events m_days m_edges m_crew m_breakages, aI K (q 3) 30 m_book, aI K (q 4) 90 m_ledger]) A) (by decide) rfl (Nat.le_of_ble_eq_true rfl) ?_
  intro p e s m av below meth c A Q ls hx hb hr hml hts hown hlocks hnm hA hP hK hD hS hE hQ hl
  have hts : ∀ w ∈ wsX11_missingOf, w.before av s = true := hts
  have hown : s.vm.findClass RX11 = some m.cls := hown
  have hl : lv_has ls 7 [(0, .ref (q 0)), (1, .int p1), (2, .int p2), (3, .int p3)] := hl
  unfold P_X11_missingOf at hw
  refine lv_bipush (pc := 0) (v := (18 : Int32)) hx hb dX11_missingOf_0 (by decide) ?_
  refine lv_iload_n (pc := 2) hx hb dX11_missingOf_2 rfl (lv_at hl 1 rfl) ?_
  refine lv_imul (pc := 3) hx hb dX11_missingOf_3 ?_
  refine lv_iconst (pc := 4) (v := (3 : Int32)) hx hb dX11_missingOf_4 (by decide) ?_
  refine lv_iload_n (pc := 5) hx hb dX11_missingOf_5 rfl (lv_at hl 2 rfl) ?_
  refine lv_imul (pc := 6) hx hb dX11_missingOf_6 ?_
  refine lv_iadd (pc := 7) hx hb dX11_missingOf_7 ?_
  refine lv_topi (fun y_1 ey_1 => ?_)
  replace hw := hw y_1 ey_1
  refine lv_istore (pc := 8) (lv' := [(4, .int y_1), (0, .ref (q 0)), (1, .int p1), (2, .int p2), (3, .int p3)]) hx hb dX11_missingOf_8 hl (by decide) rfl (fun ls hl => ?_)
  refine lv_aload_n (pc := 10) hx hb dX11_missingOf_10 rfl (lv_at hl 1 rfl) ?_
  refine va_get (pc := 11) (D := G) (ci := 11) (v := .ref (q 3)) (C := RX11) (T := TX11) (N := 45) hx hb hts iw_X11_missingOf_X11 hown hK hP 0 rfl rfl 3 (by decide) (hts _ (List.mem_of_getElem? (i := 1) rfl)) (fun _ h9 => h9) rfl dX11_missingOf_11 ?_
  refine lv_bipush (pc := 14) (v := (6 : Int32)) hx hb dX11_missingOf_14 (by decide) ?_
  refine lv_iload_n (pc := 16) hx hb dX11_missingOf_16 rfl (lv_at hl 2 rfl) ?_
  refine lv_imul (pc := 17) hx hb dX11_missingOf_17 ?_
  refine lv_iload_n (pc := 18) hx hb dX11_missingOf_18 rfl (lv_at hl 3 rfl) ?_
  refine lv_iadd (pc := 19) hx hb dX11_missingOf_19 ?_
  obtain ⟨h_2, hw⟩ := hw
  refine va_iald (pc := 20) hx hb hK hP 1 0 rfl rfl h_2 dX11_missingOf_20 ?_
  refine lv_aload_n (pc := 21) hx hb dX11_missingOf_21 rfl (lv_at hl 1 rfl) ?_
  refine va_get (pc := 22) (D := G) (ci := 11) (v := .ref (q 4)) (C := RX11) (T := TX11) (N := 45) hx hb hts iw_X11_missingOf_X11 hown hK hP 0 rfl rfl 4 (by decide) (hts _ (List.mem_of_getElem? (i := 2) rfl)) (fun _ h9 => h9) rfl dX11_missingOf_22 ?_
  refine lv_iload (pc := 25) hx hb dX11_missingOf_25 (lv_at hl 0 rfl) ?_
  obtain ⟨h_3, hw⟩ := hw
  refine va_iald (pc := 27) hx hb hK hP 2 0 rfl rfl h_3 dX11_missingOf_27 ?_
  refine lv_isub (pc := 28) hx hb dX11_missingOf_28 ?_
  refine lv_aload_n (pc := 29) hx hb dX11_missingOf_29 rfl (lv_at hl 1 rfl) ?_
  refine va_get (pc := 30) (D := G) (ci := 11) (v := .ref (q 4)) (C := RX11) (T := TX11) (N := 45) hx hb hts iw_X11_missingOf_X11 hown hK hP 0 rfl rfl 4 (by decide) (hts _ (List.mem_of_getElem? (i := 2) rfl)) (fun _ h9 => h9) rfl dX11_missingOf_30 ?_
  refine lv_iload (pc := 33) hx hb dX11_missingOf_33 (lv_at hl 0 rfl) ?_
  refine lv_iconst (pc := 35) (v := (1 : Int32)) hx hb dX11_missingOf_35 (by decide) ?_
  refine lv_iadd (pc := 36) hx hb dX11_missingOf_36 ?_
  obtain ⟨h_4, hw⟩ := hw
  refine va_iald (pc := 37) hx hb hK hP 2 0 rfl rfl h_4 dX11_missingOf_37 ?_
  refine lv_isub (pc := 38) hx hb dX11_missingOf_38 ?_
  refine lv_aload_n (pc := 39) hx hb dX11_missingOf_39 rfl (lv_at hl 1 rfl) ?_
  refine va_get (pc := 40) (D := G) (ci := 11) (v := .ref (q 4)) (C := RX11) (T := TX11) (N := 45) hx hb hts iw_X11_missingOf_X11 hown hK hP 0 rfl rfl 4 (by decide) (hts _ (List.mem_of_getElem? (i := 2) rfl)) (fun _ h9 => h9) rfl dX11_missingOf_40 ?_
  refine lv_iload (pc := 43) hx hb dX11_missingOf_43 (lv_at hl 0 rfl) ?_
  refine lv_iconst (pc := 45) (v := (2 : Int32)) hx hb dX11_missingOf_45 (by decide) ?_
  refine lv_iadd (pc := 46) hx hb dX11_missingOf_46 ?_
  obtain ⟨h_5, hw⟩ := hw
  refine va_iald (pc := 47) hx hb hK hP 2 0 rfl rfl h_5 dX11_missingOf_47 ?_
  refine lv_isub (pc := 48) hx hb dX11_missingOf_48 ?_
  refine lv_topi (fun y_6 ey_6 => ?_)
  replace hw := hw y_6 ey_6
  refine lv_istore (pc := 49) (lv' := [(5, .int y_6), (4, .int y_1), (0, .ref (q 0)), (1, .int p1), (2, .int p2), (3, .int p3)]) hx hb dX11_missingOf_49 hl (by decide) rfl (fun ls hl => ?_)
  refine lv_iload (pc := 51) hx hb dX11_missingOf_51 (lv_at hl 0 rfl) ?_
  refine lv_iload_n (pc := 53) hx hb dX11_missingOf_53 rfl (lv_at hl 5 rfl) ?_
  have K_v_8 : ∀ v_8 : Int32, v_8 = (if p3 = (0 : Int32) then m_spanHigh else m_spanLow) → W p l e rm_X11_missingOf s m av below meth c s.heap [] 0 0 Q (F0 m 68 ls [.int v_8, .int y_6]) := by
    intro v_8 ev_8
    replace hw := hw v_8 ev_8
    refine lv_isub (pc := 68) hx hb dX11_missingOf_68 ?_
    refine lv_topi (fun y_9 ey_9 => ?_)
    replace hw := hw y_9 ey_9
    refine lv_istore (pc := 69) (lv' := [(6, .int y_9), (5, .int y_6), (4, .int y_1), (0, .ref (q 0)), (1, .int p1), (2, .int p2), (3, .int p3)]) hx hb dX11_missingOf_69 hl (by decide) rfl (fun ls hl => ?_)
    refine lv_iload (pc := 71) hx hb dX11_missingOf_71 (lv_at hl 0 rfl) ?_
    have K_v_11 : ∀ v_11 : Int32, v_11 = (if (0 : Int32) ≤ y_9 then y_9 else (0 : Int32)) → W p l e rm_X11_missingOf s m av below meth c s.heap [] 0 0 Q (F0 m 82 ls [.int v_11]) := by
      intro v_11 ev_11
      replace hw := hw v_11 ev_11
      exact hRetI (S := Unit) () hx hb hr hlocks hQ hw hP hK hD hS dX11_missingOf_82
    refine lv_if_ge (pc := 73) (tgt := 80) hx hb dX11_missingOf_73 (by decide) (fun c_10 => ?_) (fun c_10 => ?_)
    · skip
      refine lv_iload (pc := 80) hx hb dX11_missingOf_80 (lv_at hl 0 rfl) ?_
      exact K_v_11 _ (by rw [if_pos c_10])
    · skip
      refine lv_iconst (pc := 76) (v := (0 : Int32)) hx hb dX11_missingOf_76 (by decide) ?_
      refine lv_goto (pc := 77) (tgt := 82) hx hb dX11_missingOf_77 (by decide) ?_
      exact K_v_11 _ (by rw [if_neg c_10])
  refine lv_if_eq (pc := 54) (tgt := 64) hx hb dX11_missingOf_54 (by decide) (fun c_7 => ?_) (fun c_7 => ?_)
  · skip
    refine lv_aload_n (pc := 64) hx hb dX11_missingOf_64 rfl (lv_at hl 2 rfl) ?_
    refine va_get (pc := 65) (D := G) (ci := 11) (v := .int m_spanHigh) (C := RX11) (T := TX11) (N := 45) hx hb hts iw_X11_missingOf_X11 hown hK hP 0 rfl rfl 12 (by decide) (hts _ (List.mem_of_getElem? (i := 4) rfl)) (fun _ h9 => h9) rfl dX11_missingOf_65 ?_
    exact K_v_8 _ (by rw [if_pos c_7])
  · skip
    refine lv_aload_n (pc := 57) hx hb dX11_missingOf_57 rfl (lv_at hl 2 rfl) ?_
    refine va_get (pc := 58) (D := G) (ci := 11) (v := .int m_spanLow) (C := RX11) (T := TX11) (N := 45) hx hb hts iw_X11_missingOf_X11 hown hK hP 0 rfl rfl 11 (by decide) (hts _ (List.mem_of_getElem? (i := 3) rfl)) (fun _ h9 => h9) rfl dX11_missingOf_58 ?_
    refine lv_goto (pc := 61) (tgt := 68) hx hb dX11_missingOf_61 (by decide) ?_
    exact K_v_8 _ (by rw [if_neg c_7])
def P_X11_missing (post : Int32 → Int32 → Int32 → Prop) (p1 : Int32) (p2 : Int32) (p3 : Int32) (m_kinds : Int32) (m_low : Nat → Int32) (m_high : Nat → Int32) (m_book : Nat → Int32) (m_ledger : Nat → Int32) (m_weighings : Int32) (m_weighHouse : Nat → Int32) (m_weighKind : Nat → Int32) (m_weighLess : Nat → Int32) (m_weighMore : Nat → Int32) (m_isDropped : Nat → Int32) (m_spanLow : Int32) (m_spanHigh : Int32) : Prop :=
  P_X11_isHouse (fun r_1 => ((r_1 = (0 : Int32) → post (-1 : Int32) m_spanLow m_spanHigh) ∧ (¬ r_1 = (0 : Int32) → P_X11_isKind (fun r_3 => ((r_3 = (0 : Int32) → post (-1 : Int32) m_spanLow m_spanHigh) ∧ (¬ r_3 = (0 : Int32) → P_X11_laySpan (fun r_5 m_spanLow_6 m_spanHigh_7 => ((r_5 = (0 : Int32) → post (-3 : Int32) m_spanLow_6 m_spanHigh_7) ∧ (¬ r_5 = (0 : Int32) → P_X11_missingOf (fun r_9 => post r_9 m_spanLow_6 m_spanHigh_7) p1 p2 p3 m_book m_ledger m_spanLow_6 m_spanHigh_7))) p1 p2 m_weighings m_low m_high m_weighHouse m_weighKind m_weighLess m_weighMore m_isDropped m_spanLow m_spanHigh))) p2 m_kinds))) p1
abbrev rm_X11_missing : Room := { frames := 2, cells := 0, slots := 0, locals := 46 }
theorem iw_X11_missing_X11 : ∀ w ∈ wsX110, w ∈ wsX11_missing := by decide +kernel
set_option maxHeartbeats 4000000 in
set_option maxRecDepth 100000 in
theorem c_X11_missing (l : Launch) (G : va_G) (K : ClassId × ClassId × ClassId) (tb q : Nat → Nat) (sz : Nat) (m_events : Int32) (m_days : Int32) (m_edges : Int32) (m_crew : Int32) (m_breakages : Int32) (post : Int32 → Int32 → Int32 → Prop) (p1 : Int32) (p2 : Int32) (p3 : Int32) (m_kinds : Int32) (m_low : Nat → Int32) (m_high : Nat → Int32) (m_book : Nat → Int32) (m_ledger : Nat → Int32) (m_weighings : Int32) (m_weighHouse : Nat → Int32) (m_weighKind : Nat → Int32) (m_weighLess : Nat → Int32) (m_weighMore : Nat → Int32) (m_isDropped : Nat → Int32) (m_spanLow : Int32) (m_spanHigh : Int32) (hw : P_X11_missing post p1 p2 p3 m_kinds m_low m_high m_book m_ledger m_weighings m_weighHouse m_weighKind m_weighLess m_weighMore m_isDropped m_spanLow m_spanHigh) : Met l yX11_missing wsX11_missing rm_X11_missing (va_Pc [.ref (q 0), .int p1, .int p2, .int p3] (hPre G K tb [oX11 q m_kinds m_weighings m_spanLow m_spanHigh m_events m_days m_edges m_crew m_breakages, aI K (q 1) 6 m_low, aI K (q 2) 6 m_high, aI K (q 3) 30 m_book, aI K (q 4) 90 m_ledger, aI K (q 5) 40 m_weighHouse, aI K (q 6) 40 m_weighKind, aI K (q 7) 40 m_weighLess, aI K (q 8) 40 m_weighMore, aZ K (q 9) 40 m_isDropped] sz)) (va_Qi (fun (r : Int32) (u : Int32 × Int32) => post r u.1 u.2) (fun u => hB G K (va_A [oX11 q m_kinds m_weighings m_spanLow m_spanHigh m_events m_days m_edges m_crew m_breakages, aI K (q 1) 6 m_low, aI K (q 2) 6 m_high, aI K (q 3) 30 m_book, aI K (q 4) 90 m_ledger, aI K (q 5) 40 m_weighHouse, aI K (q 6) 40 m_weighKind, aI K (q 7) 40 m_weighLess, aI K (q 8) 40 m_weighMore, aZ K (q 9) 40 m_isDropped] sz) [oX11 q m_kinds m_weighings u.1 u.2 m_events m_days m_edges m_crew m_breakages, aI K (q 1) 6 m_low, aI K (q 2) 6 m_high, aI K (q 3) 30 m_book, aI K (q 4) 90 m_ledger, aI K (q 5) 40 m_weighHouse, aI K (q 6) 40 m_weighKind, aI K (q 7) 40 m_weighLess, aI K (q 8) 40 m_weighMore, aZ K (q 9) 40 m_isDropped]) (va_A [oX11 q m_kinds m_weighings m_spanLow m_spanHigh m_events m_days m_edges m_crew m_breakages, aI K (q 1) 6 m_low, aI K (q 2) 6 m_high, aI K (q 3) 30 m_book, aI K (q 4) 90 m_ledger, aI K (q 5) 40 m_weighHouse, aI K (q 6) 40 m_weighKind, aI K (q 7) 40 m_weighLess, aI K (q 8) 40 m_weighMore, aZ K (q 9) 40 m_isDropped] sz)) 0 0 (va_A [oX11 q m_kinds m_weighings m_spanLow m_spanHigh m_events m_days m_edges m_crew m_breakages, aI K (q 1) 6 m_low, aI K (q 2) 6 m_high, aI K (q 3) 30 m_book, aI K (q 4) 90 m_ledger, aI K (q 5) 40 m_weighHouse, aI K (q 6) 40 m_weighKind, aI K (q 7) 40 m_weighLess, aI K (q 8) 40 m_weighMore, aZ K (q 9) 40 m_isDropped] sz) := by
  refine hMet (fun A => va_Qi (fun (r : Int32) (u : Int32 × Int32) => post r u.1 u.2) (fun u => hB G K A [oX11 q m_kinds m_weighings u.1 u.2 m_events m_days m_edges m_crew m_breakages, aI K (q 1) 6 m_low, aI K (q 2) 6 m_high, aI K (q 3) 30 m_book, aI K (q 4) 90 m_ledger, aI K (q 5) 40 m_weighHouse, aI K (q 6) 40 m_weighKind, aI K (q 7) 40 m_weighLess, aI K (q 8) 40 m_weighMore, aZ K (q 9) 40 m_isDropped]) A) (by decide) rfl (Nat.le_of_ble_eq_true rfl) ?_
  intro p e s m av below meth c A Q ls hx hb hr hml hts hown hlocks hnm hA hP hK hD hS hE hQ hl
  have hts : ∀ w ∈ wsX11_missing, w.before av s = true := hts
  have hown : s.vm.findClass RX11 = some m.cls := hown
  have hl : lv_has ls 4 [(0, .ref (q 0)), (1, .int p1), (2, .int p2), (3, .int p3)] := hl
  unfold P_X11_missing at hw
  refine lv_iload_n (pc := 0) hx hb dX11_missing_0 rfl (lv_at hl 1 rfl) ?_
  refine hCallI (pc := 1) (wr := [oX11 q m_kinds m_weighings m_spanLow m_spanHigh m_events m_days m_edges m_crew m_breakages, aI K (q 1) 6 m_low, aI K (q 2) 6 m_high, aI K (q 3) 30 m_book, aI K (q 4) 90 m_ledger, aI K (q 5) 40 m_weighHouse, aI K (q 6) 40 m_weighKind, aI K (q 7) 40 m_weighLess, aI K (q 8) 40 m_weighMore, aZ K (q 9) 40 m_isDropped]) (wsf := fun (u : Unit) => []) [] [0, 1, 2, 3, 4, 5, 6, 7, 8, 9] (va_runS (As := [.int p1]) (rest := []) ⟨hx, hb, hml, hown, hts⟩ (c_X11_isHouse l G K tb q s.heap.size _ p1 hw) (va_cwS 1 hts gX11_missing_X11_isHouse rfl rfl rfl (by decide +kernel) ⟨Nat.le_of_ble_eq_true rfl, Nat.le_of_ble_eq_true rfl⟩) (hPreS hE hP hK hD hS hA [] (by decide) rfl rfl) rfl rfl hl.1 rfl (lv_room (Nat.le_of_ble_eq_true rfl)) dX11_missing_1 ⟨Nat.zero_le _, Nat.zero_le _⟩) hP hD hS hA rfl rfl (by decide) (by decide) (fun r_1 u H locs hw hP hD hS => ?_)
  have hP : va_P G vwCl [oX11 q m_kinds m_weighings m_spanLow m_spanHigh m_events m_days m_edges m_crew m_breakages, aI K (q 1) 6 m_low, aI K (q 2) 6 m_high, aI K (q 3) 30 m_book, aI K (q 4) 90 m_ledger, aI K (q 5) 40 m_weighHouse, aI K (q 6) 40 m_weighKind, aI K (q 7) 40 m_weighLess, aI K (q 8) 40 m_weighMore, aZ K (q 9) 40 m_isDropped] H := hP.sub [0, 1, 2, 3, 4, 5, 6, 7, 8, 9] rfl
  have hD : va_D A [oX11 q m_kinds m_weighings m_spanLow m_spanHigh m_events m_days m_edges m_crew m_breakages, aI K (q 1) 6 m_low, aI K (q 2) 6 m_high, aI K (q 3) 30 m_book, aI K (q 4) 90 m_ledger, aI K (q 5) 40 m_weighHouse, aI K (q 6) 40 m_weighKind, aI K (q 7) 40 m_weighLess, aI K (q 8) 40 m_weighMore, aZ K (q 9) 40 m_isDropped] := hD.sub [0, 1, 2, 3, 4, 5, 6, 7, 8, 9] (by decide) rfl
  refine lv_if_eq (pc := 4) (tgt := 15) hx hb dX11_missing_4 (by decide) (fun c_2 => ?_) (fun c_2 => ?_)
  · replace hw := hw.1 c_2
    refine lv_iconst (pc := 15) (v := (-1 : Int32)) hx hb dX11_missing_15 (by decide) ?_
    exact hRetI (S := Int32 × Int32) (m_spanLow, m_spanHigh) hx hb hr hlocks hQ hw hP hK hD hS dX11_missing_16
  · replace hw := hw.2 c_2
    refine lv_aload_n (pc := 7) hx hb dX11_missing_7 rfl (lv_at hl 0 rfl) ?_
    refine lv_iload_n (pc := 8) hx hb dX11_missing_8 rfl (lv_at hl 2 rfl) ?_
    refine hCallI (pc := 9) (wr := [aI K (q 1) 6 m_low, aI K (q 2) 6 m_high, aI K (q 3) 30 m_book, aI K (q 4) 90 m_ledger, aI K (q 5) 40 m_weighHouse, aI K (q 6) 40 m_weighKind, aI K (q 7) 40 m_weighLess, aI K (q 8) 40 m_weighMore, aZ K (q 9) 40 m_isDropped]) (wsf := fun (u : Unit) => [oX11 q m_kinds m_weighings m_spanLow m_spanHigh m_events m_days m_edges m_crew m_breakages]) [0] [1, 2, 3, 4, 5, 6, 7, 8, 9] (va_runV (As := [.int p2]) (rest := []) ⟨hx, hb, hml, hown, hts⟩ (c_X11_isKind l G K tb q H.size m_weighings m_spanLow m_spanHigh m_events m_days m_edges m_crew m_breakages _ p2 m_kinds hw) (cwV 1 hts gX11_missing_X11_isKind rfl rfl rfl (by decide +kernel) ⟨Nat.le_of_ble_eq_true rfl, Nat.le_of_ble_eq_true rfl⟩) (hPreV hE hP hK hD hS hA [0] (by decide) rfl rfl rfl rfl (q0 := 0) (ci := 11) rfl) rfl rfl hl.1 rfl (lv_room (Nat.le_of_ble_eq_true rfl)) dX11_missing_9 ⟨Nat.zero_le _, Nat.zero_le _⟩) hP hD hS hA rfl rfl (by decide) (by decide) (fun r_3 u H locs hw hP hD hS => ?_)
    have hP : va_P G vwCl [oX11 q m_kinds m_weighings m_spanLow m_spanHigh m_events m_days m_edges m_crew m_breakages, aI K (q 1) 6 m_low, aI K (q 2) 6 m_high, aI K (q 3) 30 m_book, aI K (q 4) 90 m_ledger, aI K (q 5) 40 m_weighHouse, aI K (q 6) 40 m_weighKind, aI K (q 7) 40 m_weighLess, aI K (q 8) 40 m_weighMore, aZ K (q 9) 40 m_isDropped] H := hP.sub [9, 0, 1, 2, 3, 4, 5, 6, 7, 8] rfl
    have hD : va_D A [oX11 q m_kinds m_weighings m_spanLow m_spanHigh m_events m_days m_edges m_crew m_breakages, aI K (q 1) 6 m_low, aI K (q 2) 6 m_high, aI K (q 3) 30 m_book, aI K (q 4) 90 m_ledger, aI K (q 5) 40 m_weighHouse, aI K (q 6) 40 m_weighKind, aI K (q 7) 40 m_weighLess, aI K (q 8) 40 m_weighMore, aZ K (q 9) 40 m_isDropped] := hD.sub [9, 0, 1, 2, 3, 4, 5, 6, 7, 8] (by decide) rfl
    refine lv_if_ne (pc := 12) (tgt := 17) hx hb dX11_missing_12 (by decide) (fun c_4 => ?_) (fun c_4 => ?_)
    · replace hw := hw.2 c_4
      refine lv_aload_n (pc := 17) hx hb dX11_missing_17 rfl (lv_at hl 0 rfl) ?_
      refine lv_iload_n (pc := 18) hx hb dX11_missing_18 rfl (lv_at hl 1 rfl) ?_
      refine lv_iload_n (pc := 19) hx hb dX11_missing_19 rfl (lv_at hl 2 rfl) ?_
      refine lv_aload_n (pc := 20) hx hb dX11_missing_20 rfl (lv_at hl 0 rfl) ?_
      refine va_get (pc := 21) (D := G) (ci := 11) (v := .int m_weighings) (C := RX11) (T := TX11) (N := 45) hx hb hts iw_X11_missing_X11 hown hK hP 0 rfl rfl 5 (by decide) (hts _ (List.mem_of_getElem? (i := 1) rfl)) (fun _ h9 => h9) rfl dX11_missing_21 ?_
      refine hCallI (pc := 24) (wr := [aI K (q 3) 30 m_book, aI K (q 4) 90 m_ledger]) (wsf := fun (u : Int32 × Int32) => [oX11 q m_kinds m_weighings u.1 u.2 m_events m_days m_edges m_crew m_breakages, aI K (q 1) 6 m_low, aI K (q 2) 6 m_high, aI K (q 5) 40 m_weighHouse, aI K (q 6) 40 m_weighKind, aI K (q 7) 40 m_weighLess, aI K (q 8) 40 m_weighMore, aZ K (q 9) 40 m_isDropped]) [0, 1, 2, 5, 6, 7, 8, 9] [3, 4] (va_runV (As := [.int p1, .int p2, .int m_weighings]) (rest := []) ⟨hx, hb, hml, hown, hts⟩ (c_X11_laySpan l G K tb q H.size m_kinds m_weighings m_events m_days m_edges m_crew m_breakages _ p1 p2 m_weighings m_low m_high m_weighHouse m_weighKind m_weighLess m_weighMore m_isDropped m_spanLow m_spanHigh hw) (cwV 3 hts gX11_missing_X11_laySpan rfl rfl rfl (by decide +kernel) ⟨Nat.le_of_ble_eq_true rfl, Nat.le_of_ble_eq_true rfl⟩) (hPreV hE hP hK hD hS hA [0, 1, 2, 5, 6, 7, 8, 9] (by decide) rfl rfl rfl rfl (q0 := 0) (ci := 11) rfl) rfl rfl hl.1 rfl (lv_room (Nat.le_of_ble_eq_true rfl)) dX11_missing_24 ⟨Nat.zero_le _, Nat.zero_le _⟩) hP hD hS hA rfl rfl (by decide) (by decide) (fun r_5 u H locs hw hP hD hS => ?_)
      obtain ⟨m_spanLow_6, m_spanHigh_7⟩ := u
      have hP : va_P G vwCl [oX11 q m_kinds m_weighings m_spanLow_6 m_spanHigh_7 m_events m_days m_edges m_crew m_breakages, aI K (q 1) 6 m_low, aI K (q 2) 6 m_high, aI K (q 3) 30 m_book, aI K (q 4) 90 m_ledger, aI K (q 5) 40 m_weighHouse, aI K (q 6) 40 m_weighKind, aI K (q 7) 40 m_weighLess, aI K (q 8) 40 m_weighMore, aZ K (q 9) 40 m_isDropped] H := hP.sub [2, 3, 4, 0, 1, 5, 6, 7, 8, 9] rfl
      have hD : va_D A [oX11 q m_kinds m_weighings m_spanLow_6 m_spanHigh_7 m_events m_days m_edges m_crew m_breakages, aI K (q 1) 6 m_low, aI K (q 2) 6 m_high, aI K (q 3) 30 m_book, aI K (q 4) 90 m_ledger, aI K (q 5) 40 m_weighHouse, aI K (q 6) 40 m_weighKind, aI K (q 7) 40 m_weighLess, aI K (q 8) 40 m_weighMore, aZ K (q 9) 40 m_isDropped] := hD.sub [2, 3, 4, 0, 1, 5, 6, 7, 8, 9] (by decide) rfl
      refine lv_if_eq (pc := 27) (tgt := 40) hx hb dX11_missing_27 (by decide) (fun c_8 => ?_) (fun c_8 => ?_)
      · replace hw := hw.1 c_8
        refine lv_bipush (pc := 40) (v := (-3 : Int32)) hx hb dX11_missing_40 (by decide) ?_
        exact hRetI (S := Int32 × Int32) (m_spanLow_6, m_spanHigh_7) hx hb hr hlocks hQ hw hP hK hD hS dX11_missing_42
      · replace hw := hw.2 c_8
        refine lv_aload_n (pc := 30) hx hb dX11_missing_30 rfl (lv_at hl 0 rfl) ?_
        refine lv_iload_n (pc := 31) hx hb dX11_missing_31 rfl (lv_at hl 1 rfl) ?_
        refine lv_iload_n (pc := 32) hx hb dX11_missing_32 rfl (lv_at hl 2 rfl) ?_
        refine lv_iload_n (pc := 33) hx hb dX11_missing_33 rfl (lv_at hl 3 rfl) ?_
        refine hCallI (pc := 34) (wr := [aI K (q 1) 6 m_low, aI K (q 2) 6 m_high, aI K (q 5) 40 m_weighHouse, aI K (q 6) 40 m_weighKind, aI K (q 7) 40 m_weighLess, aI K (q 8) 40 m_weighMore, aZ K (q 9) 40 m_isDropped]) (wsf := fun (u : Unit) => [oX11 q m_kinds m_weighings m_spanLow_6 m_spanHigh_7 m_events m_days m_edges m_crew m_breakages, aI K (q 3) 30 m_book, aI K (q 4) 90 m_ledger]) [0, 3, 4] [1, 2, 5, 6, 7, 8, 9] (va_runV (As := [.int p1, .int p2, .int p3]) (rest := []) ⟨hx, hb, hml, hown, hts⟩ (c_X11_missingOf l G K tb q H.size m_kinds m_weighings m_events m_days m_edges m_crew m_breakages _ p1 p2 p3 m_book m_ledger m_spanLow_6 m_spanHigh_7 hw) (cwV 3 hts gX11_missing_X11_missingOf rfl rfl rfl (by decide +kernel) ⟨Nat.le_of_ble_eq_true rfl, Nat.le_of_ble_eq_true rfl⟩) (hPreV hE hP hK hD hS hA [0, 3, 4] (by decide) rfl rfl rfl rfl (q0 := 0) (ci := 11) rfl) rfl rfl hl.1 rfl (lv_room (Nat.le_of_ble_eq_true rfl)) dX11_missing_34 ⟨Nat.zero_le _, Nat.zero_le _⟩) hP hD hS hA rfl rfl (by decide) (by decide) (fun r_9 u H locs hw hP hD hS => ?_)
        have hP : va_P G vwCl [oX11 q m_kinds m_weighings m_spanLow_6 m_spanHigh_7 m_events m_days m_edges m_crew m_breakages, aI K (q 1) 6 m_low, aI K (q 2) 6 m_high, aI K (q 3) 30 m_book, aI K (q 4) 90 m_ledger, aI K (q 5) 40 m_weighHouse, aI K (q 6) 40 m_weighKind, aI K (q 7) 40 m_weighLess, aI K (q 8) 40 m_weighMore, aZ K (q 9) 40 m_isDropped] H := hP.sub [7, 0, 1, 8, 9, 2, 3, 4, 5, 6] rfl
        have hD : va_D A [oX11 q m_kinds m_weighings m_spanLow_6 m_spanHigh_7 m_events m_days m_edges m_crew m_breakages, aI K (q 1) 6 m_low, aI K (q 2) 6 m_high, aI K (q 3) 30 m_book, aI K (q 4) 90 m_ledger, aI K (q 5) 40 m_weighHouse, aI K (q 6) 40 m_weighKind, aI K (q 7) 40 m_weighLess, aI K (q 8) 40 m_weighMore, aZ K (q 9) 40 m_isDropped] := hD.sub [7, 0, 1, 8, 9, 2, 3, 4, 5, 6] (by decide) rfl
        refine lv_goto (pc := 37) (tgt := 42) hx hb dX11_missing_37 (by decide) ?_
        exact hRetI (S := Int32 × Int32) (m_spanLow_6, m_spanHigh_7) hx hb hr hlocks hQ hw hP hK hD hS dX11_missing_42
    · replace hw := hw.1 c_4
      refine lv_iconst (pc := 15) (v := (-1 : Int32)) hx hb dX11_missing_15 (by decide) ?_
      exact hRetI (S := Int32 × Int32) (m_spanLow, m_spanHigh) hx hb hr hlocks hQ hw hP hK hD hS dX11_missing_16
def P_X11_worst (post : Int32 → Int32 → Int32 → Prop) (m_kinds : Int32) (m_low : Nat → Int32) (m_high : Nat → Int32) (m_book : Nat → Int32) (m_ledger : Nat → Int32) (m_weighings : Int32) (m_weighHouse : Nat → Int32) (m_weighKind : Nat → Int32) (m_weighLess : Nat → Int32) (m_weighMore : Nat → Int32) (m_isDropped : Nat → Int32) (m_spanLow : Int32) (m_spanHigh : Int32) : Prop :=
  ∀ (X7 : Int32 → Int32 → Int32 → Int32 → Int32 → Prop),
  ∀ (X18 : Int32 → Int32 → Int32 → Int32 → Int32 → Int32 → Int32 → Prop),
  (∀ (x1 : Int32) (x2 : Int32) (x3 : Int32) (m_spanLow : Int32) (m_spanHigh : Int32), ((((5 : Int32) ≤ x3 → post x1 m_spanLow m_spanHigh) ∧ (¬ (5 : Int32) ≤ x3 → X18 x1 x2 x3 (0 : Int32) (0 : Int32) m_spanLow m_spanHigh))) → X7 x1 x2 x3 m_spanLow m_spanHigh) →
  (∀ (x1 : Int32) (x2 : Int32) (x3 : Int32) (x4 : Int32) (x5 : Int32) (m_spanLow : Int32) (m_spanHigh : Int32), (((m_kinds ≤ x5 → ∀ v_4 : Int32, v_4 = (if x4 ≤ x2 then x1 else x3) → ∀ v_6 : Int32, v_6 = (if x4 ≤ x2 then x2 else x4) → ∀ y_7 : Int32, y_7 = (x3 + (1 : Int32)) → X7 v_4 v_6 y_7 m_spanLow m_spanHigh) ∧ (¬ m_kinds ≤ x5 → P_X11_laySpan (fun r_8 m_spanLow_9 m_spanHigh_10 => ((r_8 = (0 : Int32) → ∀ y_12 : Int32, y_12 = (x4 + (0 : Int32)) → ∀ y_13 : Int32, y_13 = (x5 + (1 : Int32)) → X18 x1 x2 x3 y_12 y_13 m_spanLow_9 m_spanHigh_10) ∧ (¬ r_8 = (0 : Int32) → P_X11_missingOf (fun r_14 => ∀ y_15 : Int32, y_15 = (x4 + r_14) → ∀ y_16 : Int32, y_16 = (x5 + (1 : Int32)) → X18 x1 x2 x3 y_15 y_16 m_spanLow_9 m_spanHigh_10) x3 x5 (0 : Int32) m_book m_ledger m_spanLow_9 m_spanHigh_10))) x3 x5 m_weighings m_low m_high m_weighHouse m_weighKind m_weighLess m_weighMore m_isDropped m_spanLow m_spanHigh))) → X18 x1 x2 x3 x4 x5 m_spanLow m_spanHigh) →
  X7 (-9 : Int32) (0 : Int32) (0 : Int32) m_spanLow m_spanHigh
abbrev rm_X11_worst : Room := { frames := 1, cells := 0, slots := 0, locals := 26 }
theorem iw_X11_worst_X11 : ∀ w ∈ wsX110, w ∈ wsX11_worst := by decide +kernel
set_option maxHeartbeats 4000000 in
set_option maxRecDepth 100000 in
theorem c_X11_worst (l : Launch) (G : va_G) (K : ClassId × ClassId × ClassId) (tb q : Nat → Nat) (sz : Nat) (m_events : Int32) (m_days : Int32) (m_edges : Int32) (m_crew : Int32) (m_breakages : Int32) (post : Int32 → Int32 → Int32 → Prop) (m_kinds : Int32) (m_low : Nat → Int32) (m_high : Nat → Int32) (m_book : Nat → Int32) (m_ledger : Nat → Int32) (m_weighings : Int32) (m_weighHouse : Nat → Int32) (m_weighKind : Nat → Int32) (m_weighLess : Nat → Int32) (m_weighMore : Nat → Int32) (m_isDropped : Nat → Int32) (m_spanLow : Int32) (m_spanHigh : Int32) (hw : P_X11_worst post m_kinds m_low m_high m_book m_ledger m_weighings m_weighHouse m_weighKind m_weighLess m_weighMore m_isDropped m_spanLow m_spanHigh) : Met l yX11_worst wsX11_worst rm_X11_worst (va_Pc [.ref (q 0)] (hPre G K tb [oX11 q m_kinds m_weighings m_spanLow m_spanHigh m_events m_days m_edges m_crew m_breakages, aI K (q 1) 6 m_low, aI K (q 2) 6 m_high, aI K (q 3) 30 m_book, aI K (q 4) 90 m_ledger, aI K (q 5) 40 m_weighHouse, aI K (q 6) 40 m_weighKind, aI K (q 7) 40 m_weighLess, aI K (q 8) 40 m_weighMore, aZ K (q 9) 40 m_isDropped] sz)) (va_Qi (fun (r : Int32) (u : Int32 × Int32) => post r u.1 u.2) (fun u => hB G K (va_A [oX11 q m_kinds m_weighings m_spanLow m_spanHigh m_events m_days m_edges m_crew m_breakages, aI K (q 1) 6 m_low, aI K (q 2) 6 m_high, aI K (q 3) 30 m_book, aI K (q 4) 90 m_ledger, aI K (q 5) 40 m_weighHouse, aI K (q 6) 40 m_weighKind, aI K (q 7) 40 m_weighLess, aI K (q 8) 40 m_weighMore, aZ K (q 9) 40 m_isDropped] sz) [oX11 q m_kinds m_weighings u.1 u.2 m_events m_days m_edges m_crew m_breakages, aI K (q 1) 6 m_low, aI K (q 2) 6 m_high, aI K (q 3) 30 m_book, aI K (q 4) 90 m_ledger, aI K (q 5) 40 m_weighHouse, aI K (q 6) 40 m_weighKind, aI K (q 7) 40 m_weighLess, aI K (q 8) 40 m_weighMore, aZ K (q 9) 40 m_isDropped]) (va_A [oX11 q m_kinds m_weighings m_spanLow m_spanHigh m_events m_days m_edges m_crew m_breakages, aI K (q 1) 6 m_low, aI K (q 2) 6 m_high, aI K (q 3) 30 m_book, aI K (q 4) 90 m_ledger, aI K (q 5) 40 m_weighHouse, aI K (q 6) 40 m_weighKind, aI K (q 7) 40 m_weighLess, aI K (q 8) 40 m_weighMore, aZ K (q 9) 40 m_isDropped] sz)) 0 0 (va_A [oX11 q m_kinds m_weighings m_spanLow m_spanHigh m_events m_days m_edges m_crew m_breakages, aI K (q 1) 6 m_low, aI K (q 2) 6 m_high, aI K (q 3) 30 m_book, aI K (q 4) 90 m_ledger, aI K (q 5) 40 m_weighHouse, aI K (q 6) 40 m_weighKind, aI K (q 7) 40 m_weighLess, aI K (q 8) 40 m_weighMore, aZ K (q 9) 40 m_isDropped] sz) := by
  refine hMet (fun A => va_Qi (fun (r : Int32) (u : Int32 × Int32) => post r u.1 u.2) (fun u => hB G K A [oX11 q m_kinds m_weighings u.1 u.2 m_events m_days m_edges m_crew m_breakages, aI K (q 1) 6 m_low, aI K (q 2) 6 m_high, aI K (q 3) 30 m_book, aI K (q 4) 90 m_ledger, aI K (q 5) 40 m_weighHouse, aI K (q 6) 40 m_weighKind, aI K (q 7) 40 m_weighLess, aI K (q 8) 40 m_weighMore, aZ K (q 9) 40 m_isDropped]) A) (by decide) rfl (Nat.le_of_ble_eq_true rfl) ?_
  intro p e s m av below meth c A Q ls hx hb hr hml hts hown hlocks hnm hA hP hK hD hS hE hQ hl
  have hts : ∀ w ∈ wsX11_worst, w.before av s = true := hts
  have hown : s.vm.findClass RX11 = some m.cls := hown
  have hl : lv_has ls 6 [(0, .ref (q 0))] := hl
  unfold P_X11_worst at hw
  replace hw := hw (fun (x1 : Int32) (x2 : Int32) (x3 : Int32) (m_spanLow : Int32) (m_spanHigh : Int32) => ∀ (H : Heap) (locs : List Loc) (ls : Array Slot), va_P G vwCl [oX11 q m_kinds m_weighings m_spanLow m_spanHigh m_events m_days m_edges m_crew m_breakages, aI K (q 1) 6 m_low, aI K (q 2) 6 m_high, aI K (q 3) 30 m_book, aI K (q 4) 90 m_ledger, aI K (q 5) 40 m_weighHouse, aI K (q 6) 40 m_weighKind, aI K (q 7) 40 m_weighLess, aI K (q 8) 40 m_weighMore, aZ K (q 9) 40 m_isDropped] H → va_D A [oX11 q m_kinds m_weighings m_spanLow m_spanHigh m_events m_days m_edges m_crew m_breakages, aI K (q 1) 6 m_low, aI K (q 2) 6 m_high, aI K (q 3) 30 m_book, aI K (q 4) 90 m_ledger, aI K (q 5) 40 m_weighHouse, aI K (q 6) 40 m_weighKind, aI K (q 7) 40 m_weighLess, aI K (q 8) 40 m_weighMore, aZ K (q 9) 40 m_isDropped] → va_S A s.heap H locs → lv_has ls 6 [(0, .ref (q 0)), (1, .int x1), (2, .int x2), (3, .int x3)] → W p l e rm_X11_worst s m av below meth c H locs 0 0 Q (F0 m 7 ls []))
  replace hw := hw (fun (x1 : Int32) (x2 : Int32) (x3 : Int32) (x4 : Int32) (x5 : Int32) (m_spanLow : Int32) (m_spanHigh : Int32) => ∀ (H : Heap) (locs : List Loc) (ls : Array Slot), va_P G vwCl [oX11 q m_kinds m_weighings m_spanLow m_spanHigh m_events m_days m_edges m_crew m_breakages, aI K (q 1) 6 m_low, aI K (q 2) 6 m_high, aI K (q 3) 30 m_book, aI K (q 4) 90 m_ledger, aI K (q 5) 40 m_weighHouse, aI K (q 6) 40 m_weighKind, aI K (q 7) 40 m_weighLess, aI K (q 8) 40 m_weighMore, aZ K (q 9) 40 m_isDropped] H → va_D A [oX11 q m_kinds m_weighings m_spanLow m_spanHigh m_events m_days m_edges m_crew m_breakages, aI K (q 1) 6 m_low, aI K (q 2) 6 m_high, aI K (q 3) 30 m_book, aI K (q 4) 90 m_ledger, aI K (q 5) 40 m_weighHouse, aI K (q 6) 40 m_weighKind, aI K (q 7) 40 m_weighLess, aI K (q 8) 40 m_weighMore, aZ K (q 9) 40 m_isDropped] → va_S A s.heap H locs → lv_has ls 6 [(0, .ref (q 0)), (1, .int x1), (2, .int x2), (3, .int x3), (4, .int x4), (5, .int x5)] → W p l e rm_X11_worst s m av below meth c H locs 0 0 Q (F0 m 18 ls []))
  replace hw := hw (by
    intro x1 x2 x3 m_spanLow m_spanHigh hw H locs ls hP hD hS hl
    refine lv_iload_n (pc := 7) hx hb dX11_worst_7 rfl (lv_at hl 3 rfl) ?_
    refine lv_iconst (pc := 8) (v := (5 : Int32)) hx hb dX11_worst_8 (by decide) ?_
    refine lv_icmp_ge (pc := 9) (tgt := 95) hx hb dX11_worst_9 (by decide) (fun c_1 => ?_) (fun c_1 => ?_)
    · replace hw := hw.1 c_1
      refine lv_iload_n (pc := 95) hx hb dX11_worst_95 rfl (lv_at hl 1 rfl) ?_
      exact hRetI (S := Int32 × Int32) (m_spanLow, m_spanHigh) hx hb hr hlocks hQ hw hP hK hD hS dX11_worst_96
    · replace hw := hw.2 c_1
      refine lv_iconst (pc := 12) (v := (0 : Int32)) hx hb dX11_worst_12 (by decide) ?_
      refine lv_istore (pc := 13) (lv' := [(4, .int (0 : Int32)), (0, .ref (q 0)), (1, .int x1), (2, .int x2), (3, .int x3)]) hx hb dX11_worst_13 hl (by decide) rfl (fun ls hl => ?_)
      refine lv_iconst (pc := 15) (v := (0 : Int32)) hx hb dX11_worst_15 (by decide) ?_
      refine lv_istore (pc := 16) (lv' := [(5, .int (0 : Int32)), (4, .int (0 : Int32)), (0, .ref (q 0)), (1, .int x1), (2, .int x2), (3, .int x3)]) hx hb dX11_worst_16 hl (by decide) rfl (fun ls hl => ?_)
      exact hw _ _ _ hP hD hS (lv_sub hl [2, 3, 4, 5, 1, 0] rfl))
  replace hw := hw (by
    intro x1 x2 x3 x4 x5 m_spanLow m_spanHigh hw H locs ls hP hD hS hl
    refine lv_iload (pc := 18) hx hb dX11_worst_18 (lv_at hl 5 rfl) ?_
    refine lv_aload_n (pc := 20) hx hb dX11_worst_20 rfl (lv_at hl 0 rfl) ?_
    refine va_get (pc := 21) (D := G) (ci := 11) (v := .int m_kinds) (C := RX11) (T := TX11) (N := 45) hx hb hts iw_X11_worst_X11 hown hK hP 0 rfl rfl 0 (by decide) (hts _ (List.mem_of_getElem? (i := 1) rfl)) (fun _ h9 => h9) rfl dX11_worst_21 ?_
    refine lv_icmp_ge (pc := 24) (tgt := 64) hx hb dX11_worst_24 (by decide) (fun c_2 => ?_) (fun c_2 => ?_)
    · replace hw := hw.1 c_2
      refine lv_iload (pc := 64) hx hb dX11_worst_64 (lv_at hl 4 rfl) ?_
      refine lv_iload_n (pc := 66) hx hb dX11_worst_66 rfl (lv_at hl 2 rfl) ?_
      have K_v_4 : ∀ v_4 : Int32, v_4 = (if x4 ≤ x2 then x1 else x3) → W p l e rm_X11_worst s m av below meth c H locs 0 0 Q (F0 m 75 ls [.int v_4]) := by
        intro v_4 ev_4
        replace hw := hw v_4 ev_4
        refine lv_istore_n (pc := 75) (lv' := [(1, .int v_4), (0, .ref (q 0)), (2, .int x2), (3, .int x3), (4, .int x4), (5, .int x5)]) hx hb dX11_worst_75 rfl hl (by decide) rfl (fun ls hl => ?_)
        refine lv_iload (pc := 76) hx hb dX11_worst_76 (lv_at hl 4 rfl) ?_
        refine lv_iload_n (pc := 78) hx hb dX11_worst_78 rfl (lv_at hl 2 rfl) ?_
        have K_v_6 : ∀ v_6 : Int32, v_6 = (if x4 ≤ x2 then x2 else x4) → W p l e rm_X11_worst s m av below meth c H locs 0 0 Q (F0 m 88 ls [.int v_6]) := by
          intro v_6 ev_6
          replace hw := hw v_6 ev_6
          refine lv_istore_n (pc := 88) (lv' := [(2, .int v_6), (1, .int v_4), (0, .ref (q 0)), (3, .int x3), (4, .int x4), (5, .int x5)]) hx hb dX11_worst_88 rfl hl (by decide) rfl (fun ls hl => ?_)
          obtain ⟨y_7, ey_7⟩ : ∃ z : Int32, z = (x3 + (1 : Int32)) := ⟨_, rfl⟩
          replace hw := hw y_7 ey_7
          refine lv_iinc (pc := 89) (v := y_7) (lv' := [(3, .int y_7), (2, .int v_6), (1, .int v_4), (0, .ref (q 0)), (4, .int x4), (5, .int x5)]) hx hb dX11_worst_89 hl (k := 3) rfl (by rw [ey_7]; rfl) (by decide) rfl (fun ls hl => ?_)
          refine lv_goto (pc := 92) (tgt := 7) hx hb dX11_worst_92 (by decide) ?_
          exact hw _ _ _ hP hD hS (lv_sub hl [3, 2, 1, 0] rfl)
        refine lv_icmp_le (pc := 79) (tgt := 87) hx hb dX11_worst_79 (by decide) (fun c_5 => ?_) (fun c_5 => ?_)
        · skip
          refine lv_iload_n (pc := 87) hx hb dX11_worst_87 rfl (lv_at hl 2 rfl) ?_
          exact K_v_6 _ (by rw [if_pos c_5])
        · skip
          refine lv_iload (pc := 82) hx hb dX11_worst_82 (lv_at hl 4 rfl) ?_
          refine lv_goto (pc := 84) (tgt := 88) hx hb dX11_worst_84 (by decide) ?_
          exact K_v_6 _ (by rw [if_neg c_5])
      refine lv_icmp_le (pc := 67) (tgt := 74) hx hb dX11_worst_67 (by decide) (fun c_3 => ?_) (fun c_3 => ?_)
      · skip
        refine lv_iload_n (pc := 74) hx hb dX11_worst_74 rfl (lv_at hl 1 rfl) ?_
        exact K_v_4 _ (by rw [if_pos c_3])
      · skip
        refine lv_iload_n (pc := 70) hx hb dX11_worst_70 rfl (lv_at hl 3 rfl) ?_
        refine lv_goto (pc := 71) (tgt := 75) hx hb dX11_worst_71 (by decide) ?_
        exact K_v_4 _ (by rw [if_neg c_3])
    · replace hw := hw.2 c_2
      refine lv_iload (pc := 27) hx hb dX11_worst_27 (lv_at hl 4 rfl) ?_
      refine lv_aload_n (pc := 29) hx hb dX11_worst_29 rfl (lv_at hl 0 rfl) ?_
      refine lv_iload_n (pc := 30) hx hb dX11_worst_30 rfl (lv_at hl 3 rfl) ?_
      refine lv_iload (pc := 31) hx hb dX11_worst_31 (lv_at hl 5 rfl) ?_
      refine lv_aload_n (pc := 33) hx hb dX11_worst_33 rfl (lv_at hl 0 rfl) ?_
      refine va_get (pc := 34) (D := G) (ci := 11) (v := .int m_weighings) (C := RX11) (T := TX11) (N := 45) hx hb hts iw_X11_worst_X11 hown hK hP 0 rfl rfl 5 (by decide) (hts _ (List.mem_of_getElem? (i := 2) rfl)) (fun _ h9 => h9) rfl dX11_worst_34 ?_
      refine hCallI (pc := 37) (wr := [aI K (q 3) 30 m_book, aI K (q 4) 90 m_ledger]) (wsf := fun (u : Int32 × Int32) => [oX11 q m_kinds m_weighings u.1 u.2 m_events m_days m_edges m_crew m_breakages, aI K (q 1) 6 m_low, aI K (q 2) 6 m_high, aI K (q 5) 40 m_weighHouse, aI K (q 6) 40 m_weighKind, aI K (q 7) 40 m_weighLess, aI K (q 8) 40 m_weighMore, aZ K (q 9) 40 m_isDropped]) [0, 1, 2, 5, 6, 7, 8, 9] [3, 4] (va_runV (As := [.int x3, .int x5, .int m_weighings]) (rest := [.int x4]) ⟨hx, hb, hml, hown, hts⟩ (c_X11_laySpan l G K tb q H.size m_kinds m_weighings m_events m_days m_edges m_crew m_breakages _ x3 x5 m_weighings m_low m_high m_weighHouse m_weighKind m_weighLess m_weighMore m_isDropped m_spanLow m_spanHigh hw) (cwV 3 hts gX11_worst_X11_laySpan rfl rfl rfl (by decide +kernel) ⟨Nat.le_of_ble_eq_true rfl, Nat.le_of_ble_eq_true rfl⟩) (hPreV hE hP hK hD hS hA [0, 1, 2, 5, 6, 7, 8, 9] (by decide) rfl rfl rfl rfl (q0 := 0) (ci := 11) rfl) rfl rfl hl.1 rfl (lv_room (Nat.le_of_ble_eq_true rfl)) dX11_worst_37 ⟨Nat.zero_le _, Nat.zero_le _⟩) hP hD hS hA rfl rfl (by decide) (by decide) (fun r_8 u H locs hw hP hD hS => ?_)
      obtain ⟨m_spanLow_9, m_spanHigh_10⟩ := u
      have hP : va_P G vwCl [oX11 q m_kinds m_weighings m_spanLow_9 m_spanHigh_10 m_events m_days m_edges m_crew m_breakages, aI K (q 1) 6 m_low, aI K (q 2) 6 m_high, aI K (q 3) 30 m_book, aI K (q 4) 90 m_ledger, aI K (q 5) 40 m_weighHouse, aI K (q 6) 40 m_weighKind, aI K (q 7) 40 m_weighLess, aI K (q 8) 40 m_weighMore, aZ K (q 9) 40 m_isDropped] H := hP.sub [2, 3, 4, 0, 1, 5, 6, 7, 8, 9] rfl
      have hD : va_D A [oX11 q m_kinds m_weighings m_spanLow_9 m_spanHigh_10 m_events m_days m_edges m_crew m_breakages, aI K (q 1) 6 m_low, aI K (q 2) 6 m_high, aI K (q 3) 30 m_book, aI K (q 4) 90 m_ledger, aI K (q 5) 40 m_weighHouse, aI K (q 6) 40 m_weighKind, aI K (q 7) 40 m_weighLess, aI K (q 8) 40 m_weighMore, aZ K (q 9) 40 m_isDropped] := hD.sub [2, 3, 4, 0, 1, 5, 6, 7, 8, 9] (by decide) rfl
      refine lv_if_eq (pc := 40) (tgt := 54) hx hb dX11_worst_40 (by decide) (fun c_11 => ?_) (fun c_11 => ?_)
      · replace hw := hw.1 c_11
        refine lv_iconst (pc := 54) (v := (0 : Int32)) hx hb dX11_worst_54 (by decide) ?_
        refine lv_iadd (pc := 55) hx hb dX11_worst_55 ?_
        refine lv_topi (fun y_12 ey_12 => ?_)
        replace hw := hw y_12 ey_12
        refine lv_istore (pc := 56) (lv' := [(4, .int y_12), (0, .ref (q 0)), (1, .int x1), (2, .int x2), (3, .int x3), (5, .int x5)]) hx hb dX11_worst_56 hl (by decide) rfl (fun ls hl => ?_)
        obtain ⟨y_13, ey_13⟩ : ∃ z : Int32, z = (x5 + (1 : Int32)) := ⟨_, rfl⟩
        replace hw := hw y_13 ey_13
        refine lv_iinc (pc := 58) (v := y_13) (lv' := [(5, .int y_13), (4, .int y_12), (0, .ref (q 0)), (1, .int x1), (2, .int x2), (3, .int x3)]) hx hb dX11_worst_58 hl (k := 5) rfl (by rw [ey_13]; rfl) (by decide) rfl (fun ls hl => ?_)
        refine lv_goto (pc := 61) (tgt := 18) hx hb dX11_worst_61 (by decide) ?_
        exact hw _ _ _ hP hD hS (lv_sub hl [2, 3, 4, 5, 1, 0] rfl)
      · replace hw := hw.2 c_11
        refine lv_aload_n (pc := 43) hx hb dX11_worst_43 rfl (lv_at hl 0 rfl) ?_
        refine lv_iload_n (pc := 44) hx hb dX11_worst_44 rfl (lv_at hl 3 rfl) ?_
        refine lv_iload (pc := 45) hx hb dX11_worst_45 (lv_at hl 5 rfl) ?_
        refine lv_iconst (pc := 47) (v := (0 : Int32)) hx hb dX11_worst_47 (by decide) ?_
        refine hCallI (pc := 48) (wr := [aI K (q 1) 6 m_low, aI K (q 2) 6 m_high, aI K (q 5) 40 m_weighHouse, aI K (q 6) 40 m_weighKind, aI K (q 7) 40 m_weighLess, aI K (q 8) 40 m_weighMore, aZ K (q 9) 40 m_isDropped]) (wsf := fun (u : Unit) => [oX11 q m_kinds m_weighings m_spanLow_9 m_spanHigh_10 m_events m_days m_edges m_crew m_breakages, aI K (q 3) 30 m_book, aI K (q 4) 90 m_ledger]) [0, 3, 4] [1, 2, 5, 6, 7, 8, 9] (va_runV (As := [.int x3, .int x5, .int (0 : Int32)]) (rest := [.int x4]) ⟨hx, hb, hml, hown, hts⟩ (c_X11_missingOf l G K tb q H.size m_kinds m_weighings m_events m_days m_edges m_crew m_breakages _ x3 x5 (0 : Int32) m_book m_ledger m_spanLow_9 m_spanHigh_10 hw) (cwV 3 hts gX11_worst_X11_missingOf rfl rfl rfl (by decide +kernel) ⟨Nat.le_of_ble_eq_true rfl, Nat.le_of_ble_eq_true rfl⟩) (hPreV hE hP hK hD hS hA [0, 3, 4] (by decide) rfl rfl rfl rfl (q0 := 0) (ci := 11) rfl) rfl rfl hl.1 rfl (lv_room (Nat.le_of_ble_eq_true rfl)) dX11_worst_48 ⟨Nat.zero_le _, Nat.zero_le _⟩) hP hD hS hA rfl rfl (by decide) (by decide) (fun r_14 u H locs hw hP hD hS => ?_)
        have hP : va_P G vwCl [oX11 q m_kinds m_weighings m_spanLow_9 m_spanHigh_10 m_events m_days m_edges m_crew m_breakages, aI K (q 1) 6 m_low, aI K (q 2) 6 m_high, aI K (q 3) 30 m_book, aI K (q 4) 90 m_ledger, aI K (q 5) 40 m_weighHouse, aI K (q 6) 40 m_weighKind, aI K (q 7) 40 m_weighLess, aI K (q 8) 40 m_weighMore, aZ K (q 9) 40 m_isDropped] H := hP.sub [7, 0, 1, 8, 9, 2, 3, 4, 5, 6] rfl
        have hD : va_D A [oX11 q m_kinds m_weighings m_spanLow_9 m_spanHigh_10 m_events m_days m_edges m_crew m_breakages, aI K (q 1) 6 m_low, aI K (q 2) 6 m_high, aI K (q 3) 30 m_book, aI K (q 4) 90 m_ledger, aI K (q 5) 40 m_weighHouse, aI K (q 6) 40 m_weighKind, aI K (q 7) 40 m_weighLess, aI K (q 8) 40 m_weighMore, aZ K (q 9) 40 m_isDropped] := hD.sub [7, 0, 1, 8, 9, 2, 3, 4, 5, 6] (by decide) rfl
        refine lv_goto (pc := 51) (tgt := 55) hx hb dX11_worst_51 (by decide) ?_
        refine lv_iadd (pc := 55) hx hb dX11_worst_55 ?_
        refine lv_topi (fun y_15 ey_15 => ?_)
        replace hw := hw y_15 ey_15
        refine lv_istore (pc := 56) (lv' := [(4, .int y_15), (0, .ref (q 0)), (1, .int x1), (2, .int x2), (3, .int x3), (5, .int x5)]) hx hb dX11_worst_56 hl (by decide) rfl (fun ls hl => ?_)
        obtain ⟨y_16, ey_16⟩ : ∃ z : Int32, z = (x5 + (1 : Int32)) := ⟨_, rfl⟩
        replace hw := hw y_16 ey_16
        refine lv_iinc (pc := 58) (v := y_16) (lv' := [(5, .int y_16), (4, .int y_15), (0, .ref (q 0)), (1, .int x1), (2, .int x2), (3, .int x3)]) hx hb dX11_worst_58 hl (k := 5) rfl (by rw [ey_16]; rfl) (by decide) rfl (fun ls hl => ?_)
        refine lv_goto (pc := 61) (tgt := 18) hx hb dX11_worst_61 (by decide) ?_
        exact hw _ _ _ hP hD hS (lv_sub hl [2, 3, 4, 5, 1, 0] rfl))
  refine lv_bipush (pc := 0) (v := (-9 : Int32)) hx hb dX11_worst_0 (by decide) ?_
  refine lv_istore_n (pc := 2) (lv' := [(1, .int (-9 : Int32)), (0, .ref (q 0))]) hx hb dX11_worst_2 rfl hl (by decide) rfl (fun ls hl => ?_)
  refine lv_iconst (pc := 3) (v := (0 : Int32)) hx hb dX11_worst_3 (by decide) ?_
  refine lv_istore_n (pc := 4) (lv' := [(2, .int (0 : Int32)), (1, .int (-9 : Int32)), (0, .ref (q 0))]) hx hb dX11_worst_4 rfl hl (by decide) rfl (fun ls hl => ?_)
  refine lv_iconst (pc := 5) (v := (0 : Int32)) hx hb dX11_worst_5 (by decide) ?_
  refine lv_istore_n (pc := 6) (lv' := [(3, .int (0 : Int32)), (2, .int (0 : Int32)), (1, .int (-9 : Int32)), (0, .ref (q 0))]) hx hb dX11_worst_6 rfl hl (by decide) rfl (fun ls hl => ?_)
  exact hw _ _ _ hP hD hS (lv_sub hl [3, 2, 1, 0] rfl)
def P_X11_farness (post : Int32 → (Nat → Int32) → Prop) (p1 : Int32) (p2 : Int32) (p3 : Int32) (m_farness : Nat → Int32) : Prop :=
  P_X11_isHouse (fun r_1 => ((r_1 = (0 : Int32) → post (-1 : Int32) m_farness) ∧ (¬ r_1 = (0 : Int32) → P_X11_isHouse (fun r_3 => ((r_3 = (0 : Int32) → post (-1 : Int32) m_farness) ∧ (¬ r_3 = (0 : Int32) → P_X11_in (fun r_5 => ((r_5 = (0 : Int32) → post (-2 : Int32) m_farness) ∧ (¬ r_5 = (0 : Int32) → ((p1 = p2 → post (-3 : Int32) m_farness) ∧ (¬ p1 = p2 → vp_in (((5 : Int32) * p1) + p2) 25 ∧ ∀ y_9 : Int32, y_9 = (m_farness (((5 : Int32) * p1) + p2).toNatClampNeg) → ∀ m_farness_10 : Nat → Int32, m_farness_10 = upd m_farness (((5 : Int32) * p1) + p2).toNatClampNeg p3 → vp_in (((5 : Int32) * p2) + p1) 25 ∧ ∀ m_farness_12 : Nat → Int32, m_farness_12 = upd m_farness_10 (((5 : Int32) * p2) + p1).toNatClampNeg p3 → post y_9 m_farness_12))))) p3.toInt64 (0 : Int64) (99 : Int64)))) p2))) p1
abbrev rm_X11_farness : Room := { frames := 2, cells := 0, slots := 0, locals := 45 }
theorem iw_X11_farness_X11 : ∀ w ∈ wsX110, w ∈ wsX11_farness := by decide +kernel
set_option maxHeartbeats 4000000 in
set_option maxRecDepth 100000 in
theorem c_X11_farness (l : Launch) (G : va_G) (K : ClassId × ClassId × ClassId) (tb q : Nat → Nat) (sz : Nat) (m_kinds : Int32) (m_weighings : Int32) (m_spanLow : Int32) (m_spanHigh : Int32) (m_events : Int32) (m_days : Int32) (m_edges : Int32) (m_crew : Int32) (m_breakages : Int32) (post : Int32 → (Nat → Int32) → Prop) (p1 : Int32) (p2 : Int32) (p3 : Int32) (m_farness : Nat → Int32) (hw : P_X11_farness post p1 p2 p3 m_farness) : Met l yX11_farness wsX11_farness rm_X11_farness (va_Pc [.ref (q 0), .int p1, .int p2, .int p3] (hPre G K tb [oX11 q m_kinds m_weighings m_spanLow m_spanHigh m_events m_days m_edges m_crew m_breakages, aI K (q 10) 25 m_farness] sz)) (va_Qi (fun (r : Int32) (u : (Nat → Int32)) => post r u) (fun u => hB G K (va_A [oX11 q m_kinds m_weighings m_spanLow m_spanHigh m_events m_days m_edges m_crew m_breakages, aI K (q 10) 25 m_farness] sz) [oX11 q m_kinds m_weighings m_spanLow m_spanHigh m_events m_days m_edges m_crew m_breakages, aI K (q 10) 25 u]) (va_A [oX11 q m_kinds m_weighings m_spanLow m_spanHigh m_events m_days m_edges m_crew m_breakages, aI K (q 10) 25 m_farness] sz)) 0 0 (va_A [oX11 q m_kinds m_weighings m_spanLow m_spanHigh m_events m_days m_edges m_crew m_breakages, aI K (q 10) 25 m_farness] sz) := by
  refine hMet (fun A => va_Qi (fun (r : Int32) (u : (Nat → Int32)) => post r u) (fun u => hB G K A [oX11 q m_kinds m_weighings m_spanLow m_spanHigh m_events m_days m_edges m_crew m_breakages, aI K (q 10) 25 u]) A) (by decide) rfl (Nat.le_of_ble_eq_true rfl) ?_
  intro p e s m av below meth c A Q ls hx hb hr hml hts hown hlocks hnm hA hP hK hD hS hE hQ hl
  have hts : ∀ w ∈ wsX11_farness, w.before av s = true := hts
  have hown : s.vm.findClass RX11 = some m.cls := hown
  have hl : lv_has ls 5 [(0, .ref (q 0)), (1, .int p1), (2, .int p2), (3, .int p3)] := hl
  unfold P_X11_farness at hw
  refine lv_iload_n (pc := 0) hx hb dX11_farness_0 rfl (lv_at hl 1 rfl) ?_
  refine hCallI (pc := 1) (wr := [oX11 q m_kinds m_weighings m_spanLow m_spanHigh m_events m_days m_edges m_crew m_breakages, aI K (q 10) 25 m_farness]) (wsf := fun (u : Unit) => []) [] [0, 1] (va_runS (As := [.int p1]) (rest := []) ⟨hx, hb, hml, hown, hts⟩ (c_X11_isHouse l G K tb q s.heap.size _ p1 hw) (va_cwS 1 hts gX11_farness_X11_isHouse rfl rfl rfl (by decide +kernel) ⟨Nat.le_of_ble_eq_true rfl, Nat.le_of_ble_eq_true rfl⟩) (hPreS hE hP hK hD hS hA [] (by decide) rfl rfl) rfl rfl hl.1 rfl (lv_room (Nat.le_of_ble_eq_true rfl)) dX11_farness_1 ⟨Nat.zero_le _, Nat.zero_le _⟩) hP hD hS hA rfl rfl (by decide) (by decide) (fun r_1 u H locs hw hP hD hS => ?_)
  have hP : va_P G vwCl [oX11 q m_kinds m_weighings m_spanLow m_spanHigh m_events m_days m_edges m_crew m_breakages, aI K (q 10) 25 m_farness] H := hP.sub [0, 1] rfl
  have hD : va_D A [oX11 q m_kinds m_weighings m_spanLow m_spanHigh m_events m_days m_edges m_crew m_breakages, aI K (q 10) 25 m_farness] := hD.sub [0, 1] (by decide) rfl
  refine lv_if_eq (pc := 4) (tgt := 14) hx hb dX11_farness_4 (by decide) (fun c_2 => ?_) (fun c_2 => ?_)
  · replace hw := hw.1 c_2
    refine lv_iconst (pc := 14) (v := (-1 : Int32)) hx hb dX11_farness_14 (by decide) ?_
    exact hRetI (S := (Nat → Int32)) m_farness hx hb hr hlocks hQ hw hP hK hD hS dX11_farness_15
  · replace hw := hw.2 c_2
    refine lv_iload_n (pc := 7) hx hb dX11_farness_7 rfl (lv_at hl 2 rfl) ?_
    refine hCallI (pc := 8) (wr := [oX11 q m_kinds m_weighings m_spanLow m_spanHigh m_events m_days m_edges m_crew m_breakages, aI K (q 10) 25 m_farness]) (wsf := fun (u : Unit) => []) [] [0, 1] (va_runS (As := [.int p2]) (rest := []) ⟨hx, hb, hml, hown, hts⟩ (c_X11_isHouse l G K tb q H.size _ p2 hw) (va_cwS 1 hts gX11_farness_X11_isHouse rfl rfl rfl (by decide +kernel) ⟨Nat.le_of_ble_eq_true rfl, Nat.le_of_ble_eq_true rfl⟩) (hPreS hE hP hK hD hS hA [] (by decide) rfl rfl) rfl rfl hl.1 rfl (lv_room (Nat.le_of_ble_eq_true rfl)) dX11_farness_8 ⟨Nat.zero_le _, Nat.zero_le _⟩) hP hD hS hA rfl rfl (by decide) (by decide) (fun r_3 u H locs hw hP hD hS => ?_)
    have hP : va_P G vwCl [oX11 q m_kinds m_weighings m_spanLow m_spanHigh m_events m_days m_edges m_crew m_breakages, aI K (q 10) 25 m_farness] H := hP.sub [0, 1] rfl
    have hD : va_D A [oX11 q m_kinds m_weighings m_spanLow m_spanHigh m_events m_days m_edges m_crew m_breakages, aI K (q 10) 25 m_farness] := hD.sub [0, 1] (by decide) rfl
    refine lv_if_ne (pc := 11) (tgt := 16) hx hb dX11_farness_11 (by decide) (fun c_4 => ?_) (fun c_4 => ?_)
    · replace hw := hw.2 c_4
      refine lv_iload_n (pc := 16) hx hb dX11_farness_16 rfl (lv_at hl 3 rfl) ?_
      refine lv_i2l (pc := 17) hx hb dX11_farness_17 rfl ?_
      refine lv_lconst (pc := 18) (v := (0 : Int64)) hx hb dX11_farness_18 (by decide) ?_
      refine lv_ldc2 (pc := 19) (v := (99 : Int64)) hx hb hown (hts _ (List.mem_of_getElem? (i := 1) rfl)) dX11_farness_19 ?_
      refine hCallI (pc := 22) (wr := [oX11 q m_kinds m_weighings m_spanLow m_spanHigh m_events m_days m_edges m_crew m_breakages, aI K (q 10) 25 m_farness]) (wsf := fun (u : Unit) => []) [] [0, 1] (va_runS (As := [.long p3.toInt64, .long (0 : Int64), .long (99 : Int64)]) (rest := []) ⟨hx, hb, hml, hown, hts⟩ (c_X11_in l G K tb q H.size _ p3.toInt64 (0 : Int64) (99 : Int64) hw) (va_cwS 3 hts gX11_farness_X11_in rfl rfl rfl (by decide +kernel) ⟨Nat.le_of_ble_eq_true rfl, Nat.le_of_ble_eq_true rfl⟩) (hPreS hE hP hK hD hS hA [] (by decide) rfl rfl) rfl rfl hl.1 rfl (lv_room (Nat.le_of_ble_eq_true rfl)) dX11_farness_22 ⟨Nat.zero_le _, Nat.zero_le _⟩) hP hD hS hA rfl rfl (by decide) (by decide) (fun r_5 u H locs hw hP hD hS => ?_)
      have hP : va_P G vwCl [oX11 q m_kinds m_weighings m_spanLow m_spanHigh m_events m_days m_edges m_crew m_breakages, aI K (q 10) 25 m_farness] H := hP.sub [0, 1] rfl
      have hD : va_D A [oX11 q m_kinds m_weighings m_spanLow m_spanHigh m_events m_days m_edges m_crew m_breakages, aI K (q 10) 25 m_farness] := hD.sub [0, 1] (by decide) rfl
      refine lv_if_ne (pc := 25) (tgt := 31) hx hb dX11_farness_25 (by decide) (fun c_6 => ?_) (fun c_6 => ?_)
      · replace hw := hw.2 c_6
        refine lv_iload_n (pc := 31) hx hb dX11_farness_31 rfl (lv_at hl 1 rfl) ?_
        refine lv_iload_n (pc := 32) hx hb dX11_farness_32 rfl (lv_at hl 2 rfl) ?_
        refine lv_icmp_ne (pc := 33) (tgt := 39) hx hb dX11_farness_33 (by decide) (fun c_7 => ?_) (fun c_7 => ?_)
        · replace hw := hw.2 c_7
          refine lv_aload_n (pc := 39) hx hb dX11_farness_39 rfl (lv_at hl 0 rfl) ?_
          refine va_get (pc := 40) (D := G) (ci := 11) (v := .ref (q 10)) (C := RX11) (T := TX11) (N := 45) hx hb hts iw_X11_farness_X11 hown hK hP 0 rfl rfl 13 (by decide) (hts _ (List.mem_of_getElem? (i := 2) rfl)) (fun _ h9 => h9) rfl dX11_farness_40 ?_
          refine lv_iconst (pc := 43) (v := (5 : Int32)) hx hb dX11_farness_43 (by decide) ?_
          refine lv_iload_n (pc := 44) hx hb dX11_farness_44 rfl (lv_at hl 1 rfl) ?_
          refine lv_imul (pc := 45) hx hb dX11_farness_45 ?_
          refine lv_iload_n (pc := 46) hx hb dX11_farness_46 rfl (lv_at hl 2 rfl) ?_
          refine lv_iadd (pc := 47) hx hb dX11_farness_47 ?_
          obtain ⟨h_8, hw⟩ := hw
          refine va_iald (pc := 48) hx hb hK hP 1 0 rfl rfl h_8 dX11_farness_48 ?_
          refine lv_topi (fun y_9 ey_9 => ?_)
          replace hw := hw y_9 ey_9
          refine lv_istore (pc := 49) (lv' := [(4, .int y_9), (0, .ref (q 0)), (1, .int p1), (2, .int p2), (3, .int p3)]) hx hb dX11_farness_49 hl (by decide) rfl (fun ls hl => ?_)
          refine lv_aload_n (pc := 51) hx hb dX11_farness_51 rfl (lv_at hl 1 rfl) ?_
          refine va_get (pc := 52) (D := G) (ci := 11) (v := .ref (q 10)) (C := RX11) (T := TX11) (N := 45) hx hb hts iw_X11_farness_X11 hown hK hP 0 rfl rfl 13 (by decide) (hts _ (List.mem_of_getElem? (i := 2) rfl)) (fun _ h9 => h9) rfl dX11_farness_52 ?_
          refine lv_iconst (pc := 55) (v := (5 : Int32)) hx hb dX11_farness_55 (by decide) ?_
          refine lv_iload_n (pc := 56) hx hb dX11_farness_56 rfl (lv_at hl 2 rfl) ?_
          refine lv_imul (pc := 57) hx hb dX11_farness_57 ?_
          refine lv_iload_n (pc := 58) hx hb dX11_farness_58 rfl (lv_at hl 3 rfl) ?_
          refine lv_iadd (pc := 59) hx hb dX11_farness_59 ?_
          refine lv_iload_n (pc := 60) hx hb dX11_farness_60 rfl (lv_at hl 4 rfl) ?_
          refine va_iast (pc := 61) hx hb hK hP hD hS 1 0 rfl rfl h_8 dX11_farness_61 (fun H locs hP hD hS => ?_)
          obtain ⟨m_farness_10, em_farness_10⟩ : ∃ z : Nat → Int32, z = upd m_farness (((5 : Int32) * p1) + p2).toNatClampNeg p3 := ⟨_, rfl⟩
          have hP : va_P G vwCl [oX11 q m_kinds m_weighings m_spanLow m_spanHigh m_events m_days m_edges m_crew m_breakages, aI K (q 10) 25 m_farness_10] H := by rw [em_farness_10]; exact hP
          have hD : va_D A [oX11 q m_kinds m_weighings m_spanLow m_spanHigh m_events m_days m_edges m_crew m_breakages, aI K (q 10) 25 m_farness_10] := by rw [em_farness_10]; exact hD
          replace hw := hw m_farness_10 em_farness_10
          refine lv_aload_n (pc := 62) hx hb dX11_farness_62 rfl (lv_at hl 1 rfl) ?_
          refine va_get (pc := 63) (D := G) (ci := 11) (v := .ref (q 10)) (C := RX11) (T := TX11) (N := 45) hx hb hts iw_X11_farness_X11 hown hK hP 0 rfl rfl 13 (by decide) (hts _ (List.mem_of_getElem? (i := 2) rfl)) (fun _ h9 => h9) rfl dX11_farness_63 ?_
          refine lv_iconst (pc := 66) (v := (5 : Int32)) hx hb dX11_farness_66 (by decide) ?_
          refine lv_iload_n (pc := 67) hx hb dX11_farness_67 rfl (lv_at hl 3 rfl) ?_
          refine lv_imul (pc := 68) hx hb dX11_farness_68 ?_
          refine lv_iload_n (pc := 69) hx hb dX11_farness_69 rfl (lv_at hl 2 rfl) ?_
          refine lv_iadd (pc := 70) hx hb dX11_farness_70 ?_
          refine lv_iload_n (pc := 71) hx hb dX11_farness_71 rfl (lv_at hl 4 rfl) ?_
          obtain ⟨h_11, hw⟩ := hw
          refine va_iast (pc := 72) hx hb hK hP hD hS 1 0 rfl rfl h_11 dX11_farness_72 (fun H locs hP hD hS => ?_)
          obtain ⟨m_farness_12, em_farness_12⟩ : ∃ z : Nat → Int32, z = upd m_farness_10 (((5 : Int32) * p2) + p1).toNatClampNeg p3 := ⟨_, rfl⟩
          have hP : va_P G vwCl [oX11 q m_kinds m_weighings m_spanLow m_spanHigh m_events m_days m_edges m_crew m_breakages, aI K (q 10) 25 m_farness_12] H := by rw [em_farness_12]; exact hP
          have hD : va_D A [oX11 q m_kinds m_weighings m_spanLow m_spanHigh m_events m_days m_edges m_crew m_breakages, aI K (q 10) 25 m_farness_12] := by rw [em_farness_12]; exact hD
          replace hw := hw m_farness_12 em_farness_12
          refine lv_iload (pc := 73) hx hb dX11_farness_73 (lv_at hl 0 rfl) ?_
          exact hRetI (S := (Nat → Int32)) m_farness_12 hx hb hr hlocks hQ hw hP hK hD hS dX11_farness_75
        · replace hw := hw.1 c_7
          refine lv_bipush (pc := 36) (v := (-3 : Int32)) hx hb dX11_farness_36 (by decide) ?_
          exact hRetI (S := (Nat → Int32)) m_farness hx hb hr hlocks hQ hw hP hK hD hS dX11_farness_38
      · replace hw := hw.1 c_6
        refine lv_bipush (pc := 28) (v := (-2 : Int32)) hx hb dX11_farness_28 (by decide) ?_
        exact hRetI (S := (Nat → Int32)) m_farness hx hb hr hlocks hQ hw hP hK hD hS dX11_farness_30
    · replace hw := hw.1 c_4
      refine lv_iconst (pc := 14) (v := (-1 : Int32)) hx hb dX11_farness_14 (by decide) ?_
      exact hRetI (S := (Nat → Int32)) m_farness hx hb hr hlocks hQ hw hP hK hD hS dX11_farness_15
def P_X11_event (post : Int32 → Int32 → (Nat → Int32) → (Nat → Int32) → (Nat → Int32) → (Nat → Int32) → Prop) (p1 : Int32) (p2 : Int32) (p3 : Int32) (p4 : Int32) (m_kinds : Int32) (m_events : Int32) (m_eventDay : Nat → Int32) (m_eventHouse : Nat → Int32) (m_eventKind : Nat → Int32) (m_eventNeed : Nat → Int32) : Prop :=
  P_X11_isHouse (fun r_1 => ((r_1 = (0 : Int32) → post (-1 : Int32) m_events m_eventDay m_eventHouse m_eventKind m_eventNeed) ∧ (¬ r_1 = (0 : Int32) → P_X11_isKind (fun r_3 => ((r_3 = (0 : Int32) → post (-1 : Int32) m_events m_eventDay m_eventHouse m_eventKind m_eventNeed) ∧ (¬ r_3 = (0 : Int32) → P_X11_in (fun r_5 => ((r_5 = (0 : Int32) → post (-2 : Int32) m_events m_eventDay m_eventHouse m_eventKind m_eventNeed) ∧ (¬ r_5 = (0 : Int32) → P_X11_in (fun r_7 => ((r_7 = (0 : Int32) → post (-2 : Int32) m_events m_eventDay m_eventHouse m_eventKind m_eventNeed) ∧ (¬ r_7 = (0 : Int32) → ((m_events = (12 : Int32) → post (-4 : Int32) m_events m_eventDay m_eventHouse m_eventKind m_eventNeed) ∧ (¬ m_events = (12 : Int32) → vp_in m_events 12 ∧ ∀ m_eventDay_11 : Nat → Int32, m_eventDay_11 = upd m_eventDay m_events.toNatClampNeg p1 → ∀ m_eventHouse_12 : Nat → Int32, m_eventHouse_12 = upd m_eventHouse m_events.toNatClampNeg p2 → ∀ m_eventKind_13 : Nat → Int32, m_eventKind_13 = upd m_eventKind m_events.toNatClampNeg p3 → ∀ m_eventNeed_14 : Nat → Int32, m_eventNeed_14 = upd m_eventNeed m_events.toNatClampNeg p4 → ∀ y_15 : Int32, y_15 = (m_events + (1 : Int32)) → post (y_15 - (1 : Int32)) y_15 m_eventDay_11 m_eventHouse_12 m_eventKind_13 m_eventNeed_14))))) p4.toInt64 (1 : Int64) (500 : Int64)))) p1.toInt64 (0 : Int64) (999 : Int64)))) p3 m_kinds))) p2
abbrev rm_X11_event : Room := { frames := 2, cells := 0, slots := 0, locals := 46 }
theorem iw_X11_event_X11 : ∀ w ∈ wsX110, w ∈ wsX11_event := by decide +kernel
set_option maxHeartbeats 4000000 in
set_option maxRecDepth 100000 in
theorem c_X11_event (l : Launch) (G : va_G) (K : ClassId × ClassId × ClassId) (tb q : Nat → Nat) (sz : Nat) (m_weighings : Int32) (m_spanLow : Int32) (m_spanHigh : Int32) (m_days : Int32) (m_edges : Int32) (m_crew : Int32) (m_breakages : Int32) (post : Int32 → Int32 → (Nat → Int32) → (Nat → Int32) → (Nat → Int32) → (Nat → Int32) → Prop) (p1 : Int32) (p2 : Int32) (p3 : Int32) (p4 : Int32) (m_kinds : Int32) (m_events : Int32) (m_eventDay : Nat → Int32) (m_eventHouse : Nat → Int32) (m_eventKind : Nat → Int32) (m_eventNeed : Nat → Int32) (hw : P_X11_event post p1 p2 p3 p4 m_kinds m_events m_eventDay m_eventHouse m_eventKind m_eventNeed) : Met l yX11_event wsX11_event rm_X11_event (va_Pc [.ref (q 0), .int p1, .int p2, .int p3, .int p4] (hPre G K tb [oX11 q m_kinds m_weighings m_spanLow m_spanHigh m_events m_days m_edges m_crew m_breakages, aI K (q 11) 12 m_eventDay, aI K (q 12) 12 m_eventHouse, aI K (q 13) 12 m_eventKind, aI K (q 14) 12 m_eventNeed] sz)) (va_Qi (fun (r : Int32) (u : Int32 × (Nat → Int32) × (Nat → Int32) × (Nat → Int32) × (Nat → Int32)) => post r u.1 u.2.1 u.2.2.1 u.2.2.2.1 u.2.2.2.2) (fun u => hB G K (va_A [oX11 q m_kinds m_weighings m_spanLow m_spanHigh m_events m_days m_edges m_crew m_breakages, aI K (q 11) 12 m_eventDay, aI K (q 12) 12 m_eventHouse, aI K (q 13) 12 m_eventKind, aI K (q 14) 12 m_eventNeed] sz) [oX11 q m_kinds m_weighings m_spanLow m_spanHigh u.1 m_days m_edges m_crew m_breakages, aI K (q 11) 12 u.2.1, aI K (q 12) 12 u.2.2.1, aI K (q 13) 12 u.2.2.2.1, aI K (q 14) 12 u.2.2.2.2]) (va_A [oX11 q m_kinds m_weighings m_spanLow m_spanHigh m_events m_days m_edges m_crew m_breakages, aI K (q 11) 12 m_eventDay, aI K (q 12) 12 m_eventHouse, aI K (q 13) 12 m_eventKind, aI K (q 14) 12 m_eventNeed] sz)) 0 0 (va_A [oX11 q m_kinds m_weighings m_spanLow m_spanHigh m_events m_days m_edges m_crew m_breakages, aI K (q 11) 12 m_eventDay, aI K (q 12) 12 m_eventHouse, aI K (q 13) 12 m_eventKind, aI K (q 14) 12 m_eventNeed] sz) := by
  refine hMet (fun A => va_Qi (fun (r : Int32) (u : Int32 × (Nat → Int32) × (Nat → Int32) × (Nat → Int32) × (Nat → Int32)) => post r u.1 u.2.1 u.2.2.1 u.2.2.2.1 u.2.2.2.2) (fun u => hB G K A [oX11 q m_kinds m_weighings m_spanLow m_spanHigh u.1 m_days m_edges m_crew m_breakages, aI K (q 11) 12 u.2.1, aI K (q 12) 12 u.2.2.1, aI K (q 13) 12 u.2.2.2.1, aI K (q 14) 12 u.2.2.2.2]) A) (by decide) rfl (Nat.le_of_ble_eq_true rfl) ?_
  intro p e s m av below meth c A Q ls hx hb hr hml hts hown hlocks hnm hA hP hK hD hS hE hQ hl
  have hts : ∀ w ∈ wsX11_event, w.before av s = true := hts
  have hown : s.vm.findClass RX11 = some m.cls := hown
  have hl : lv_has ls 5 [(0, .ref (q 0)), (1, .int p1), (2, .int p2), (3, .int p3), (4, .int p4)] := hl
  unfold P_X11_event at hw
  refine lv_iload_n (pc := 0) hx hb dX11_event_0 rfl (lv_at hl 2 rfl) ?_
  refine hCallI (pc := 1) (wr := [oX11 q m_kinds m_weighings m_spanLow m_spanHigh m_events m_days m_edges m_crew m_breakages, aI K (q 11) 12 m_eventDay, aI K (q 12) 12 m_eventHouse, aI K (q 13) 12 m_eventKind, aI K (q 14) 12 m_eventNeed]) (wsf := fun (u : Unit) => []) [] [0, 1, 2, 3, 4] (va_runS (As := [.int p2]) (rest := []) ⟨hx, hb, hml, hown, hts⟩ (c_X11_isHouse l G K tb q s.heap.size _ p2 hw) (va_cwS 1 hts gX11_event_X11_isHouse rfl rfl rfl (by decide +kernel) ⟨Nat.le_of_ble_eq_true rfl, Nat.le_of_ble_eq_true rfl⟩) (hPreS hE hP hK hD hS hA [] (by decide) rfl rfl) rfl rfl hl.1 rfl (lv_room (Nat.le_of_ble_eq_true rfl)) dX11_event_1 ⟨Nat.zero_le _, Nat.zero_le _⟩) hP hD hS hA rfl rfl (by decide) (by decide) (fun r_1 u H locs hw hP hD hS => ?_)
  have hP : va_P G vwCl [oX11 q m_kinds m_weighings m_spanLow m_spanHigh m_events m_days m_edges m_crew m_breakages, aI K (q 11) 12 m_eventDay, aI K (q 12) 12 m_eventHouse, aI K (q 13) 12 m_eventKind, aI K (q 14) 12 m_eventNeed] H := hP.sub [0, 1, 2, 3, 4] rfl
  have hD : va_D A [oX11 q m_kinds m_weighings m_spanLow m_spanHigh m_events m_days m_edges m_crew m_breakages, aI K (q 11) 12 m_eventDay, aI K (q 12) 12 m_eventHouse, aI K (q 13) 12 m_eventKind, aI K (q 14) 12 m_eventNeed] := hD.sub [0, 1, 2, 3, 4] (by decide) rfl
  refine lv_if_eq (pc := 4) (tgt := 15) hx hb dX11_event_4 (by decide) (fun c_2 => ?_) (fun c_2 => ?_)
  · replace hw := hw.1 c_2
    refine lv_iconst (pc := 15) (v := (-1 : Int32)) hx hb dX11_event_15 (by decide) ?_
    exact hRetI (S := Int32 × (Nat → Int32) × (Nat → Int32) × (Nat → Int32) × (Nat → Int32)) (m_events, m_eventDay, m_eventHouse, m_eventKind, m_eventNeed) hx hb hr hlocks hQ hw hP hK hD hS dX11_event_16
  · replace hw := hw.2 c_2
    refine lv_aload_n (pc := 7) hx hb dX11_event_7 rfl (lv_at hl 0 rfl) ?_
    refine lv_iload_n (pc := 8) hx hb dX11_event_8 rfl (lv_at hl 3 rfl) ?_
    refine hCallI (pc := 9) (wr := [aI K (q 11) 12 m_eventDay, aI K (q 12) 12 m_eventHouse, aI K (q 13) 12 m_eventKind, aI K (q 14) 12 m_eventNeed]) (wsf := fun (u : Unit) => [oX11 q m_kinds m_weighings m_spanLow m_spanHigh m_events m_days m_edges m_crew m_breakages]) [0] [1, 2, 3, 4] (va_runV (As := [.int p3]) (rest := []) ⟨hx, hb, hml, hown, hts⟩ (c_X11_isKind l G K tb q H.size m_weighings m_spanLow m_spanHigh m_events m_days m_edges m_crew m_breakages _ p3 m_kinds hw) (cwV 1 hts gX11_event_X11_isKind rfl rfl rfl (by decide +kernel) ⟨Nat.le_of_ble_eq_true rfl, Nat.le_of_ble_eq_true rfl⟩) (hPreV hE hP hK hD hS hA [0] (by decide) rfl rfl rfl rfl (q0 := 0) (ci := 11) rfl) rfl rfl hl.1 rfl (lv_room (Nat.le_of_ble_eq_true rfl)) dX11_event_9 ⟨Nat.zero_le _, Nat.zero_le _⟩) hP hD hS hA rfl rfl (by decide) (by decide) (fun r_3 u H locs hw hP hD hS => ?_)
    have hP : va_P G vwCl [oX11 q m_kinds m_weighings m_spanLow m_spanHigh m_events m_days m_edges m_crew m_breakages, aI K (q 11) 12 m_eventDay, aI K (q 12) 12 m_eventHouse, aI K (q 13) 12 m_eventKind, aI K (q 14) 12 m_eventNeed] H := hP.sub [4, 0, 1, 2, 3] rfl
    have hD : va_D A [oX11 q m_kinds m_weighings m_spanLow m_spanHigh m_events m_days m_edges m_crew m_breakages, aI K (q 11) 12 m_eventDay, aI K (q 12) 12 m_eventHouse, aI K (q 13) 12 m_eventKind, aI K (q 14) 12 m_eventNeed] := hD.sub [4, 0, 1, 2, 3] (by decide) rfl
    refine lv_if_ne (pc := 12) (tgt := 17) hx hb dX11_event_12 (by decide) (fun c_4 => ?_) (fun c_4 => ?_)
    · replace hw := hw.2 c_4
      refine lv_iload_n (pc := 17) hx hb dX11_event_17 rfl (lv_at hl 1 rfl) ?_
      refine lv_i2l (pc := 18) hx hb dX11_event_18 rfl ?_
      refine lv_lconst (pc := 19) (v := (0 : Int64)) hx hb dX11_event_19 (by decide) ?_
      refine lv_ldc2 (pc := 20) (v := (999 : Int64)) hx hb hown (hts _ (List.mem_of_getElem? (i := 1) rfl)) dX11_event_20 ?_
      refine hCallI (pc := 23) (wr := [oX11 q m_kinds m_weighings m_spanLow m_spanHigh m_events m_days m_edges m_crew m_breakages, aI K (q 11) 12 m_eventDay, aI K (q 12) 12 m_eventHouse, aI K (q 13) 12 m_eventKind, aI K (q 14) 12 m_eventNeed]) (wsf := fun (u : Unit) => []) [] [0, 1, 2, 3, 4] (va_runS (As := [.long p1.toInt64, .long (0 : Int64), .long (999 : Int64)]) (rest := []) ⟨hx, hb, hml, hown, hts⟩ (c_X11_in l G K tb q H.size _ p1.toInt64 (0 : Int64) (999 : Int64) hw) (va_cwS 3 hts gX11_event_X11_in rfl rfl rfl (by decide +kernel) ⟨Nat.le_of_ble_eq_true rfl, Nat.le_of_ble_eq_true rfl⟩) (hPreS hE hP hK hD hS hA [] (by decide) rfl rfl) rfl rfl hl.1 rfl (lv_room (Nat.le_of_ble_eq_true rfl)) dX11_event_23 ⟨Nat.zero_le _, Nat.zero_le _⟩) hP hD hS hA rfl rfl (by decide) (by decide) (fun r_5 u H locs hw hP hD hS => ?_)
      have hP : va_P G vwCl [oX11 q m_kinds m_weighings m_spanLow m_spanHigh m_events m_days m_edges m_crew m_breakages, aI K (q 11) 12 m_eventDay, aI K (q 12) 12 m_eventHouse, aI K (q 13) 12 m_eventKind, aI K (q 14) 12 m_eventNeed] H := hP.sub [0, 1, 2, 3, 4] rfl
      have hD : va_D A [oX11 q m_kinds m_weighings m_spanLow m_spanHigh m_events m_days m_edges m_crew m_breakages, aI K (q 11) 12 m_eventDay, aI K (q 12) 12 m_eventHouse, aI K (q 13) 12 m_eventKind, aI K (q 14) 12 m_eventNeed] := hD.sub [0, 1, 2, 3, 4] (by decide) rfl
      refine lv_if_eq (pc := 26) (tgt := 42) hx hb dX11_event_26 (by decide) (fun c_6 => ?_) (fun c_6 => ?_)
      · replace hw := hw.1 c_6
        refine lv_bipush (pc := 42) (v := (-2 : Int32)) hx hb dX11_event_42 (by decide) ?_
        exact hRetI (S := Int32 × (Nat → Int32) × (Nat → Int32) × (Nat → Int32) × (Nat → Int32)) (m_events, m_eventDay, m_eventHouse, m_eventKind, m_eventNeed) hx hb hr hlocks hQ hw hP hK hD hS dX11_event_44
      · replace hw := hw.2 c_6
        refine lv_iload (pc := 29) hx hb dX11_event_29 (lv_at hl 4 rfl) ?_
        refine lv_i2l (pc := 31) hx hb dX11_event_31 rfl ?_
        refine lv_lconst (pc := 32) (v := (1 : Int64)) hx hb dX11_event_32 (by decide) ?_
        refine lv_ldc2 (pc := 33) (v := (500 : Int64)) hx hb hown (hts _ (List.mem_of_getElem? (i := 2) rfl)) dX11_event_33 ?_
        refine hCallI (pc := 36) (wr := [oX11 q m_kinds m_weighings m_spanLow m_spanHigh m_events m_days m_edges m_crew m_breakages, aI K (q 11) 12 m_eventDay, aI K (q 12) 12 m_eventHouse, aI K (q 13) 12 m_eventKind, aI K (q 14) 12 m_eventNeed]) (wsf := fun (u : Unit) => []) [] [0, 1, 2, 3, 4] (va_runS (As := [.long p4.toInt64, .long (1 : Int64), .long (500 : Int64)]) (rest := []) ⟨hx, hb, hml, hown, hts⟩ (c_X11_in l G K tb q H.size _ p4.toInt64 (1 : Int64) (500 : Int64) hw) (va_cwS 3 hts gX11_event_X11_in rfl rfl rfl (by decide +kernel) ⟨Nat.le_of_ble_eq_true rfl, Nat.le_of_ble_eq_true rfl⟩) (hPreS hE hP hK hD hS hA [] (by decide) rfl rfl) rfl rfl hl.1 rfl (lv_room (Nat.le_of_ble_eq_true rfl)) dX11_event_36 ⟨Nat.zero_le _, Nat.zero_le _⟩) hP hD hS hA rfl rfl (by decide) (by decide) (fun r_7 u H locs hw hP hD hS => ?_)
        have hP : va_P G vwCl [oX11 q m_kinds m_weighings m_spanLow m_spanHigh m_events m_days m_edges m_crew m_breakages, aI K (q 11) 12 m_eventDay, aI K (q 12) 12 m_eventHouse, aI K (q 13) 12 m_eventKind, aI K (q 14) 12 m_eventNeed] H := hP.sub [0, 1, 2, 3, 4] rfl
        have hD : va_D A [oX11 q m_kinds m_weighings m_spanLow m_spanHigh m_events m_days m_edges m_crew m_breakages, aI K (q 11) 12 m_eventDay, aI K (q 12) 12 m_eventHouse, aI K (q 13) 12 m_eventKind, aI K (q 14) 12 m_eventNeed] := hD.sub [0, 1, 2, 3, 4] (by decide) rfl
        refine lv_if_ne (pc := 39) (tgt := 45) hx hb dX11_event_39 (by decide) (fun c_8 => ?_) (fun c_8 => ?_)
        · replace hw := hw.2 c_8
          refine lv_aload_n (pc := 45) hx hb dX11_event_45 rfl (lv_at hl 0 rfl) ?_
          refine va_get (pc := 46) (D := G) (ci := 11) (v := .int m_events) (C := RX11) (T := TX11) (N := 45) hx hb hts iw_X11_event_X11 hown hK hP 0 rfl rfl 14 (by decide) (hts _ (List.mem_of_getElem? (i := 3) rfl)) (fun _ h9 => h9) rfl dX11_event_46 ?_
          refine lv_bipush (pc := 49) (v := (12 : Int32)) hx hb dX11_event_49 (by decide) ?_
          refine lv_icmp_ne (pc := 51) (tgt := 57) hx hb dX11_event_51 (by decide) (fun c_9 => ?_) (fun c_9 => ?_)
          · replace hw := hw.2 c_9
            refine lv_aload_n (pc := 57) hx hb dX11_event_57 rfl (lv_at hl 0 rfl) ?_
            refine va_get (pc := 58) (D := G) (ci := 11) (v := .ref (q 11)) (C := RX11) (T := TX11) (N := 45) hx hb hts iw_X11_event_X11 hown hK hP 0 rfl rfl 15 (by decide) (hts _ (List.mem_of_getElem? (i := 4) rfl)) (fun _ h9 => h9) rfl dX11_event_58 ?_
            refine lv_aload_n (pc := 61) hx hb dX11_event_61 rfl (lv_at hl 0 rfl) ?_
            refine va_get (pc := 62) (D := G) (ci := 11) (v := .int m_events) (C := RX11) (T := TX11) (N := 45) hx hb hts iw_X11_event_X11 hown hK hP 0 rfl rfl 14 (by decide) (hts _ (List.mem_of_getElem? (i := 3) rfl)) (fun _ h9 => h9) rfl dX11_event_62 ?_
            refine lv_iload_n (pc := 65) hx hb dX11_event_65 rfl (lv_at hl 1 rfl) ?_
            obtain ⟨h_10, hw⟩ := hw
            refine va_iast (pc := 66) hx hb hK hP hD hS 1 0 rfl rfl h_10 dX11_event_66 (fun H locs hP hD hS => ?_)
            obtain ⟨m_eventDay_11, em_eventDay_11⟩ : ∃ z : Nat → Int32, z = upd m_eventDay m_events.toNatClampNeg p1 := ⟨_, rfl⟩
            have hP : va_P G vwCl [oX11 q m_kinds m_weighings m_spanLow m_spanHigh m_events m_days m_edges m_crew m_breakages, aI K (q 11) 12 m_eventDay_11, aI K (q 12) 12 m_eventHouse, aI K (q 13) 12 m_eventKind, aI K (q 14) 12 m_eventNeed] H := by rw [em_eventDay_11]; exact hP
            have hD : va_D A [oX11 q m_kinds m_weighings m_spanLow m_spanHigh m_events m_days m_edges m_crew m_breakages, aI K (q 11) 12 m_eventDay_11, aI K (q 12) 12 m_eventHouse, aI K (q 13) 12 m_eventKind, aI K (q 14) 12 m_eventNeed] := by rw [em_eventDay_11]; exact hD
            replace hw := hw m_eventDay_11 em_eventDay_11
            refine lv_aload_n (pc := 67) hx hb dX11_event_67 rfl (lv_at hl 0 rfl) ?_
            refine va_get (pc := 68) (D := G) (ci := 11) (v := .ref (q 12)) (C := RX11) (T := TX11) (N := 45) hx hb hts iw_X11_event_X11 hown hK hP 0 rfl rfl 16 (by decide) (hts _ (List.mem_of_getElem? (i := 5) rfl)) (fun _ h9 => h9) rfl dX11_event_68 ?_
            refine lv_aload_n (pc := 71) hx hb dX11_event_71 rfl (lv_at hl 0 rfl) ?_
            refine va_get (pc := 72) (D := G) (ci := 11) (v := .int m_events) (C := RX11) (T := TX11) (N := 45) hx hb hts iw_X11_event_X11 hown hK hP 0 rfl rfl 14 (by decide) (hts _ (List.mem_of_getElem? (i := 3) rfl)) (fun _ h9 => h9) rfl dX11_event_72 ?_
            refine lv_iload_n (pc := 75) hx hb dX11_event_75 rfl (lv_at hl 2 rfl) ?_
            refine va_iast (pc := 76) hx hb hK hP hD hS 2 0 rfl rfl h_10 dX11_event_76 (fun H locs hP hD hS => ?_)
            obtain ⟨m_eventHouse_12, em_eventHouse_12⟩ : ∃ z : Nat → Int32, z = upd m_eventHouse m_events.toNatClampNeg p2 := ⟨_, rfl⟩
            have hP : va_P G vwCl [oX11 q m_kinds m_weighings m_spanLow m_spanHigh m_events m_days m_edges m_crew m_breakages, aI K (q 11) 12 m_eventDay_11, aI K (q 12) 12 m_eventHouse_12, aI K (q 13) 12 m_eventKind, aI K (q 14) 12 m_eventNeed] H := by rw [em_eventHouse_12]; exact hP
            have hD : va_D A [oX11 q m_kinds m_weighings m_spanLow m_spanHigh m_events m_days m_edges m_crew m_breakages, aI K (q 11) 12 m_eventDay_11, aI K (q 12) 12 m_eventHouse_12, aI K (q 13) 12 m_eventKind, aI K (q 14) 12 m_eventNeed] := by rw [em_eventHouse_12]; exact hD
            replace hw := hw m_eventHouse_12 em_eventHouse_12
            refine lv_aload_n (pc := 77) hx hb dX11_event_77 rfl (lv_at hl 0 rfl) ?_
            refine va_get (pc := 78) (D := G) (ci := 11) (v := .ref (q 13)) (C := RX11) (T := TX11) (N := 45) hx hb hts iw_X11_event_X11 hown hK hP 0 rfl rfl 17 (by decide) (hts _ (List.mem_of_getElem? (i := 6) rfl)) (fun _ h9 => h9) rfl dX11_event_78 ?_
            refine lv_aload_n (pc := 81) hx hb dX11_event_81 rfl (lv_at hl 0 rfl) ?_
            refine va_get (pc := 82) (D := G) (ci := 11) (v := .int m_events) (C := RX11) (T := TX11) (N := 45) hx hb hts iw_X11_event_X11 hown hK hP 0 rfl rfl 14 (by decide) (hts _ (List.mem_of_getElem? (i := 3) rfl)) (fun _ h9 => h9) rfl dX11_event_82 ?_
            refine lv_iload_n (pc := 85) hx hb dX11_event_85 rfl (lv_at hl 3 rfl) ?_
            refine va_iast (pc := 86) hx hb hK hP hD hS 3 0 rfl rfl h_10 dX11_event_86 (fun H locs hP hD hS => ?_)
            obtain ⟨m_eventKind_13, em_eventKind_13⟩ : ∃ z : Nat → Int32, z = upd m_eventKind m_events.toNatClampNeg p3 := ⟨_, rfl⟩
            have hP : va_P G vwCl [oX11 q m_kinds m_weighings m_spanLow m_spanHigh m_events m_days m_edges m_crew m_breakages, aI K (q 11) 12 m_eventDay_11, aI K (q 12) 12 m_eventHouse_12, aI K (q 13) 12 m_eventKind_13, aI K (q 14) 12 m_eventNeed] H := by rw [em_eventKind_13]; exact hP
            have hD : va_D A [oX11 q m_kinds m_weighings m_spanLow m_spanHigh m_events m_days m_edges m_crew m_breakages, aI K (q 11) 12 m_eventDay_11, aI K (q 12) 12 m_eventHouse_12, aI K (q 13) 12 m_eventKind_13, aI K (q 14) 12 m_eventNeed] := by rw [em_eventKind_13]; exact hD
            replace hw := hw m_eventKind_13 em_eventKind_13
            refine lv_aload_n (pc := 87) hx hb dX11_event_87 rfl (lv_at hl 0 rfl) ?_
            refine va_get (pc := 88) (D := G) (ci := 11) (v := .ref (q 14)) (C := RX11) (T := TX11) (N := 45) hx hb hts iw_X11_event_X11 hown hK hP 0 rfl rfl 18 (by decide) (hts _ (List.mem_of_getElem? (i := 7) rfl)) (fun _ h9 => h9) rfl dX11_event_88 ?_
            refine lv_aload_n (pc := 91) hx hb dX11_event_91 rfl (lv_at hl 0 rfl) ?_
            refine va_get (pc := 92) (D := G) (ci := 11) (v := .int m_events) (C := RX11) (T := TX11) (N := 45) hx hb hts iw_X11_event_X11 hown hK hP 0 rfl rfl 14 (by decide) (hts _ (List.mem_of_getElem? (i := 3) rfl)) (fun _ h9 => h9) rfl dX11_event_92 ?_
            refine lv_iload (pc := 95) hx hb dX11_event_95 (lv_at hl 4 rfl) ?_
            refine va_iast (pc := 97) hx hb hK hP hD hS 4 0 rfl rfl h_10 dX11_event_97 (fun H locs hP hD hS => ?_)
            obtain ⟨m_eventNeed_14, em_eventNeed_14⟩ : ∃ z : Nat → Int32, z = upd m_eventNeed m_events.toNatClampNeg p4 := ⟨_, rfl⟩
            have hP : va_P G vwCl [oX11 q m_kinds m_weighings m_spanLow m_spanHigh m_events m_days m_edges m_crew m_breakages, aI K (q 11) 12 m_eventDay_11, aI K (q 12) 12 m_eventHouse_12, aI K (q 13) 12 m_eventKind_13, aI K (q 14) 12 m_eventNeed_14] H := by rw [em_eventNeed_14]; exact hP
            have hD : va_D A [oX11 q m_kinds m_weighings m_spanLow m_spanHigh m_events m_days m_edges m_crew m_breakages, aI K (q 11) 12 m_eventDay_11, aI K (q 12) 12 m_eventHouse_12, aI K (q 13) 12 m_eventKind_13, aI K (q 14) 12 m_eventNeed_14] := by rw [em_eventNeed_14]; exact hD
            replace hw := hw m_eventNeed_14 em_eventNeed_14
            refine lv_aload_n (pc := 98) hx hb dX11_event_98 rfl (lv_at hl 0 rfl) ?_
            refine lv_dup (pc := 99) hx hb dX11_event_99 rfl ?_
            refine va_get (pc := 100) (D := G) (ci := 11) (v := .int m_events) (C := RX11) (T := TX11) (N := 45) hx hb hts iw_X11_event_X11 hown hK hP 0 rfl rfl 14 (by decide) (hts _ (List.mem_of_getElem? (i := 3) rfl)) (fun _ h9 => h9) rfl dX11_event_100 ?_
            refine lv_iconst (pc := 103) (v := (1 : Int32)) hx hb dX11_event_103 (by decide) ?_
            refine lv_iadd (pc := 104) hx hb dX11_event_104 ?_
            refine lv_topi (fun y_15 ey_15 => ?_)
            replace hw := hw y_15 ey_15
            refine va_put (pc := 105) (D := G) (ci := 11) (v := .int y_15) (ty := .int) (C := RX11) (T := TX11) (N := 45) hx hb hts iw_X11_event_X11 tyX11 tyX11_ok nmX11 hown hK hP hD hS 0 rfl rfl 14 (by decide) (hts _ (List.mem_of_getElem? (i := 3) rfl)) (fun _ h9 => h9) rfl (by decide +kernel) rfl rfl (Nat.le_of_ble_eq_true rfl) dX11_event_105 (fun H locs hP hD hS => ?_)
            have hP : va_P G vwCl [oX11 q m_kinds m_weighings m_spanLow m_spanHigh y_15 m_days m_edges m_crew m_breakages, aI K (q 11) 12 m_eventDay_11, aI K (q 12) 12 m_eventHouse_12, aI K (q 13) 12 m_eventKind_13, aI K (q 14) 12 m_eventNeed_14] H := hP
            have hD : va_D A [oX11 q m_kinds m_weighings m_spanLow m_spanHigh y_15 m_days m_edges m_crew m_breakages, aI K (q 11) 12 m_eventDay_11, aI K (q 12) 12 m_eventHouse_12, aI K (q 13) 12 m_eventKind_13, aI K (q 14) 12 m_eventNeed_14] := hD
            refine lv_aload_n (pc := 108) hx hb dX11_event_108 rfl (lv_at hl 0 rfl) ?_
            refine va_get (pc := 109) (D := G) (ci := 11) (v := .int y_15) (C := RX11) (T := TX11) (N := 45) hx hb hts iw_X11_event_X11 hown hK hP 0 rfl rfl 14 (by decide) (hts _ (List.mem_of_getElem? (i := 3) rfl)) (fun _ h9 => h9) rfl dX11_event_109 ?_
            refine lv_iconst (pc := 112) (v := (1 : Int32)) hx hb dX11_event_112 (by decide) ?_
            refine lv_isub (pc := 113) hx hb dX11_event_113 ?_
            exact hRetI (S := Int32 × (Nat → Int32) × (Nat → Int32) × (Nat → Int32) × (Nat → Int32)) (y_15, m_eventDay_11, m_eventHouse_12, m_eventKind_13, m_eventNeed_14) hx hb hr hlocks hQ hw hP hK hD hS dX11_event_114
          · replace hw := hw.1 c_9
            refine lv_bipush (pc := 54) (v := (-4 : Int32)) hx hb dX11_event_54 (by decide) ?_
            exact hRetI (S := Int32 × (Nat → Int32) × (Nat → Int32) × (Nat → Int32) × (Nat → Int32)) (m_events, m_eventDay, m_eventHouse, m_eventKind, m_eventNeed) hx hb hr hlocks hQ hw hP hK hD hS dX11_event_56
        · replace hw := hw.1 c_8
          refine lv_bipush (pc := 42) (v := (-2 : Int32)) hx hb dX11_event_42 (by decide) ?_
          exact hRetI (S := Int32 × (Nat → Int32) × (Nat → Int32) × (Nat → Int32) × (Nat → Int32)) (m_events, m_eventDay, m_eventHouse, m_eventKind, m_eventNeed) hx hb hr hlocks hQ hw hP hK hD hS dX11_event_44
    · replace hw := hw.1 c_4
      refine lv_iconst (pc := 15) (v := (-1 : Int32)) hx hb dX11_event_15 (by decide) ?_
      exact hRetI (S := Int32 × (Nat → Int32) × (Nat → Int32) × (Nat → Int32) × (Nat → Int32)) (m_events, m_eventDay, m_eventHouse, m_eventKind, m_eventNeed) hx hb hr hlocks hQ hw hP hK hD hS dX11_event_16
def P_X11_off (post : Int32 → (Nat → Int32) → Prop) (p1 : Int32) (m_events : Int32) (m_isOff : Nat → Int32) : Prop :=
  P_X11_in (fun r_1 => ((r_1 = (0 : Int32) → post (-1 : Int32) m_isOff) ∧ (¬ r_1 = (0 : Int32) → vp_in p1 12 ∧ (((m_isOff p1.toNatClampNeg) = (0 : Int32) → ∀ m_isOff_5 : Nat → Int32, m_isOff_5 = upd m_isOff p1.toNatClampNeg (vp_nar .boolean (1 : Int32)) → post (1 : Int32) m_isOff_5) ∧ (¬ (m_isOff p1.toNatClampNeg) = (0 : Int32) → post (-3 : Int32) m_isOff))))) p1.toInt64 (0 : Int64) (m_events - (1 : Int32)).toInt64
abbrev rm_X11_off : Room := { frames := 1, cells := 0, slots := 0, locals := 25 }
theorem iw_X11_off_X11 : ∀ w ∈ wsX110, w ∈ wsX11_off := by decide +kernel
set_option maxHeartbeats 4000000 in
set_option maxRecDepth 100000 in
theorem c_X11_off (l : Launch) (G : va_G) (K : ClassId × ClassId × ClassId) (tb q : Nat → Nat) (sz : Nat) (m_kinds : Int32) (m_weighings : Int32) (m_spanLow : Int32) (m_spanHigh : Int32) (m_days : Int32) (m_edges : Int32) (m_crew : Int32) (m_breakages : Int32) (post : Int32 → (Nat → Int32) → Prop) (p1 : Int32) (m_events : Int32) (m_isOff : Nat → Int32) (hw : P_X11_off post p1 m_events m_isOff) : Met l yX11_off wsX11_off rm_X11_off (va_Pc [.ref (q 0), .int p1] (hPre G K tb [oX11 q m_kinds m_weighings m_spanLow m_spanHigh m_events m_days m_edges m_crew m_breakages, aZ K (q 15) 12 m_isOff] sz)) (va_Qi (fun (r : Int32) (u : (Nat → Int32)) => post r u) (fun u => hB G K (va_A [oX11 q m_kinds m_weighings m_spanLow m_spanHigh m_events m_days m_edges m_crew m_breakages, aZ K (q 15) 12 m_isOff] sz) [oX11 q m_kinds m_weighings m_spanLow m_spanHigh m_events m_days m_edges m_crew m_breakages, aZ K (q 15) 12 u]) (va_A [oX11 q m_kinds m_weighings m_spanLow m_spanHigh m_events m_days m_edges m_crew m_breakages, aZ K (q 15) 12 m_isOff] sz)) 0 0 (va_A [oX11 q m_kinds m_weighings m_spanLow m_spanHigh m_events m_days m_edges m_crew m_breakages, aZ K (q 15) 12 m_isOff] sz) := by
  refine hMet (fun A => va_Qi (fun (r : Int32) (u : (Nat → Int32)) => post r u) (fun u => hB G K A [oX11 q m_kinds m_weighings m_spanLow m_spanHigh m_events m_days m_edges m_crew m_breakages, aZ K (q 15) 12 u]) A) (by decide) rfl (Nat.le_of_ble_eq_true rfl) ?_
  intro p e s m av below meth c A Q ls hx hb hr hml hts hown hlocks hnm hA hP hK hD hS hE hQ hl
  have hts : ∀ w ∈ wsX11_off, w.before av s = true := hts
  have hown : s.vm.findClass RX11 = some m.cls := hown
  have hl : lv_has ls 2 [(0, .ref (q 0)), (1, .int p1)] := hl
  unfold P_X11_off at hw
  refine lv_iload_n (pc := 0) hx hb dX11_off_0 rfl (lv_at hl 1 rfl) ?_
  refine lv_i2l (pc := 1) hx hb dX11_off_1 rfl ?_
  refine lv_lconst (pc := 2) (v := (0 : Int64)) hx hb dX11_off_2 (by decide) ?_
  refine lv_aload_n (pc := 3) hx hb dX11_off_3 rfl (lv_at hl 0 rfl) ?_
  refine va_get (pc := 4) (D := G) (ci := 11) (v := .int m_events) (C := RX11) (T := TX11) (N := 45) hx hb hts iw_X11_off_X11 hown hK hP 0 rfl rfl 14 (by decide) (hts _ (List.mem_of_getElem? (i := 1) rfl)) (fun _ h9 => h9) rfl dX11_off_4 ?_
  refine lv_iconst (pc := 7) (v := (1 : Int32)) hx hb dX11_off_7 (by decide) ?_
  refine lv_isub (pc := 8) hx hb dX11_off_8 ?_
  refine lv_i2l (pc := 9) hx hb dX11_off_9 rfl ?_
  refine hCallI (pc := 10) (wr := [oX11 q m_kinds m_weighings m_spanLow m_spanHigh m_events m_days m_edges m_crew m_breakages, aZ K (q 15) 12 m_isOff]) (wsf := fun (u : Unit) => []) [] [0, 1] (va_runS (As := [.long p1.toInt64, .long (0 : Int64), .long (m_events - (1 : Int32)).toInt64]) (rest := []) ⟨hx, hb, hml, hown, hts⟩ (c_X11_in l G K tb q s.heap.size _ p1.toInt64 (0 : Int64) (m_events - (1 : Int32)).toInt64 hw) (va_cwS 3 hts gX11_off_X11_in rfl rfl rfl (by decide +kernel) ⟨Nat.le_of_ble_eq_true rfl, Nat.le_of_ble_eq_true rfl⟩) (hPreS hE hP hK hD hS hA [] (by decide) rfl rfl) rfl rfl hl.1 rfl (lv_room (Nat.le_of_ble_eq_true rfl)) dX11_off_10 ⟨Nat.zero_le _, Nat.zero_le _⟩) hP hD hS hA rfl rfl (by decide) (by decide) (fun r_1 u H locs hw hP hD hS => ?_)
  have hP : va_P G vwCl [oX11 q m_kinds m_weighings m_spanLow m_spanHigh m_events m_days m_edges m_crew m_breakages, aZ K (q 15) 12 m_isOff] H := hP.sub [0, 1] rfl
  have hD : va_D A [oX11 q m_kinds m_weighings m_spanLow m_spanHigh m_events m_days m_edges m_crew m_breakages, aZ K (q 15) 12 m_isOff] := hD.sub [0, 1] (by decide) rfl
  refine lv_if_ne (pc := 13) (tgt := 18) hx hb dX11_off_13 (by decide) (fun c_2 => ?_) (fun c_2 => ?_)
  · replace hw := hw.2 c_2
    refine lv_aload_n (pc := 18) hx hb dX11_off_18 rfl (lv_at hl 0 rfl) ?_
    refine va_get (pc := 19) (D := G) (ci := 11) (v := .ref (q 15)) (C := RX11) (T := TX11) (N := 45) hx hb hts iw_X11_off_X11 hown hK hP 0 rfl rfl 19 (by decide) (hts _ (List.mem_of_getElem? (i := 2) rfl)) (fun _ h9 => h9) rfl dX11_off_19 ?_
    refine lv_iload_n (pc := 22) hx hb dX11_off_22 rfl (lv_at hl 1 rfl) ?_
    obtain ⟨h_3, hw⟩ := hw
    refine va_zald (pc := 23) hx hb hK hP 1 2 rfl rfl h_3 dX11_off_23 ?_
    refine lv_if_eq (pc := 24) (tgt := 30) hx hb dX11_off_24 (by decide) (fun c_4 => ?_) (fun c_4 => ?_)
    · replace hw := hw.1 c_4
      refine lv_aload_n (pc := 30) hx hb dX11_off_30 rfl (lv_at hl 0 rfl) ?_
      refine va_get (pc := 31) (D := G) (ci := 11) (v := .ref (q 15)) (C := RX11) (T := TX11) (N := 45) hx hb hts iw_X11_off_X11 hown hK hP 0 rfl rfl 19 (by decide) (hts _ (List.mem_of_getElem? (i := 2) rfl)) (fun _ h9 => h9) rfl dX11_off_31 ?_
      refine lv_iload_n (pc := 34) hx hb dX11_off_34 rfl (lv_at hl 1 rfl) ?_
      refine lv_iconst (pc := 35) (v := (1 : Int32)) hx hb dX11_off_35 (by decide) ?_
      refine va_zast (pc := 36) hx hb hK hP hD hS 1 2 rfl rfl h_3 dX11_off_36 (fun H locs hP hD hS => ?_)
      obtain ⟨m_isOff_5, em_isOff_5⟩ : ∃ z : Nat → Int32, z = upd m_isOff p1.toNatClampNeg (vp_nar .boolean (1 : Int32)) := ⟨_, rfl⟩
      have hP : va_P G vwCl [oX11 q m_kinds m_weighings m_spanLow m_spanHigh m_events m_days m_edges m_crew m_breakages, aZ K (q 15) 12 m_isOff_5] H := by rw [em_isOff_5]; exact hP
      have hD : va_D A [oX11 q m_kinds m_weighings m_spanLow m_spanHigh m_events m_days m_edges m_crew m_breakages, aZ K (q 15) 12 m_isOff_5] := by rw [em_isOff_5]; exact hD
      replace hw := hw m_isOff_5 em_isOff_5
      refine lv_iconst (pc := 37) (v := (1 : Int32)) hx hb dX11_off_37 (by decide) ?_
      exact hRetI (S := (Nat → Int32)) m_isOff_5 hx hb hr hlocks hQ hw hP hK hD hS dX11_off_38
    · replace hw := hw.2 c_4
      refine lv_bipush (pc := 27) (v := (-3 : Int32)) hx hb dX11_off_27 (by decide) ?_
      exact hRetI (S := (Nat → Int32)) m_isOff hx hb hr hlocks hQ hw hP hK hD hS dX11_off_29
  · replace hw := hw.1 c_2
    refine lv_iconst (pc := 16) (v := (-1 : Int32)) hx hb dX11_off_16 (by decide) ?_
    exact hRetI (S := (Nat → Int32)) m_isOff hx hb hr hlocks hQ hw hP hK hD hS dX11_off_17
