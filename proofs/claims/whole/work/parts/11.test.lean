def P_X10_within (post : Int32 → Prop) (p0 : Int32) (p1 : Int32) (p2 : Int32) : Prop :=
  ∀ v_3 : Int32, v_3 = (if p0 < p1 then (0 : Int32) else (if p2 < p0 then (0 : Int32) else (1 : Int32))) → post v_3
abbrev rm_X10_within : Room := { frames := 0, cells := 0, slots := 0, locals := 0 }
set_option maxHeartbeats 4000000 in
set_option maxRecDepth 100000 in
theorem c_X10_within (l : Launch) (G : va_G) (K : ClassId × ClassId × ClassId) (tb q : Nat → Nat) (sz : Nat) (post : Int32 → Prop) (p0 : Int32) (p1 : Int32) (p2 : Int32) (hw : P_X10_within post p0 p1 p2) : Met l yX10_within wsX10_within rm_X10_within (va_Pc [.int p0, .int p1, .int p2] (hPre G K tb [] sz)) (va_Qi (fun (r : Int32) (u : Unit) => post r) (fun u => hB G K (va_A [] sz) []) (va_A [] sz)) 0 0 (va_A [] sz) := by
  refine hMet (fun A => va_Qi (fun (r : Int32) (u : Unit) => post r) (fun u => hB G K A []) A) (by decide) rfl (Nat.le_of_ble_eq_true rfl) ?_
  intro p e s m av below meth c A Q ls hx hb hr hml hts hown hlocks hnm hA hP hK hD hS hE hQ hl
  have hts : ∀ w ∈ wsX10_within, w.before av s = true := hts
  have hown : s.vm.findClass RX10 = some m.cls := hown
  have hl : lv_has ls 3 [(0, .int p0), (1, .int p1), (2, .int p2)] := hl
  unfold P_X10_within at hw
  refine lv_iload_n (pc := 0) hx hb dX10_within_0 rfl (lv_at hl 0 rfl) ?_
  refine lv_iload_n (pc := 1) hx hb dX10_within_1 rfl (lv_at hl 1 rfl) ?_
  have K_v_3 : ∀ v_3 : Int32, v_3 = (if p0 < p1 then (0 : Int32) else (if p2 < p0 then (0 : Int32) else (1 : Int32))) → W p l e rm_X10_within s m av below meth c s.heap [] 0 0 Q (F0 m 15 ls [.int v_3]) := by
    intro v_3 ev_3
    replace hw := hw v_3 ev_3
    exact hRetZ (S := Unit) () hx hb hr hlocks hQ (by rw [ev_3]; (repeat' split) <;> first | exact Or.inl rfl | exact Or.inr rfl) hw hP hK hD hS dX10_within_15
  refine lv_icmp_lt (pc := 2) (tgt := 14) hx hb dX10_within_2 (by decide) (fun c_1 => ?_) (fun c_1 => ?_)
  · skip
    refine lv_iconst (pc := 14) (v := (0 : Int32)) hx hb dX10_within_14 (by decide) ?_
    exact K_v_3 _ (by rw [if_pos c_1])
  · skip
    refine lv_iload_n (pc := 5) hx hb dX10_within_5 rfl (lv_at hl 0 rfl) ?_
    refine lv_iload_n (pc := 6) hx hb dX10_within_6 rfl (lv_at hl 2 rfl) ?_
    refine lv_icmp_gt (pc := 7) (tgt := 14) hx hb dX10_within_7 (by decide) (fun c_2 => ?_) (fun c_2 => ?_)
    · skip
      refine lv_iconst (pc := 14) (v := (0 : Int32)) hx hb dX10_within_14 (by decide) ?_
      exact K_v_3 _ (by rw [if_neg c_1, if_pos c_2])
    · skip
      refine lv_iconst (pc := 10) (v := (1 : Int32)) hx hb dX10_within_10 (by decide) ?_
      refine lv_goto (pc := 11) (tgt := 15) hx hb dX10_within_11 (by decide) ?_
      exact K_v_3 _ (by rw [if_neg c_1, if_neg c_2])
def P_X4_has (post : Int32 → Prop) (p1 : Int32) (kd_size : Int32) : Prop :=
  P_X10_within (fun r_1 => (r_1 = 0 ∨ r_1 = 1) ∧ post r_1) p1 (0 : Int32) (kd_size - (1 : Int32))
abbrev rm_X4_has : Room := { frames := 1, cells := 0, slots := 0, locals := 22 }
theorem iw_X4_has_X4 : ∀ w ∈ wsX40, w ∈ wsX4_has := by decide +kernel
set_option maxHeartbeats 4000000 in
set_option maxRecDepth 100000 in
theorem c_X4_has (l : Launch) (G : va_G) (K : ClassId × ClassId × ClassId) (tb q : Nat → Nat) (sz : Nat) (post : Int32 → Prop) (p1 : Int32) (kd_size : Int32) (hw : P_X4_has post p1 kd_size) : Met l yX4_has wsX4_has rm_X4_has (va_Pc [.ref (q 1), .int p1] (hPre G K tb [oX4 q kd_size] sz)) (va_Qi (fun (r : Int32) (u : Unit) => post r) (fun u => hB G K (va_A [oX4 q kd_size] sz) [oX4 q kd_size]) (va_A [oX4 q kd_size] sz)) 0 0 (va_A [oX4 q kd_size] sz) := by
  refine hMet (fun A => va_Qi (fun (r : Int32) (u : Unit) => post r) (fun u => hB G K A [oX4 q kd_size]) A) (by decide) rfl (Nat.le_of_ble_eq_true rfl) ?_
  intro p e s m av below meth c A Q ls hx hb hr hml hts hown hlocks hnm hA hP hK hD hS hE hQ hl
  have hts : ∀ w ∈ wsX4_has, w.before av s = true := hts
  have hown : s.vm.findClass RX4 = some m.cls := hown
  have hl : lv_has ls 2 [(0, .ref (q 1)), (1, .int p1)] := hl
  unfold P_X4_has at hw
  refine lv_iload_n (pc := 0) hx hb dX4_has_0 rfl (lv_at hl 1 rfl) ?_
  refine lv_iconst (pc := 1) (v := (0 : Int32)) hx hb dX4_has_1 (by decide) ?_
  refine lv_aload_n (pc := 2) hx hb dX4_has_2 rfl (lv_at hl 0 rfl) ?_
  refine va_get (pc := 3) (D := G) (ci := 4) (v := .int kd_size) (C := RX4) (T := TX4) (N := 3) hx hb hts iw_X4_has_X4 hown hK hP 0 rfl rfl 2 (by decide) (hts _ (List.mem_of_getElem? (i := 1) rfl)) (fun _ h9 => h9) rfl dX4_has_3 ?_
  refine lv_iconst (pc := 6) (v := (1 : Int32)) hx hb dX4_has_6 (by decide) ?_
  refine lv_isub (pc := 7) hx hb dX4_has_7 ?_
  refine hCallI (pc := 8) (wr := [oX4 q kd_size]) (wsf := fun (u : Unit) => []) [] [0] (va_runSN (As := [.int p1, .int (0 : Int32), .int (kd_size - (1 : Int32))]) (rest := []) ⟨hx, hb, hml, hown, hts⟩ (c_X10_within l G K tb q s.heap.size _ p1 (0 : Int32) (kd_size - (1 : Int32)) hw) ⟨va_cnB 3 hts gX4_has_X10_within_n22 rfl rfl rfl (hE.nw 30 rfl) (hts _ (List.mem_of_getElem? (i := 3) rfl)) (by decide +kernel) ⟨Nat.le_of_ble_eq_true rfl, Nat.le_of_ble_eq_true rfl⟩, (hts _ (List.mem_of_getElem? (i := 2) rfl)), trivial⟩ (hPreS hE hP hK hD hS hA [] (by decide) rfl rfl) rfl rfl hl.1 rfl (lv_room (Nat.le_of_ble_eq_true rfl)) dX4_has_8 ⟨Nat.zero_le _, Nat.zero_le _⟩) hP hD hS hA rfl rfl (by decide) (by decide) (fun r_1 u H locs hw hP hD hS => ?_)
  have hP : va_P G vwCl [oX4 q kd_size] H := hP.sub [0] rfl
  have hD : va_D A [oX4 q kd_size] := hD.sub [0] (by decide) rfl
  obtain ⟨h_2, hw⟩ := hw
  exact hRetZ (S := Unit) () hx hb hr hlocks hQ h_2 hw hP hK hD hS dX4_has_11
def P_X4_add (post : Int32 → (Nat → Int32) → (Nat → Int32) → Int32 → Prop) (p1 : Int32) (p2 : Int32) (kd_low : Nat → Int32) (kd_high : Nat → Int32) (kd_size : Int32) : Prop :=
  vp_in kd_size 6 ∧ ∀ kd_low_2 : Nat → Int32, kd_low_2 = upd kd_low kd_size.toNatClampNeg p1 → ∀ kd_high_3 : Nat → Int32, kd_high_3 = upd kd_high kd_size.toNatClampNeg p2 → ∀ y_4 : Int32, y_4 = (kd_size + (1 : Int32)) → post (y_4 - (1 : Int32)) kd_low_2 kd_high_3 y_4
abbrev rm_X4_add : Room := { frames := 0, cells := 0, slots := 0, locals := 0 }
theorem iw_X4_add_X4 : ∀ w ∈ wsX40, w ∈ wsX4_add := by decide +kernel
set_option maxHeartbeats 4000000 in
set_option maxRecDepth 100000 in
theorem c_X4_add (l : Launch) (G : va_G) (K : ClassId × ClassId × ClassId) (tb q : Nat → Nat) (sz : Nat) (post : Int32 → (Nat → Int32) → (Nat → Int32) → Int32 → Prop) (p1 : Int32) (p2 : Int32) (kd_low : Nat → Int32) (kd_high : Nat → Int32) (kd_size : Int32) (hw : P_X4_add post p1 p2 kd_low kd_high kd_size) : Met l yX4_add wsX4_add rm_X4_add (va_Pc [.ref (q 1), .int p1, .int p2] (hPre G K tb [oX4 q kd_size, aI K (q 2) 6 kd_low, aI K (q 3) 6 kd_high] sz)) (va_Qi (fun (r : Int32) (u : (Nat → Int32) × (Nat → Int32) × Int32) => post r u.1 u.2.1 u.2.2) (fun u => hB G K (va_A [oX4 q kd_size, aI K (q 2) 6 kd_low, aI K (q 3) 6 kd_high] sz) [oX4 q u.2.2, aI K (q 2) 6 u.1, aI K (q 3) 6 u.2.1]) (va_A [oX4 q kd_size, aI K (q 2) 6 kd_low, aI K (q 3) 6 kd_high] sz)) 0 0 (va_A [oX4 q kd_size, aI K (q 2) 6 kd_low, aI K (q 3) 6 kd_high] sz) := by
  refine hMet (fun A => va_Qi (fun (r : Int32) (u : (Nat → Int32) × (Nat → Int32) × Int32) => post r u.1 u.2.1 u.2.2) (fun u => hB G K A [oX4 q u.2.2, aI K (q 2) 6 u.1, aI K (q 3) 6 u.2.1]) A) (by decide) rfl (Nat.le_of_ble_eq_true rfl) ?_
  intro p e s m av below meth c A Q ls hx hb hr hml hts hown hlocks hnm hA hP hK hD hS hE hQ hl
  have hts : ∀ w ∈ wsX4_add, w.before av s = true := hts
  have hown : s.vm.findClass RX4 = some m.cls := hown
  have hl : lv_has ls 3 [(0, .ref (q 1)), (1, .int p1), (2, .int p2)] := hl
  unfold P_X4_add at hw
  refine lv_aload_n (pc := 0) hx hb dX4_add_0 rfl (lv_at hl 0 rfl) ?_
  refine va_get (pc := 1) (D := G) (ci := 4) (v := .ref (q 2)) (C := RX4) (T := TX4) (N := 3) hx hb hts iw_X4_add_X4 hown hK hP 0 rfl rfl 0 (by decide) (hts _ (List.mem_of_getElem? (i := 1) rfl)) (fun _ h9 => h9) rfl dX4_add_1 ?_
  refine lv_aload_n (pc := 4) hx hb dX4_add_4 rfl (lv_at hl 0 rfl) ?_
  refine va_get (pc := 5) (D := G) (ci := 4) (v := .int kd_size) (C := RX4) (T := TX4) (N := 3) hx hb hts iw_X4_add_X4 hown hK hP 0 rfl rfl 2 (by decide) (hts _ (List.mem_of_getElem? (i := 2) rfl)) (fun _ h9 => h9) rfl dX4_add_5 ?_
  refine lv_iload_n (pc := 8) hx hb dX4_add_8 rfl (lv_at hl 1 rfl) ?_
  obtain ⟨h_1, hw⟩ := hw
  refine va_iast (pc := 9) hx hb hK hP hD hS 1 0 rfl rfl h_1 dX4_add_9 (fun H locs hP hD hS => ?_)
  obtain ⟨kd_low_2, ekd_low_2⟩ : ∃ z : Nat → Int32, z = upd kd_low kd_size.toNatClampNeg p1 := ⟨_, rfl⟩
  have hP : va_P G vwCl [oX4 q kd_size, aI K (q 2) 6 kd_low_2, aI K (q 3) 6 kd_high] H := by rw [ekd_low_2]; exact hP
  have hD : va_D A [oX4 q kd_size, aI K (q 2) 6 kd_low_2, aI K (q 3) 6 kd_high] := by rw [ekd_low_2]; exact hD
  replace hw := hw kd_low_2 ekd_low_2
  refine lv_aload_n (pc := 10) hx hb dX4_add_10 rfl (lv_at hl 0 rfl) ?_
  refine va_get (pc := 11) (D := G) (ci := 4) (v := .ref (q 3)) (C := RX4) (T := TX4) (N := 3) hx hb hts iw_X4_add_X4 hown hK hP 0 rfl rfl 1 (by decide) (hts _ (List.mem_of_getElem? (i := 3) rfl)) (fun _ h9 => h9) rfl dX4_add_11 ?_
  refine lv_aload_n (pc := 14) hx hb dX4_add_14 rfl (lv_at hl 0 rfl) ?_
  refine va_get (pc := 15) (D := G) (ci := 4) (v := .int kd_size) (C := RX4) (T := TX4) (N := 3) hx hb hts iw_X4_add_X4 hown hK hP 0 rfl rfl 2 (by decide) (hts _ (List.mem_of_getElem? (i := 2) rfl)) (fun _ h9 => h9) rfl dX4_add_15 ?_
  refine lv_iload_n (pc := 18) hx hb dX4_add_18 rfl (lv_at hl 2 rfl) ?_
  refine va_iast (pc := 19) hx hb hK hP hD hS 2 0 rfl rfl h_1 dX4_add_19 (fun H locs hP hD hS => ?_)
  obtain ⟨kd_high_3, ekd_high_3⟩ : ∃ z : Nat → Int32, z = upd kd_high kd_size.toNatClampNeg p2 := ⟨_, rfl⟩
  have hP : va_P G vwCl [oX4 q kd_size, aI K (q 2) 6 kd_low_2, aI K (q 3) 6 kd_high_3] H := by rw [ekd_high_3]; exact hP
  have hD : va_D A [oX4 q kd_size, aI K (q 2) 6 kd_low_2, aI K (q 3) 6 kd_high_3] := by rw [ekd_high_3]; exact hD
  replace hw := hw kd_high_3 ekd_high_3
  refine lv_aload_n (pc := 20) hx hb dX4_add_20 rfl (lv_at hl 0 rfl) ?_
  refine lv_dup (pc := 21) hx hb dX4_add_21 rfl ?_
  refine va_get (pc := 22) (D := G) (ci := 4) (v := .int kd_size) (C := RX4) (T := TX4) (N := 3) hx hb hts iw_X4_add_X4 hown hK hP 0 rfl rfl 2 (by decide) (hts _ (List.mem_of_getElem? (i := 2) rfl)) (fun _ h9 => h9) rfl dX4_add_22 ?_
  refine lv_iconst (pc := 25) (v := (1 : Int32)) hx hb dX4_add_25 (by decide) ?_
  refine lv_iadd (pc := 26) hx hb dX4_add_26 ?_
  refine lv_topi (fun y_4 ey_4 => ?_)
  replace hw := hw y_4 ey_4
  refine va_put (pc := 27) (D := G) (ci := 4) (v := .int y_4) (ty := .int) (C := RX4) (T := TX4) (N := 3) hx hb hts iw_X4_add_X4 tyX4 tyX4_ok nmX4 hown hK hP hD hS 0 rfl rfl 2 (by decide) (hts _ (List.mem_of_getElem? (i := 2) rfl)) (fun _ h9 => h9) rfl (by decide +kernel) rfl rfl (Nat.le_of_ble_eq_true rfl) dX4_add_27 (fun H locs hP hD hS => ?_)
  have hP : va_P G vwCl [oX4 q y_4, aI K (q 2) 6 kd_low_2, aI K (q 3) 6 kd_high_3] H := hP
  have hD : va_D A [oX4 q y_4, aI K (q 2) 6 kd_low_2, aI K (q 3) 6 kd_high_3] := hD
  refine lv_aload_n (pc := 30) hx hb dX4_add_30 rfl (lv_at hl 0 rfl) ?_
  refine va_get (pc := 31) (D := G) (ci := 4) (v := .int y_4) (C := RX4) (T := TX4) (N := 3) hx hb hts iw_X4_add_X4 hown hK hP 0 rfl rfl 2 (by decide) (hts _ (List.mem_of_getElem? (i := 2) rfl)) (fun _ h9 => h9) rfl dX4_add_31 ?_
  refine lv_iconst (pc := 34) (v := (1 : Int32)) hx hb dX4_add_34 (by decide) ?_
  refine lv_isub (pc := 35) hx hb dX4_add_35 ?_
  exact hRetI (S := (Nat → Int32) × (Nat → Int32) × Int32) (kd_low_2, kd_high_3, y_4) hx hb hr hlocks hQ hw hP hK hD hS dX4_add_36
def P_X4_mostWithin (post : Int32 → Prop) (p1 : Int32) (p2 : Int32) (kd_low : Nat → Int32) : Prop :=
  vp_in p1 6 ∧ ∀ y_2 : Int32, y_2 = (kd_low p1.toNatClampNeg) → ((p2 < (0 : Int32) → True) ∧ (¬ p2 < (0 : Int32) → (((1 : Int32) ≤ y_2 → (¬ y_2 = 0 ∧ True)) ∧ (¬ (1 : Int32) ≤ y_2 → True)))) ∧ ∀ v_6 : Int32, v_6 = (if p2 < (0 : Int32) then (-1 : Int32) else (if (1 : Int32) ≤ y_2 then (p2 / y_2) else (-1 : Int32))) → post v_6
abbrev rm_X4_mostWithin : Room := { frames := 0, cells := 0, slots := 0, locals := 0 }
theorem iw_X4_mostWithin_X4 : ∀ w ∈ wsX40, w ∈ wsX4_mostWithin := by decide +kernel
set_option maxHeartbeats 4000000 in
set_option maxRecDepth 100000 in
theorem c_X4_mostWithin (l : Launch) (G : va_G) (K : ClassId × ClassId × ClassId) (tb q : Nat → Nat) (sz : Nat) (kd_size : Int32) (post : Int32 → Prop) (p1 : Int32) (p2 : Int32) (kd_low : Nat → Int32) (hw : P_X4_mostWithin post p1 p2 kd_low) : Met l yX4_mostWithin wsX4_mostWithin rm_X4_mostWithin (va_Pc [.ref (q 1), .int p1, .int p2] (hPre G K tb [oX4 q kd_size, aI K (q 2) 6 kd_low] sz)) (va_Qi (fun (r : Int32) (u : Unit) => post r) (fun u => hB G K (va_A [oX4 q kd_size, aI K (q 2) 6 kd_low] sz) [oX4 q kd_size, aI K (q 2) 6 kd_low]) (va_A [oX4 q kd_size, aI K (q 2) 6 kd_low] sz)) 0 0 (va_A [oX4 q kd_size, aI K (q 2) 6 kd_low] sz) := by
  refine hMet (fun A => va_Qi (fun (r : Int32) (u : Unit) => post r) (fun u => hB G K A [oX4 q kd_size, aI K (q 2) 6 kd_low]) A) (by decide) rfl (Nat.le_of_ble_eq_true rfl) ?_
  intro p e s m av below meth c A Q ls hx hb hr hml hts hown hlocks hnm hA hP hK hD hS hE hQ hl
  have hts : ∀ w ∈ wsX4_mostWithin, w.before av s = true := hts
  have hown : s.vm.findClass RX4 = some m.cls := hown
  have hl : lv_has ls 4 [(0, .ref (q 1)), (1, .int p1), (2, .int p2)] := hl
  unfold P_X4_mostWithin at hw
  refine lv_aload_n (pc := 0) hx hb dX4_mostWithin_0 rfl (lv_at hl 0 rfl) ?_
  refine va_get (pc := 1) (D := G) (ci := 4) (v := .ref (q 2)) (C := RX4) (T := TX4) (N := 3) hx hb hts iw_X4_mostWithin_X4 hown hK hP 0 rfl rfl 0 (by decide) (hts _ (List.mem_of_getElem? (i := 1) rfl)) (fun _ h9 => h9) rfl dX4_mostWithin_1 ?_
  refine lv_iload_n (pc := 4) hx hb dX4_mostWithin_4 rfl (lv_at hl 1 rfl) ?_
  obtain ⟨h_1, hw⟩ := hw
  refine va_iald (pc := 5) hx hb hK hP 1 0 rfl rfl h_1 dX4_mostWithin_5 ?_
  refine lv_topi (fun y_2 ey_2 => ?_)
  replace hw := hw y_2 ey_2
  refine lv_istore_n (pc := 6) (lv' := [(3, .int y_2), (0, .ref (q 1)), (1, .int p1), (2, .int p2)]) hx hb dX4_mostWithin_6 rfl hl (by decide) rfl (fun ls hl => ?_)
  refine lv_iload_n (pc := 7) hx hb dX4_mostWithin_7 rfl (lv_at hl 3 rfl) ?_
  obtain ⟨hsf, hw⟩ := hw
  have K_v_6 : ∀ v_6 : Int32, v_6 = (if p2 < (0 : Int32) then (-1 : Int32) else (if (1 : Int32) ≤ y_2 then (p2 / y_2) else (-1 : Int32))) → W p l e rm_X4_mostWithin s m av below meth c s.heap [] 0 0 Q (F0 m 23 ls [.int v_6]) := by
    intro v_6 ev_6
    replace hw := hw v_6 ev_6
    exact hRetI (S := Unit) () hx hb hr hlocks hQ hw hP hK hD hS dX4_mostWithin_23
  refine lv_if_lt (pc := 8) (tgt := 16) hx hb dX4_mostWithin_8 (by decide) (fun c_3 => ?_) (fun c_3 => ?_)
  · replace hsf := hsf.1 c_3
    refine lv_iconst (pc := 16) (v := (-1 : Int32)) hx hb dX4_mostWithin_16 (by decide) ?_
    refine lv_goto (pc := 17) (tgt := 23) hx hb dX4_mostWithin_17 (by decide) ?_
    exact K_v_6 _ (by rw [if_pos c_3])
  · replace hsf := hsf.2 c_3
    refine lv_iload_n (pc := 11) hx hb dX4_mostWithin_11 rfl (lv_at hl 0 rfl) ?_
    refine lv_iconst (pc := 12) (v := (1 : Int32)) hx hb dX4_mostWithin_12 (by decide) ?_
    refine lv_icmp_ge (pc := 13) (tgt := 20) hx hb dX4_mostWithin_13 (by decide) (fun c_4 => ?_) (fun c_4 => ?_)
    · replace hsf := hsf.1 c_4
      refine lv_iload_n (pc := 20) hx hb dX4_mostWithin_20 rfl (lv_at hl 3 rfl) ?_
      refine lv_iload_n (pc := 21) hx hb dX4_mostWithin_21 rfl (lv_at hl 0 rfl) ?_
      obtain ⟨h_5, hsf⟩ := hsf
      refine lv_idiv (pc := 22) hx hb dX4_mostWithin_22 h_5 ?_
      exact K_v_6 _ (by rw [if_neg c_3, if_pos c_4])
    · replace hsf := hsf.2 c_4
      refine lv_iconst (pc := 16) (v := (-1 : Int32)) hx hb dX4_mostWithin_16 (by decide) ?_
      refine lv_goto (pc := 17) (tgt := 23) hx hb dX4_mostWithin_17 (by decide) ?_
      exact K_v_6 _ (by rw [if_neg c_3, if_neg c_4])
def P_X4_fewestReaching (post : Int32 → Prop) (p1 : Int32) (p2 : Int32) (kd_high : Nat → Int32) : Prop :=
  vp_in p1 6 ∧ ∀ y_2 : Int32, y_2 = (kd_high p1.toNatClampNeg) → ((p2 ≤ (0 : Int32) → True) ∧ (¬ p2 ≤ (0 : Int32) → (((1 : Int32) ≤ y_2 → (¬ y_2 = 0 ∧ True)) ∧ (¬ (1 : Int32) ≤ y_2 → True)))) ∧ ∀ v_6 : Int32, v_6 = (if p2 ≤ (0 : Int32) then (0 : Int32) else (if (1 : Int32) ≤ y_2 then (((p2 + y_2) - (1 : Int32)) / y_2) else (0 : Int32))) → post v_6
abbrev rm_X4_fewestReaching : Room := { frames := 0, cells := 0, slots := 0, locals := 0 }
theorem iw_X4_fewestReaching_X4 : ∀ w ∈ wsX40, w ∈ wsX4_fewestReaching := by decide +kernel
set_option maxHeartbeats 4000000 in
set_option maxRecDepth 100000 in
theorem c_X4_fewestReaching (l : Launch) (G : va_G) (K : ClassId × ClassId × ClassId) (tb q : Nat → Nat) (sz : Nat) (kd_size : Int32) (post : Int32 → Prop) (p1 : Int32) (p2 : Int32) (kd_high : Nat → Int32) (hw : P_X4_fewestReaching post p1 p2 kd_high) : Met l yX4_fewestReaching wsX4_fewestReaching rm_X4_fewestReaching (va_Pc [.ref (q 1), .int p1, .int p2] (hPre G K tb [oX4 q kd_size, aI K (q 3) 6 kd_high] sz)) (va_Qi (fun (r : Int32) (u : Unit) => post r) (fun u => hB G K (va_A [oX4 q kd_size, aI K (q 3) 6 kd_high] sz) [oX4 q kd_size, aI K (q 3) 6 kd_high]) (va_A [oX4 q kd_size, aI K (q 3) 6 kd_high] sz)) 0 0 (va_A [oX4 q kd_size, aI K (q 3) 6 kd_high] sz) := by
  refine hMet (fun A => va_Qi (fun (r : Int32) (u : Unit) => post r) (fun u => hB G K A [oX4 q kd_size, aI K (q 3) 6 kd_high]) A) (by decide) rfl (Nat.le_of_ble_eq_true rfl) ?_
  intro p e s m av below meth c A Q ls hx hb hr hml hts hown hlocks hnm hA hP hK hD hS hE hQ hl
  have hts : ∀ w ∈ wsX4_fewestReaching, w.before av s = true := hts
  have hown : s.vm.findClass RX4 = some m.cls := hown
  have hl : lv_has ls 4 [(0, .ref (q 1)), (1, .int p1), (2, .int p2)] := hl
  unfold P_X4_fewestReaching at hw
  refine lv_aload_n (pc := 0) hx hb dX4_fewestReaching_0 rfl (lv_at hl 0 rfl) ?_
  refine va_get (pc := 1) (D := G) (ci := 4) (v := .ref (q 3)) (C := RX4) (T := TX4) (N := 3) hx hb hts iw_X4_fewestReaching_X4 hown hK hP 0 rfl rfl 1 (by decide) (hts _ (List.mem_of_getElem? (i := 1) rfl)) (fun _ h9 => h9) rfl dX4_fewestReaching_1 ?_
  refine lv_iload_n (pc := 4) hx hb dX4_fewestReaching_4 rfl (lv_at hl 1 rfl) ?_
  obtain ⟨h_1, hw⟩ := hw
  refine va_iald (pc := 5) hx hb hK hP 1 0 rfl rfl h_1 dX4_fewestReaching_5 ?_
  refine lv_topi (fun y_2 ey_2 => ?_)
  replace hw := hw y_2 ey_2
  refine lv_istore_n (pc := 6) (lv' := [(3, .int y_2), (0, .ref (q 1)), (1, .int p1), (2, .int p2)]) hx hb dX4_fewestReaching_6 rfl hl (by decide) rfl (fun ls hl => ?_)
  refine lv_iload_n (pc := 7) hx hb dX4_fewestReaching_7 rfl (lv_at hl 3 rfl) ?_
  obtain ⟨hsf, hw⟩ := hw
  have K_v_6 : ∀ v_6 : Int32, v_6 = (if p2 ≤ (0 : Int32) then (0 : Int32) else (if (1 : Int32) ≤ y_2 then (((p2 + y_2) - (1 : Int32)) / y_2) else (0 : Int32))) → W p l e rm_X4_fewestReaching s m av below meth c s.heap [] 0 0 Q (F0 m 27 ls [.int v_6]) := by
    intro v_6 ev_6
    replace hw := hw v_6 ev_6
    exact hRetI (S := Unit) () hx hb hr hlocks hQ hw hP hK hD hS dX4_fewestReaching_27
  refine lv_if_le (pc := 8) (tgt := 16) hx hb dX4_fewestReaching_8 (by decide) (fun c_3 => ?_) (fun c_3 => ?_)
  · replace hsf := hsf.1 c_3
    refine lv_iconst (pc := 16) (v := (0 : Int32)) hx hb dX4_fewestReaching_16 (by decide) ?_
    refine lv_goto (pc := 17) (tgt := 27) hx hb dX4_fewestReaching_17 (by decide) ?_
    exact K_v_6 _ (by rw [if_pos c_3])
  · replace hsf := hsf.2 c_3
    refine lv_iload_n (pc := 11) hx hb dX4_fewestReaching_11 rfl (lv_at hl 0 rfl) ?_
    refine lv_iconst (pc := 12) (v := (1 : Int32)) hx hb dX4_fewestReaching_12 (by decide) ?_
    refine lv_icmp_ge (pc := 13) (tgt := 20) hx hb dX4_fewestReaching_13 (by decide) (fun c_4 => ?_) (fun c_4 => ?_)
    · replace hsf := hsf.1 c_4
      refine lv_iload_n (pc := 20) hx hb dX4_fewestReaching_20 rfl (lv_at hl 3 rfl) ?_
      refine lv_iload_n (pc := 21) hx hb dX4_fewestReaching_21 rfl (lv_at hl 0 rfl) ?_
      refine lv_iadd (pc := 22) hx hb dX4_fewestReaching_22 ?_
      refine lv_iconst (pc := 23) (v := (1 : Int32)) hx hb dX4_fewestReaching_23 (by decide) ?_
      refine lv_isub (pc := 24) hx hb dX4_fewestReaching_24 ?_
      refine lv_iload_n (pc := 25) hx hb dX4_fewestReaching_25 rfl (lv_at hl 0 rfl) ?_
      obtain ⟨h_5, hsf⟩ := hsf
      refine lv_idiv (pc := 26) hx hb dX4_fewestReaching_26 h_5 ?_
      exact K_v_6 _ (by rw [if_neg c_3, if_pos c_4])
    · replace hsf := hsf.2 c_4
      refine lv_iconst (pc := 16) (v := (0 : Int32)) hx hb dX4_fewestReaching_16 (by decide) ?_
      refine lv_goto (pc := 17) (tgt := 27) hx hb dX4_fewestReaching_17 (by decide) ?_
      exact K_v_6 _ (by rw [if_neg c_3, if_neg c_4])
def P_X4_mostBeside (post : Int32 → Prop) (p1 : Int32) (p2 : Int32) (p3 : Int32) (p4 : Int32) (kd_low : Nat → Int32) : Prop :=
  vp_in p1 6 ∧ P_X4_mostWithin (fun r_2 => ∀ y_3 : Int32, y_3 = (if r_2 < (200 : Int32) then r_2 else (200 : Int32)) → post y_3) p3 (p4 - (p2 * (kd_low p1.toNatClampNeg))) kd_low
abbrev rm_X4_mostBeside : Room := { frames := 1, cells := 0, slots := 0, locals := 23 }
theorem iw_X4_mostBeside_X4 : ∀ w ∈ wsX40, w ∈ wsX4_mostBeside := by decide +kernel
set_option maxHeartbeats 4000000 in
set_option maxRecDepth 100000 in
theorem c_X4_mostBeside (l : Launch) (G : va_G) (K : ClassId × ClassId × ClassId) (tb q : Nat → Nat) (sz : Nat) (kd_size : Int32) (post : Int32 → Prop) (p1 : Int32) (p2 : Int32) (p3 : Int32) (p4 : Int32) (kd_low : Nat → Int32) (hw : P_X4_mostBeside post p1 p2 p3 p4 kd_low) : Met l yX4_mostBeside wsX4_mostBeside rm_X4_mostBeside (va_Pc [.ref (q 1), .int p1, .int p2, .int p3, .int p4] (hPre G K tb [oX4 q kd_size, aI K (q 2) 6 kd_low] sz)) (va_Qi (fun (r : Int32) (u : Unit) => post r) (fun u => hB G K (va_A [oX4 q kd_size, aI K (q 2) 6 kd_low] sz) [oX4 q kd_size, aI K (q 2) 6 kd_low]) (va_A [oX4 q kd_size, aI K (q 2) 6 kd_low] sz)) 0 0 (va_A [oX4 q kd_size, aI K (q 2) 6 kd_low] sz) := by
  refine hMet (fun A => va_Qi (fun (r : Int32) (u : Unit) => post r) (fun u => hB G K A [oX4 q kd_size, aI K (q 2) 6 kd_low]) A) (by decide) rfl (Nat.le_of_ble_eq_true rfl) ?_
  intro p e s m av below meth c A Q ls hx hb hr hml hts hown hlocks hnm hA hP hK hD hS hE hQ hl
  have hts : ∀ w ∈ wsX4_mostBeside, w.before av s = true := hts
  have hown : s.vm.findClass RX4 = some m.cls := hown
  have hl : lv_has ls 5 [(0, .ref (q 1)), (1, .int p1), (2, .int p2), (3, .int p3), (4, .int p4)] := hl
  unfold P_X4_mostBeside at hw
  refine lv_sipush (pc := 0) (v := (200 : Int32)) hx hb dX4_mostBeside_0 (by decide) ?_
  refine lv_aload_n (pc := 3) hx hb dX4_mostBeside_3 rfl (lv_at hl 0 rfl) ?_
  refine lv_iload_n (pc := 4) hx hb dX4_mostBeside_4 rfl (lv_at hl 3 rfl) ?_
  refine lv_iload (pc := 5) hx hb dX4_mostBeside_5 (lv_at hl 4 rfl) ?_
  refine lv_iload_n (pc := 7) hx hb dX4_mostBeside_7 rfl (lv_at hl 2 rfl) ?_
  refine lv_aload_n (pc := 8) hx hb dX4_mostBeside_8 rfl (lv_at hl 0 rfl) ?_
  refine va_get (pc := 9) (D := G) (ci := 4) (v := .ref (q 2)) (C := RX4) (T := TX4) (N := 3) hx hb hts iw_X4_mostBeside_X4 hown hK hP 0 rfl rfl 0 (by decide) (hts _ (List.mem_of_getElem? (i := 1) rfl)) (fun _ h9 => h9) rfl dX4_mostBeside_9 ?_
  refine lv_iload_n (pc := 12) hx hb dX4_mostBeside_12 rfl (lv_at hl 1 rfl) ?_
  obtain ⟨h_1, hw⟩ := hw
  refine va_iald (pc := 13) hx hb hK hP 1 0 rfl rfl h_1 dX4_mostBeside_13 ?_
  refine lv_imul (pc := 14) hx hb dX4_mostBeside_14 ?_
  refine lv_isub (pc := 15) hx hb dX4_mostBeside_15 ?_
  refine hCallI (pc := 16) (wr := []) (wsf := fun (u : Unit) => [oX4 q kd_size, aI K (q 2) 6 kd_low]) [0, 1] [] (va_runV (As := [.int p3, .int (p4 - (p2 * (kd_low p1.toNatClampNeg)))]) (rest := [.int (200 : Int32)]) ⟨hx, hb, hml, hown, hts⟩ (c_X4_mostWithin l G K tb q s.heap.size kd_size _ p3 (p4 - (p2 * (kd_low p1.toNatClampNeg))) kd_low hw) (cwV 2 hts gX4_mostBeside_X4_mostWithin rfl rfl rfl (by decide +kernel) ⟨Nat.le_of_ble_eq_true rfl, Nat.le_of_ble_eq_true rfl⟩) (hPreV hE hP hK hD hS hA [0, 1] (by decide) rfl rfl rfl rfl (q0 := 0) (ci := 4) rfl) rfl rfl hl.1 rfl (lv_room (Nat.le_of_ble_eq_true rfl)) dX4_mostBeside_16 ⟨Nat.zero_le _, Nat.zero_le _⟩) hP hD hS hA rfl rfl (by decide) (by decide) (fun r_2 u H locs hw hP hD hS => ?_)
  have hP : va_P G vwCl [oX4 q kd_size, aI K (q 2) 6 kd_low] H := hP.sub [0, 1] rfl
  have hD : va_D A [oX4 q kd_size, aI K (q 2) 6 kd_low] := hD.sub [0, 1] (by decide) rfl
  refine va_mmin (pc := 19) hx hb (hml.trans hl.1.symm) hown (hts _ (List.mem_of_getElem? (i := 2) rfl)) (hts _ (List.mem_of_getElem? (i := 3) rfl)) (hts _ (List.mem_of_getElem? (i := 4) rfl)) (hts _ (List.mem_of_getElem? (i := 5) rfl)) (Nat.le_of_ble_eq_true rfl) (Nat.le_of_ble_eq_true rfl) (Nat.zero_le _) (Nat.zero_le _) dX4_mostBeside_19 ?_
  refine lv_topi (fun y_3 ey_3 => ?_)
  replace hw := hw y_3 ey_3
  exact hRetI (S := Unit) () hx hb hr hlocks hQ hw hP hK hD hS dX4_mostBeside_22
def P_X4_fewestBeside (post : Int32 → Prop) (p1 : Int32) (p2 : Int32) (p3 : Int32) (p4 : Int32) (kd_high : Nat → Int32) : Prop :=
  vp_in p1 6 ∧ P_X4_fewestReaching (fun r_2 => post r_2) p3 (p4 - (p2 * (kd_high p1.toNatClampNeg))) kd_high
abbrev rm_X4_fewestBeside : Room := { frames := 1, cells := 0, slots := 0, locals := 23 }
theorem iw_X4_fewestBeside_X4 : ∀ w ∈ wsX40, w ∈ wsX4_fewestBeside := by decide +kernel
set_option maxHeartbeats 4000000 in
set_option maxRecDepth 100000 in
theorem c_X4_fewestBeside (l : Launch) (G : va_G) (K : ClassId × ClassId × ClassId) (tb q : Nat → Nat) (sz : Nat) (kd_size : Int32) (post : Int32 → Prop) (p1 : Int32) (p2 : Int32) (p3 : Int32) (p4 : Int32) (kd_high : Nat → Int32) (hw : P_X4_fewestBeside post p1 p2 p3 p4 kd_high) : Met l yX4_fewestBeside wsX4_fewestBeside rm_X4_fewestBeside (va_Pc [.ref (q 1), .int p1, .int p2, .int p3, .int p4] (hPre G K tb [oX4 q kd_size, aI K (q 3) 6 kd_high] sz)) (va_Qi (fun (r : Int32) (u : Unit) => post r) (fun u => hB G K (va_A [oX4 q kd_size, aI K (q 3) 6 kd_high] sz) [oX4 q kd_size, aI K (q 3) 6 kd_high]) (va_A [oX4 q kd_size, aI K (q 3) 6 kd_high] sz)) 0 0 (va_A [oX4 q kd_size, aI K (q 3) 6 kd_high] sz) := by
  refine hMet (fun A => va_Qi (fun (r : Int32) (u : Unit) => post r) (fun u => hB G K A [oX4 q kd_size, aI K (q 3) 6 kd_high]) A) (by decide) rfl (Nat.le_of_ble_eq_true rfl) ?_
  intro p e s m av below meth c A Q ls hx hb hr hml hts hown hlocks hnm hA hP hK hD hS hE hQ hl
  have hts : ∀ w ∈ wsX4_fewestBeside, w.before av s = true := hts
  have hown : s.vm.findClass RX4 = some m.cls := hown
  have hl : lv_has ls 5 [(0, .ref (q 1)), (1, .int p1), (2, .int p2), (3, .int p3), (4, .int p4)] := hl
  unfold P_X4_fewestBeside at hw
  refine lv_aload_n (pc := 0) hx hb dX4_fewestBeside_0 rfl (lv_at hl 0 rfl) ?_
  refine lv_iload_n (pc := 1) hx hb dX4_fewestBeside_1 rfl (lv_at hl 3 rfl) ?_
  refine lv_iload (pc := 2) hx hb dX4_fewestBeside_2 (lv_at hl 4 rfl) ?_
  refine lv_iload_n (pc := 4) hx hb dX4_fewestBeside_4 rfl (lv_at hl 2 rfl) ?_
  refine lv_aload_n (pc := 5) hx hb dX4_fewestBeside_5 rfl (lv_at hl 0 rfl) ?_
  refine va_get (pc := 6) (D := G) (ci := 4) (v := .ref (q 3)) (C := RX4) (T := TX4) (N := 3) hx hb hts iw_X4_fewestBeside_X4 hown hK hP 0 rfl rfl 1 (by decide) (hts _ (List.mem_of_getElem? (i := 1) rfl)) (fun _ h9 => h9) rfl dX4_fewestBeside_6 ?_
  refine lv_iload_n (pc := 9) hx hb dX4_fewestBeside_9 rfl (lv_at hl 1 rfl) ?_
  obtain ⟨h_1, hw⟩ := hw
  refine va_iald (pc := 10) hx hb hK hP 1 0 rfl rfl h_1 dX4_fewestBeside_10 ?_
  refine lv_imul (pc := 11) hx hb dX4_fewestBeside_11 ?_
  refine lv_isub (pc := 12) hx hb dX4_fewestBeside_12 ?_
  refine hCallI (pc := 13) (wr := []) (wsf := fun (u : Unit) => [oX4 q kd_size, aI K (q 3) 6 kd_high]) [0, 1] [] (va_runV (As := [.int p3, .int (p4 - (p2 * (kd_high p1.toNatClampNeg)))]) (rest := []) ⟨hx, hb, hml, hown, hts⟩ (c_X4_fewestReaching l G K tb q s.heap.size kd_size _ p3 (p4 - (p2 * (kd_high p1.toNatClampNeg))) kd_high hw) (cwV 2 hts gX4_fewestBeside_X4_fewestReaching rfl rfl rfl (by decide +kernel) ⟨Nat.le_of_ble_eq_true rfl, Nat.le_of_ble_eq_true rfl⟩) (hPreV hE hP hK hD hS hA [0, 1] (by decide) rfl rfl rfl rfl (q0 := 0) (ci := 4) rfl) rfl rfl hl.1 rfl (lv_room (Nat.le_of_ble_eq_true rfl)) dX4_fewestBeside_13 ⟨Nat.zero_le _, Nat.zero_le _⟩) hP hD hS hA rfl rfl (by decide) (by decide) (fun r_2 u H locs hw hP hD hS => ?_)
  have hP : va_P G vwCl [oX4 q kd_size, aI K (q 3) 6 kd_high] H := hP.sub [0, 1] rfl
  have hD : va_D A [oX4 q kd_size, aI K (q 3) 6 kd_high] := hD.sub [0, 1] (by decide) rfl
  exact hRetI (S := Unit) () hx hb hr hlocks hQ hw hP hK hD hS dX4_fewestBeside_16
def P_X4_pairsOn (post : Int32 → Prop) (p1 : Int32) (p2 : Int32) (p3 : Int32) (p4 : Int32) (kd_low : Nat → Int32) (kd_high : Nat → Int32) : Prop :=
  ∀ (X6 : Int32 → Int32 → Prop),
  (∀ (x5 : Int32) (x6 : Int32), ((((200 : Int32) < x6 → post x5) ∧ (¬ (200 : Int32) < x6 → P_X4_fewestBeside (fun r_2 => P_X4_mostBeside (fun r_3 => ∀ y_4 : Int32, y_4 = (if (0 : Int32) < ((r_3 - r_2) + (1 : Int32)) then ((r_3 - r_2) + (1 : Int32)) else (0 : Int32)) → ∀ y_5 : Int32, y_5 = (x5 + y_4) → ∀ y_6 : Int32, y_6 = (x6 + (1 : Int32)) → X6 y_5 y_6) p1 x6 p2 (p3 + p4) kd_low) p1 x6 p2 (p3 - p4) kd_high))) → X6 x5 x6) →
  X6 (0 : Int32) (0 : Int32)
abbrev rm_X4_pairsOn : Room := { frames := 2, cells := 0, slots := 0, locals := 47 }
set_option maxHeartbeats 4000000 in
set_option maxRecDepth 100000 in
theorem c_X4_pairsOn (l : Launch) (G : va_G) (K : ClassId × ClassId × ClassId) (tb q : Nat → Nat) (sz : Nat) (kd_size : Int32) (post : Int32 → Prop) (p1 : Int32) (p2 : Int32) (p3 : Int32) (p4 : Int32) (kd_low : Nat → Int32) (kd_high : Nat → Int32) (hw : P_X4_pairsOn post p1 p2 p3 p4 kd_low kd_high) : Met l yX4_pairsOn wsX4_pairsOn rm_X4_pairsOn (va_Pc [.ref (q 1), .int p1, .int p2, .int p3, .int p4] (hPre G K tb [oX4 q kd_size, aI K (q 2) 6 kd_low, aI K (q 3) 6 kd_high] sz)) (va_Qi (fun (r : Int32) (u : Unit) => post r) (fun u => hB G K (va_A [oX4 q kd_size, aI K (q 2) 6 kd_low, aI K (q 3) 6 kd_high] sz) [oX4 q kd_size, aI K (q 2) 6 kd_low, aI K (q 3) 6 kd_high]) (va_A [oX4 q kd_size, aI K (q 2) 6 kd_low, aI K (q 3) 6 kd_high] sz)) 0 0 (va_A [oX4 q kd_size, aI K (q 2) 6 kd_low, aI K (q 3) 6 kd_high] sz) := by
  refine hMet (fun A => va_Qi (fun (r : Int32) (u : Unit) => post r) (fun u => hB G K A [oX4 q kd_size, aI K (q 2) 6 kd_low, aI K (q 3) 6 kd_high]) A) (by decide) rfl (Nat.le_of_ble_eq_true rfl) ?_
  intro p e s m av below meth c A Q ls hx hb hr hml hts hown hlocks hnm hA hP hK hD hS hE hQ hl
  have hts : ∀ w ∈ wsX4_pairsOn, w.before av s = true := hts
  have hown : s.vm.findClass RX4 = some m.cls := hown
  have hl : lv_has ls 9 [(0, .ref (q 1)), (1, .int p1), (2, .int p2), (3, .int p3), (4, .int p4)] := hl
  unfold P_X4_pairsOn at hw
  replace hw := hw (fun (x5 : Int32) (x6 : Int32) => ∀ (H : Heap) (locs : List Loc) (ls : Array Slot), va_P G vwCl [oX4 q kd_size, aI K (q 2) 6 kd_low, aI K (q 3) 6 kd_high] H → va_D A [oX4 q kd_size, aI K (q 2) 6 kd_low, aI K (q 3) 6 kd_high] → va_S A s.heap H locs → lv_has ls 9 [(0, .ref (q 1)), (1, .int p1), (2, .int p2), (3, .int p3), (4, .int p4), (5, .int x5), (6, .int x6)] → W p l e rm_X4_pairsOn s m av below meth c H locs 0 0 Q (F0 m 6 ls []))
  replace hw := hw (by
    intro x5 x6 hw H locs ls hP hD hS hl
    refine lv_iload (pc := 6) hx hb dX4_pairsOn_6 (lv_at hl 6 rfl) ?_
    refine lv_sipush (pc := 8) (v := (200 : Int32)) hx hb dX4_pairsOn_8 (by decide) ?_
    refine lv_icmp_gt (pc := 11) (tgt := 64) hx hb dX4_pairsOn_11 (by decide) (fun c_1 => ?_) (fun c_1 => ?_)
    · replace hw := hw.1 c_1
      refine lv_iload (pc := 64) hx hb dX4_pairsOn_64 (lv_at hl 5 rfl) ?_
      exact hRetI (S := Unit) () hx hb hr hlocks hQ hw hP hK hD hS dX4_pairsOn_66
    · replace hw := hw.2 c_1
      refine lv_aload_n (pc := 14) hx hb dX4_pairsOn_14 rfl (lv_at hl 0 rfl) ?_
      refine lv_iload_n (pc := 15) hx hb dX4_pairsOn_15 rfl (lv_at hl 1 rfl) ?_
      refine lv_iload (pc := 16) hx hb dX4_pairsOn_16 (lv_at hl 6 rfl) ?_
      refine lv_iload_n (pc := 18) hx hb dX4_pairsOn_18 rfl (lv_at hl 2 rfl) ?_
      refine lv_iload_n (pc := 19) hx hb dX4_pairsOn_19 rfl (lv_at hl 3 rfl) ?_
      refine lv_iload (pc := 20) hx hb dX4_pairsOn_20 (lv_at hl 4 rfl) ?_
      refine lv_isub (pc := 22) hx hb dX4_pairsOn_22 ?_
      refine hCallI (pc := 23) (wr := [aI K (q 2) 6 kd_low]) (wsf := fun (u : Unit) => [oX4 q kd_size, aI K (q 3) 6 kd_high]) [0, 2] [1] (va_runV (As := [.int p1, .int x6, .int p2, .int (p3 - p4)]) (rest := []) ⟨hx, hb, hml, hown, hts⟩ (c_X4_fewestBeside l G K tb q H.size kd_size _ p1 x6 p2 (p3 - p4) kd_high hw) (cwV 4 hts gX4_pairsOn_X4_fewestBeside rfl rfl rfl (by decide +kernel) ⟨Nat.le_of_ble_eq_true rfl, Nat.le_of_ble_eq_true rfl⟩) (hPreV hE hP hK hD hS hA [0, 2] (by decide) rfl rfl rfl rfl (q0 := 0) (ci := 4) rfl) rfl rfl hl.1 rfl (lv_room (Nat.le_of_ble_eq_true rfl)) dX4_pairsOn_23 ⟨Nat.zero_le _, Nat.zero_le _⟩) hP hD hS hA rfl rfl (by decide) (by decide) (fun r_2 u H locs hw hP hD hS => ?_)
      have hP : va_P G vwCl [oX4 q kd_size, aI K (q 2) 6 kd_low, aI K (q 3) 6 kd_high] H := hP.sub [1, 0, 2] rfl
      have hD : va_D A [oX4 q kd_size, aI K (q 2) 6 kd_low, aI K (q 3) 6 kd_high] := hD.sub [1, 0, 2] (by decide) rfl
      refine lv_istore (pc := 26) (lv' := [(7, .int r_2), (0, .ref (q 1)), (1, .int p1), (2, .int p2), (3, .int p3), (4, .int p4), (5, .int x5), (6, .int x6)]) hx hb dX4_pairsOn_26 hl (by decide) rfl (fun ls hl => ?_)
      refine lv_aload_n (pc := 28) hx hb dX4_pairsOn_28 rfl (lv_at hl 1 rfl) ?_
      refine lv_iload_n (pc := 29) hx hb dX4_pairsOn_29 rfl (lv_at hl 2 rfl) ?_
      refine lv_iload (pc := 30) hx hb dX4_pairsOn_30 (lv_at hl 7 rfl) ?_
      refine lv_iload_n (pc := 32) hx hb dX4_pairsOn_32 rfl (lv_at hl 3 rfl) ?_
      refine lv_iload_n (pc := 33) hx hb dX4_pairsOn_33 rfl (lv_at hl 4 rfl) ?_
      refine lv_iload (pc := 34) hx hb dX4_pairsOn_34 (lv_at hl 5 rfl) ?_
      refine lv_iadd (pc := 36) hx hb dX4_pairsOn_36 ?_
      refine hCallI (pc := 37) (wr := [aI K (q 3) 6 kd_high]) (wsf := fun (u : Unit) => [oX4 q kd_size, aI K (q 2) 6 kd_low]) [0, 1] [2] (va_runV (As := [.int p1, .int x6, .int p2, .int (p3 + p4)]) (rest := []) ⟨hx, hb, hml, hown, hts⟩ (c_X4_mostBeside l G K tb q H.size kd_size _ p1 x6 p2 (p3 + p4) kd_low hw) (cwV 4 hts gX4_pairsOn_X4_mostBeside rfl rfl rfl (by decide +kernel) ⟨Nat.le_of_ble_eq_true rfl, Nat.le_of_ble_eq_true rfl⟩) (hPreV hE hP hK hD hS hA [0, 1] (by decide) rfl rfl rfl rfl (q0 := 0) (ci := 4) rfl) rfl rfl hl.1 rfl (lv_room (Nat.le_of_ble_eq_true rfl)) dX4_pairsOn_37 ⟨Nat.zero_le _, Nat.zero_le _⟩) hP hD hS hA rfl rfl (by decide) (by decide) (fun r_3 u H locs hw hP hD hS => ?_)
      have hP : va_P G vwCl [oX4 q kd_size, aI K (q 2) 6 kd_low, aI K (q 3) 6 kd_high] H := hP.sub [1, 2, 0] rfl
      have hD : va_D A [oX4 q kd_size, aI K (q 2) 6 kd_low, aI K (q 3) 6 kd_high] := hD.sub [1, 2, 0] (by decide) rfl
      refine lv_istore (pc := 40) (lv' := [(8, .int r_3), (7, .int r_2), (0, .ref (q 1)), (1, .int p1), (2, .int p2), (3, .int p3), (4, .int p4), (5, .int x5), (6, .int x6)]) hx hb dX4_pairsOn_40 hl (by decide) rfl (fun ls hl => ?_)
      refine lv_iload (pc := 42) hx hb dX4_pairsOn_42 (lv_at hl 7 rfl) ?_
      refine lv_iconst (pc := 44) (v := (0 : Int32)) hx hb dX4_pairsOn_44 (by decide) ?_
      refine lv_iload (pc := 45) hx hb dX4_pairsOn_45 (lv_at hl 0 rfl) ?_
      refine lv_iload (pc := 47) hx hb dX4_pairsOn_47 (lv_at hl 1 rfl) ?_
      refine lv_isub (pc := 49) hx hb dX4_pairsOn_49 ?_
      refine lv_iconst (pc := 50) (v := (1 : Int32)) hx hb dX4_pairsOn_50 (by decide) ?_
      refine lv_iadd (pc := 51) hx hb dX4_pairsOn_51 ?_
      refine va_mmax (pc := 52) hx hb (hml.trans hl.1.symm) hown (hts _ (List.mem_of_getElem? (i := 1) rfl)) (hts _ (List.mem_of_getElem? (i := 2) rfl)) (hts _ (List.mem_of_getElem? (i := 3) rfl)) (hts _ (List.mem_of_getElem? (i := 4) rfl)) (Nat.le_of_ble_eq_true rfl) (Nat.le_of_ble_eq_true rfl) (Nat.zero_le _) (Nat.zero_le _) dX4_pairsOn_52 ?_
      refine lv_topi (fun y_4 ey_4 => ?_)
      replace hw := hw y_4 ey_4
      refine lv_iadd (pc := 55) hx hb dX4_pairsOn_55 ?_
      refine lv_topi (fun y_5 ey_5 => ?_)
      replace hw := hw y_5 ey_5
      refine lv_istore (pc := 56) (lv' := [(5, .int y_5), (8, .int r_3), (7, .int r_2), (0, .ref (q 1)), (1, .int p1), (2, .int p2), (3, .int p3), (4, .int p4), (6, .int x6)]) hx hb dX4_pairsOn_56 hl (by decide) rfl (fun ls hl => ?_)
      obtain ⟨y_6, ey_6⟩ : ∃ z : Int32, z = (x6 + (1 : Int32)) := ⟨_, rfl⟩
      replace hw := hw y_6 ey_6
      refine lv_iinc (pc := 58) (v := y_6) (lv' := [(6, .int y_6), (5, .int y_5), (8, .int r_3), (7, .int r_2), (0, .ref (q 1)), (1, .int p1), (2, .int p2), (3, .int p3), (4, .int p4)]) hx hb dX4_pairsOn_58 hl (k := 8) rfl (by rw [ey_6]; rfl) (by decide) rfl (fun ls hl => ?_)
      refine lv_goto (pc := 61) (tgt := 6) hx hb dX4_pairsOn_61 (by decide) ?_
      exact hw _ _ _ hP hD hS (lv_sub hl [4, 5, 6, 7, 8, 1, 0] rfl))
  refine lv_iconst (pc := 0) (v := (0 : Int32)) hx hb dX4_pairsOn_0 (by decide) ?_
  refine lv_istore (pc := 1) (lv' := [(5, .int (0 : Int32)), (0, .ref (q 1)), (1, .int p1), (2, .int p2), (3, .int p3), (4, .int p4)]) hx hb dX4_pairsOn_1 hl (by decide) rfl (fun ls hl => ?_)
  refine lv_iconst (pc := 3) (v := (0 : Int32)) hx hb dX4_pairsOn_3 (by decide) ?_
  refine lv_istore (pc := 4) (lv' := [(6, .int (0 : Int32)), (5, .int (0 : Int32)), (0, .ref (q 1)), (1, .int p1), (2, .int p2), (3, .int p3), (4, .int p4)]) hx hb dX4_pairsOn_4 hl (by decide) rfl (fun ls hl => ?_)
  exact hw _ _ _ hP hD hS (lv_sub hl [2, 3, 4, 5, 6, 1, 0] rfl)
def P_X4_pairAt (post : Int32 → Prop) (p1 : Int32) (p2 : Int32) (p3 : Int32) (p4 : Int32) (p5 : Int32) (kd_low : Nat → Int32) (kd_high : Nat → Int32) : Prop :=
  ∀ (X15 : Int32 → Int32 → Prop),
  (∀ (x6 : Int32) (x7 : Int32), ((((200 : Int32) < x7 → post (-9 : Int32)) ∧ (¬ (200 : Int32) < x7 → P_X4_fewestBeside (fun r_3 => P_X4_mostBeside (fun r_4 => ∀ y_5 : Int32, y_5 = (if (0 : Int32) < ((r_4 - r_3) + (1 : Int32)) then ((r_4 - r_3) + (1 : Int32)) else (0 : Int32)) → ((y_5 ≤ x6 → ∀ y_7 : Int32, y_7 = (x6 - y_5) → ∀ y_8 : Int32, y_8 = (x7 + (1 : Int32)) → X15 y_7 y_8) ∧ (¬ y_5 ≤ x6 → post ((((1000 : Int32) * x7) + r_3) + x6)))) p1 x7 p2 (p3 + p4) kd_low) p1 x7 p2 (p3 - p4) kd_high))) → X15 x6 x7) →
  (((0 : Int32) ≤ p5 → X15 p5 (0 : Int32)) ∧ (¬ (0 : Int32) ≤ p5 → post (-9 : Int32)))
abbrev rm_X4_pairAt : Room := { frames := 2, cells := 0, slots := 0, locals := 47 }
set_option maxHeartbeats 4000000 in
set_option maxRecDepth 100000 in
theorem c_X4_pairAt (l : Launch) (G : va_G) (K : ClassId × ClassId × ClassId) (tb q : Nat → Nat) (sz : Nat) (kd_size : Int32) (post : Int32 → Prop) (p1 : Int32) (p2 : Int32) (p3 : Int32) (p4 : Int32) (p5 : Int32) (kd_low : Nat → Int32) (kd_high : Nat → Int32) (hw : P_X4_pairAt post p1 p2 p3 p4 p5 kd_low kd_high) : Met l yX4_pairAt wsX4_pairAt rm_X4_pairAt (va_Pc [.ref (q 1), .int p1, .int p2, .int p3, .int p4, .int p5] (hPre G K tb [oX4 q kd_size, aI K (q 2) 6 kd_low, aI K (q 3) 6 kd_high] sz)) (va_Qi (fun (r : Int32) (u : Unit) => post r) (fun u => hB G K (va_A [oX4 q kd_size, aI K (q 2) 6 kd_low, aI K (q 3) 6 kd_high] sz) [oX4 q kd_size, aI K (q 2) 6 kd_low, aI K (q 3) 6 kd_high]) (va_A [oX4 q kd_size, aI K (q 2) 6 kd_low, aI K (q 3) 6 kd_high] sz)) 0 0 (va_A [oX4 q kd_size, aI K (q 2) 6 kd_low, aI K (q 3) 6 kd_high] sz) := by
  refine hMet (fun A => va_Qi (fun (r : Int32) (u : Unit) => post r) (fun u => hB G K A [oX4 q kd_size, aI K (q 2) 6 kd_low, aI K (q 3) 6 kd_high]) A) (by decide) rfl (Nat.le_of_ble_eq_true rfl) ?_
  intro p e s m av below meth c A Q ls hx hb hr hml hts hown hlocks hnm hA hP hK hD hS hE hQ hl
  have hts : ∀ w ∈ wsX4_pairAt, w.before av s = true := hts
  have hown : s.vm.findClass RX4 = some m.cls := hown
  have hl : lv_has ls 11 [(0, .ref (q 1)), (1, .int p1), (2, .int p2), (3, .int p3), (4, .int p4), (5, .int p5)] := hl
  unfold P_X4_pairAt at hw
  replace hw := hw (fun (x6 : Int32) (x7 : Int32) => ∀ (H : Heap) (locs : List Loc) (ls : Array Slot), va_P G vwCl [oX4 q kd_size, aI K (q 2) 6 kd_low, aI K (q 3) 6 kd_high] H → va_D A [oX4 q kd_size, aI K (q 2) 6 kd_low, aI K (q 3) 6 kd_high] → va_S A s.heap H locs → lv_has ls 11 [(0, .ref (q 1)), (1, .int p1), (2, .int p2), (3, .int p3), (4, .int p4), (6, .int x6), (7, .int x7)] → W p l e rm_X4_pairAt s m av below meth c H locs 0 0 Q (F0 m 15 ls []))
  replace hw := hw (by
    intro x6 x7 hw H locs ls hP hD hS hl
    refine lv_iload (pc := 15) hx hb dX4_pairAt_15 (lv_at hl 6 rfl) ?_
    refine lv_sipush (pc := 17) (v := (200 : Int32)) hx hb dX4_pairAt_17 (by decide) ?_
    refine lv_icmp_gt (pc := 20) (tgt := 97) hx hb dX4_pairAt_20 (by decide) (fun c_2 => ?_) (fun c_2 => ?_)
    · replace hw := hw.1 c_2
      refine lv_bipush (pc := 97) (v := (-9 : Int32)) hx hb dX4_pairAt_97 (by decide) ?_
      exact hRetI (S := Unit) () hx hb hr hlocks hQ hw hP hK hD hS dX4_pairAt_99
    · replace hw := hw.2 c_2
      refine lv_aload_n (pc := 23) hx hb dX4_pairAt_23 rfl (lv_at hl 0 rfl) ?_
      refine lv_iload_n (pc := 24) hx hb dX4_pairAt_24 rfl (lv_at hl 1 rfl) ?_
      refine lv_iload (pc := 25) hx hb dX4_pairAt_25 (lv_at hl 6 rfl) ?_
      refine lv_iload_n (pc := 27) hx hb dX4_pairAt_27 rfl (lv_at hl 2 rfl) ?_
      refine lv_iload_n (pc := 28) hx hb dX4_pairAt_28 rfl (lv_at hl 3 rfl) ?_
      refine lv_iload (pc := 29) hx hb dX4_pairAt_29 (lv_at hl 4 rfl) ?_
      refine lv_isub (pc := 31) hx hb dX4_pairAt_31 ?_
      refine hCallI (pc := 32) (wr := [aI K (q 2) 6 kd_low]) (wsf := fun (u : Unit) => [oX4 q kd_size, aI K (q 3) 6 kd_high]) [0, 2] [1] (va_runV (As := [.int p1, .int x7, .int p2, .int (p3 - p4)]) (rest := []) ⟨hx, hb, hml, hown, hts⟩ (c_X4_fewestBeside l G K tb q H.size kd_size _ p1 x7 p2 (p3 - p4) kd_high hw) (cwV 4 hts gX4_pairAt_X4_fewestBeside rfl rfl rfl (by decide +kernel) ⟨Nat.le_of_ble_eq_true rfl, Nat.le_of_ble_eq_true rfl⟩) (hPreV hE hP hK hD hS hA [0, 2] (by decide) rfl rfl rfl rfl (q0 := 0) (ci := 4) rfl) rfl rfl hl.1 rfl (lv_room (Nat.le_of_ble_eq_true rfl)) dX4_pairAt_32 ⟨Nat.zero_le _, Nat.zero_le _⟩) hP hD hS hA rfl rfl (by decide) (by decide) (fun r_3 u H locs hw hP hD hS => ?_)
      have hP : va_P G vwCl [oX4 q kd_size, aI K (q 2) 6 kd_low, aI K (q 3) 6 kd_high] H := hP.sub [1, 0, 2] rfl
      have hD : va_D A [oX4 q kd_size, aI K (q 2) 6 kd_low, aI K (q 3) 6 kd_high] := hD.sub [1, 0, 2] (by decide) rfl
      refine lv_istore (pc := 35) (lv' := [(8, .int r_3), (0, .ref (q 1)), (1, .int p1), (2, .int p2), (3, .int p3), (4, .int p4), (6, .int x6), (7, .int x7)]) hx hb dX4_pairAt_35 hl (by decide) rfl (fun ls hl => ?_)
      refine lv_aload_n (pc := 37) hx hb dX4_pairAt_37 rfl (lv_at hl 1 rfl) ?_
      refine lv_iload_n (pc := 38) hx hb dX4_pairAt_38 rfl (lv_at hl 2 rfl) ?_
      refine lv_iload (pc := 39) hx hb dX4_pairAt_39 (lv_at hl 7 rfl) ?_
      refine lv_iload_n (pc := 41) hx hb dX4_pairAt_41 rfl (lv_at hl 3 rfl) ?_
      refine lv_iload_n (pc := 42) hx hb dX4_pairAt_42 rfl (lv_at hl 4 rfl) ?_
      refine lv_iload (pc := 43) hx hb dX4_pairAt_43 (lv_at hl 5 rfl) ?_
      refine lv_iadd (pc := 45) hx hb dX4_pairAt_45 ?_
      refine hCallI (pc := 46) (wr := [aI K (q 3) 6 kd_high]) (wsf := fun (u : Unit) => [oX4 q kd_size, aI K (q 2) 6 kd_low]) [0, 1] [2] (va_runV (As := [.int p1, .int x7, .int p2, .int (p3 + p4)]) (rest := []) ⟨hx, hb, hml, hown, hts⟩ (c_X4_mostBeside l G K tb q H.size kd_size _ p1 x7 p2 (p3 + p4) kd_low hw) (cwV 4 hts gX4_pairAt_X4_mostBeside rfl rfl rfl (by decide +kernel) ⟨Nat.le_of_ble_eq_true rfl, Nat.le_of_ble_eq_true rfl⟩) (hPreV hE hP hK hD hS hA [0, 1] (by decide) rfl rfl rfl rfl (q0 := 0) (ci := 4) rfl) rfl rfl hl.1 rfl (lv_room (Nat.le_of_ble_eq_true rfl)) dX4_pairAt_46 ⟨Nat.zero_le _, Nat.zero_le _⟩) hP hD hS hA rfl rfl (by decide) (by decide) (fun r_4 u H locs hw hP hD hS => ?_)
      have hP : va_P G vwCl [oX4 q kd_size, aI K (q 2) 6 kd_low, aI K (q 3) 6 kd_high] H := hP.sub [1, 2, 0] rfl
      have hD : va_D A [oX4 q kd_size, aI K (q 2) 6 kd_low, aI K (q 3) 6 kd_high] := hD.sub [1, 2, 0] (by decide) rfl
      refine lv_istore (pc := 49) (lv' := [(9, .int r_4), (8, .int r_3), (0, .ref (q 1)), (1, .int p1), (2, .int p2), (3, .int p3), (4, .int p4), (6, .int x6), (7, .int x7)]) hx hb dX4_pairAt_49 hl (by decide) rfl (fun ls hl => ?_)
      refine lv_iconst (pc := 51) (v := (0 : Int32)) hx hb dX4_pairAt_51 (by decide) ?_
      refine lv_iload (pc := 52) hx hb dX4_pairAt_52 (lv_at hl 0 rfl) ?_
      refine lv_iload (pc := 54) hx hb dX4_pairAt_54 (lv_at hl 1 rfl) ?_
      refine lv_isub (pc := 56) hx hb dX4_pairAt_56 ?_
      refine lv_iconst (pc := 57) (v := (1 : Int32)) hx hb dX4_pairAt_57 (by decide) ?_
      refine lv_iadd (pc := 58) hx hb dX4_pairAt_58 ?_
      refine va_mmax (pc := 59) hx hb (hml.trans hl.1.symm) hown (hts _ (List.mem_of_getElem? (i := 1) rfl)) (hts _ (List.mem_of_getElem? (i := 2) rfl)) (hts _ (List.mem_of_getElem? (i := 3) rfl)) (hts _ (List.mem_of_getElem? (i := 4) rfl)) (Nat.le_of_ble_eq_true rfl) (Nat.le_of_ble_eq_true rfl) (Nat.zero_le _) (Nat.zero_le _) dX4_pairAt_59 ?_
      refine lv_topi (fun y_5 ey_5 => ?_)
      replace hw := hw y_5 ey_5
      refine lv_istore (pc := 62) (lv' := [(10, .int y_5), (9, .int r_4), (8, .int r_3), (0, .ref (q 1)), (1, .int p1), (2, .int p2), (3, .int p3), (4, .int p4), (6, .int x6), (7, .int x7)]) hx hb dX4_pairAt_62 hl (by decide) rfl (fun ls hl => ?_)
      refine lv_iload (pc := 64) hx hb dX4_pairAt_64 (lv_at hl 8 rfl) ?_
      refine lv_iload (pc := 66) hx hb dX4_pairAt_66 (lv_at hl 0 rfl) ?_
      refine lv_icmp_ge (pc := 68) (tgt := 84) hx hb dX4_pairAt_68 (by decide) (fun c_6 => ?_) (fun c_6 => ?_)
      · replace hw := hw.1 c_6
        refine lv_iload (pc := 84) hx hb dX4_pairAt_84 (lv_at hl 8 rfl) ?_
        refine lv_iload (pc := 86) hx hb dX4_pairAt_86 (lv_at hl 0 rfl) ?_
        refine lv_isub (pc := 88) hx hb dX4_pairAt_88 ?_
        refine lv_topi (fun y_7 ey_7 => ?_)
        replace hw := hw y_7 ey_7
        refine lv_istore (pc := 89) (lv' := [(6, .int y_7), (10, .int y_5), (9, .int r_4), (8, .int r_3), (0, .ref (q 1)), (1, .int p1), (2, .int p2), (3, .int p3), (4, .int p4), (7, .int x7)]) hx hb dX4_pairAt_89 hl (by decide) rfl (fun ls hl => ?_)
        obtain ⟨y_8, ey_8⟩ : ∃ z : Int32, z = (x7 + (1 : Int32)) := ⟨_, rfl⟩
        replace hw := hw y_8 ey_8
        refine lv_iinc (pc := 91) (v := y_8) (lv' := [(7, .int y_8), (6, .int y_7), (10, .int y_5), (9, .int r_4), (8, .int r_3), (0, .ref (q 1)), (1, .int p1), (2, .int p2), (3, .int p3), (4, .int p4)]) hx hb dX4_pairAt_91 hl (k := 9) rfl (by rw [ey_8]; rfl) (by decide) rfl (fun ls hl => ?_)
        refine lv_goto (pc := 94) (tgt := 15) hx hb dX4_pairAt_94 (by decide) ?_
        exact hw _ _ _ hP hD hS (lv_sub hl [5, 6, 7, 8, 9, 1, 0] rfl)
      · replace hw := hw.2 c_6
        refine lv_sipush (pc := 71) (v := (1000 : Int32)) hx hb dX4_pairAt_71 (by decide) ?_
        refine lv_iload (pc := 74) hx hb dX4_pairAt_74 (lv_at hl 9 rfl) ?_
        refine lv_imul (pc := 76) hx hb dX4_pairAt_76 ?_
        refine lv_iload (pc := 77) hx hb dX4_pairAt_77 (lv_at hl 2 rfl) ?_
        refine lv_iadd (pc := 79) hx hb dX4_pairAt_79 ?_
        refine lv_iload (pc := 80) hx hb dX4_pairAt_80 (lv_at hl 8 rfl) ?_
        refine lv_iadd (pc := 82) hx hb dX4_pairAt_82 ?_
        exact hRetI (S := Unit) () hx hb hr hlocks hQ hw hP hK hD hS dX4_pairAt_83)
  refine lv_iload (pc := 0) hx hb dX4_pairAt_0 (lv_at hl 5 rfl) ?_
  refine lv_if_ge (pc := 2) (tgt := 8) hx hb dX4_pairAt_2 (by decide) (fun c_1 => ?_) (fun c_1 => ?_)
  · replace hw := hw.1 c_1
    refine lv_iload (pc := 8) hx hb dX4_pairAt_8 (lv_at hl 5 rfl) ?_
    refine lv_istore (pc := 10) (lv' := [(6, .int p5), (0, .ref (q 1)), (1, .int p1), (2, .int p2), (3, .int p3), (4, .int p4), (5, .int p5)]) hx hb dX4_pairAt_10 hl (by decide) rfl (fun ls hl => ?_)
    refine lv_iconst (pc := 12) (v := (0 : Int32)) hx hb dX4_pairAt_12 (by decide) ?_
    refine lv_istore (pc := 13) (lv' := [(7, .int (0 : Int32)), (6, .int p5), (0, .ref (q 1)), (1, .int p1), (2, .int p2), (3, .int p3), (4, .int p4), (5, .int p5)]) hx hb dX4_pairAt_13 hl (by decide) rfl (fun ls hl => ?_)
    exact hw _ _ _ hP hD hS (lv_sub hl [2, 3, 4, 5, 6, 1, 0] rfl)
  · replace hw := hw.2 c_1
    refine lv_bipush (pc := 5) (v := (-9 : Int32)) hx hb dX4_pairAt_5 (by decide) ?_
    exact hRetI (S := Unit) () hx hb hr hlocks hQ hw hP hK hD hS dX4_pairAt_7
