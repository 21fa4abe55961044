def P_X7_lastsStill (post : Int32 → Prop) (p0 : Int32) (p1 : Int32) : Prop :=
  post ((p0 >>> (((4 : Int32) * p1) &&& 31)) &&& (15 : Int32))
abbrev rm_X7_lastsStill : Room := { frames := 0, cells := 0, slots := 0, locals := 0 }
set_option maxHeartbeats 4000000 in
set_option maxRecDepth 100000 in
theorem c_X7_lastsStill (l : Launch) (G : va_G) (K : ClassId × ClassId × ClassId) (tb q : Nat → Nat) (sz : Nat) (post : Int32 → Prop) (p0 : Int32) (p1 : Int32) (hw : P_X7_lastsStill post p0 p1) : Met l yX7_lastsStill wsX7_lastsStill rm_X7_lastsStill (va_Pc [.int p0, .int p1] (hPre G K tb [] sz)) (va_Qi (fun (r : Int32) (u : Unit) => post r) (fun u => hB G K (va_A [] sz) []) (va_A [] sz)) 0 0 (va_A [] sz) := by
  refine hMet (fun A => va_Qi (fun (r : Int32) (u : Unit) => post r) (fun u => hB G K A []) A) (by decide) rfl (Nat.le_of_ble_eq_true rfl) ?_
  intro p e s m av below meth c A Q ls hx hb hr hml hts hown hlocks hnm hA hP hK hD hS hE hQ hl
  have hts : ∀ w ∈ wsX7_lastsStill, w.before av s = true := hts
  have hown : s.vm.findClass RX7 = some m.cls := hown
  have hl : lv_has ls 2 [(0, .int p0), (1, .int p1)] := hl
  unfold P_X7_lastsStill at hw
  refine lv_iload_n (pc := 0) hx hb dX7_lastsStill_0 rfl (lv_at hl 0 rfl) ?_
  refine lv_iconst (pc := 1) (v := (4 : Int32)) hx hb dX7_lastsStill_1 (by decide) ?_
  refine lv_iload_n (pc := 2) hx hb dX7_lastsStill_2 rfl (lv_at hl 1 rfl) ?_
  refine lv_imul (pc := 3) hx hb dX7_lastsStill_3 ?_
  refine lv_ishr (pc := 4) hx hb dX7_lastsStill_4 ?_
  refine lv_bipush (pc := 5) (v := (15 : Int32)) hx hb dX7_lastsStill_5 (by decide) ?_
  refine lv_iand (pc := 7) hx hb dX7_lastsStill_7 ?_
  exact hRetI (S := Unit) () hx hb hr hlocks hQ hw hP hK hD hS dX7_lastsStill_8
def P_X7_after (post : Int32 → Prop) (p1 : Int32) (p2 : Int32) (p3 : Int32) (pl_renewed : Nat → Int32) : Prop :=
  ∀ (X6 : Int32 → Int32 → Prop),
  ∀ (X38 : Int32 → Int32 → Int32 → Prop),
  (∀ (x4 : Int32) (x5 : Int32), ((((4 : Int32) ≤ x5 → post x4) ∧ (¬ (4 : Int32) ≤ x5 → ((((p3 >>> (x5 &&& 31)) &&& (1 : Int32)) = (1 : Int32) → vp_in x5 4 ∧ X38 x4 x5 (pl_renewed x5.toNatClampNeg)) ∧ (¬ ((p3 >>> (x5 &&& 31)) &&& (1 : Int32)) = (1 : Int32) → P_X7_lastsStill (fun r_3 => X38 x4 x5 r_3) p2 x5))))) → X6 x4 x5) →
  (∀ (x4 : Int32) (x5 : Int32) (s0 : Int32), (∀ y_5 : Int32, y_5 = (if s0 < p1 then s0 else p1) → ∀ y_6 : Int32, y_6 = (if (0 : Int32) < (y_5 - (1 : Int32)) then (y_5 - (1 : Int32)) else (0 : Int32)) → ∀ y_7 : Int32, y_7 = (x4 ||| (y_6 <<< (((4 : Int32) * x5) &&& 31))) → ∀ y_8 : Int32, y_8 = (x5 + (1 : Int32)) → X6 y_7 y_8) → X38 x4 x5 s0) →
  X6 (0 : Int32) (0 : Int32)
abbrev rm_X7_after : Room := { frames := 1, cells := 0, slots := 0, locals := 23 }
theorem iw_X7_after_X7 : ∀ w ∈ wsX70, w ∈ wsX7_after := by decide +kernel
set_option maxHeartbeats 4000000 in
set_option maxRecDepth 100000 in
theorem c_X7_after (l : Launch) (G : va_G) (K : ClassId × ClassId × ClassId) (tb q : Nat → Nat) (sz : Nat) (pl_hands : Int32) (post : Int32 → Prop) (p1 : Int32) (p2 : Int32) (p3 : Int32) (pl_renewed : Nat → Int32) (hw : P_X7_after post p1 p2 p3 pl_renewed) : Met l yX7_after wsX7_after rm_X7_after (va_Pc [.ref (q 31), .int p1, .int p2, .int p3] (hPre G K tb [oX7 q pl_hands, aI K (q 33) 4 pl_renewed] sz)) (va_Qi (fun (r : Int32) (u : Unit) => post r) (fun u => hB G K (va_A [oX7 q pl_hands, aI K (q 33) 4 pl_renewed] sz) [oX7 q pl_hands, aI K (q 33) 4 pl_renewed]) (va_A [oX7 q pl_hands, aI K (q 33) 4 pl_renewed] sz)) 0 0 (va_A [oX7 q pl_hands, aI K (q 33) 4 pl_renewed] sz) := by
  refine hMet (fun A => va_Qi (fun (r : Int32) (u : Unit) => post r) (fun u => hB G K A [oX7 q pl_hands, aI K (q 33) 4 pl_renewed]) A) (by decide) rfl (Nat.le_of_ble_eq_true rfl) ?_
  intro p e s m av below meth c A Q ls hx hb hr hml hts hown hlocks hnm hA hP hK hD hS hE hQ hl
  have hts : ∀ w ∈ wsX7_after, w.before av s = true := hts
  have hown : s.vm.findClass RX7 = some m.cls := hown
  have hl : lv_has ls 7 [(0, .ref (q 31)), (1, .int p1), (2, .int p2), (3, .int p3)] := hl
  unfold P_X7_after at hw
  replace hw := hw (fun (x4 : Int32) (x5 : Int32) => ∀ (H : Heap) (locs : List Loc) (ls : Array Slot), va_P G vwCl [oX7 q pl_hands, aI K (q 33) 4 pl_renewed] H → va_D A [oX7 q pl_hands, aI K (q 33) 4 pl_renewed] → va_S A s.heap H locs → lv_has ls 7 [(0, .ref (q 31)), (1, .int p1), (2, .int p2), (3, .int p3), (4, .int x4), (5, .int x5)] → W p l e rm_X7_after s m av below meth c H locs 0 0 Q (F0 m 6 ls []))
  replace hw := hw (fun (x4 : Int32) (x5 : Int32) (s0 : Int32) => ∀ (H : Heap) (locs : List Loc) (ls : Array Slot), va_P G vwCl [oX7 q pl_hands, aI K (q 33) 4 pl_renewed] H → va_D A [oX7 q pl_hands, aI K (q 33) 4 pl_renewed] → va_S A s.heap H locs → lv_has ls 7 [(0, .ref (q 31)), (1, .int p1), (2, .int p2), (3, .int p3), (4, .int x4), (5, .int x5)] → W p l e rm_X7_after s m av below meth c H locs 0 0 Q (F0 m 38 ls [.int s0]))
  replace hw := hw (by
    intro x4 x5 hw H locs ls hP hD hS hl
    refine lv_iload (pc := 6) hx hb dX7_after_6 (lv_at hl 5 rfl) ?_
    refine lv_iconst (pc := 8) (v := (4 : Int32)) hx hb dX7_after_8 (by decide) ?_
    refine lv_icmp_ge (pc := 9) (tgt := 68) hx hb dX7_after_9 (by decide) (fun c_1 => ?_) (fun c_1 => ?_)
    · replace hw := hw.1 c_1
      refine lv_iload (pc := 68) hx hb dX7_after_68 (lv_at hl 4 rfl) ?_
      exact hRetI (S := Unit) () hx hb hr hlocks hQ hw hP hK hD hS dX7_after_70
    · replace hw := hw.2 c_1
      refine lv_iload_n (pc := 12) hx hb dX7_after_12 rfl (lv_at hl 3 rfl) ?_
      refine lv_iload (pc := 13) hx hb dX7_after_13 (lv_at hl 5 rfl) ?_
      refine lv_ishr (pc := 15) hx hb dX7_after_15 ?_
      refine lv_iconst (pc := 16) (v := (1 : Int32)) hx hb dX7_after_16 (by decide) ?_
      refine lv_iand (pc := 17) hx hb dX7_after_17 ?_
      refine lv_iconst (pc := 18) (v := (1 : Int32)) hx hb dX7_after_18 (by decide) ?_
      refine lv_icmp_ne (pc := 19) (tgt := 32) hx hb dX7_after_19 (by decide) (fun c_2 => ?_) (fun c_2 => ?_)
      · replace hw := hw.2 c_2
        refine lv_iload_n (pc := 32) hx hb dX7_after_32 rfl (lv_at hl 2 rfl) ?_
        refine lv_iload (pc := 33) hx hb dX7_after_33 (lv_at hl 5 rfl) ?_
        refine hCallI (pc := 35) (wr := [oX7 q pl_hands, aI K (q 33) 4 pl_renewed]) (wsf := fun (u : Unit) => []) [] [0, 1] (va_runS (As := [.int p2, .int x5]) (rest := []) ⟨hx, hb, hml, hown, hts⟩ (c_X7_lastsStill l G K tb q H.size _ p2 x5 hw) (va_cwS 2 hts gX7_after_X7_lastsStill rfl rfl rfl (by decide +kernel) ⟨Nat.le_of_ble_eq_true rfl, Nat.le_of_ble_eq_true rfl⟩) (hPreS hE hP hK hD hS hA [] (by decide) rfl rfl) rfl rfl hl.1 rfl (lv_room (Nat.le_of_ble_eq_true rfl)) dX7_after_35 ⟨Nat.zero_le _, Nat.zero_le _⟩) hP hD hS hA rfl rfl (by decide) (by decide) (fun r_3 u H locs hw hP hD hS => ?_)
        have hP : va_P G vwCl [oX7 q pl_hands, aI K (q 33) 4 pl_renewed] H := hP.sub [0, 1] rfl
        have hD : va_D A [oX7 q pl_hands, aI K (q 33) 4 pl_renewed] := hD.sub [0, 1] (by decide) rfl
        exact hw _ _ _ hP hD hS (lv_sub hl [0, 1, 2, 3, 4, 5] rfl)
      · replace hw := hw.1 c_2
        refine lv_aload_n (pc := 22) hx hb dX7_after_22 rfl (lv_at hl 0 rfl) ?_
        refine va_get (pc := 23) (D := G) (ci := 7) (v := .ref (q 33)) (C := RX7) (T := TX7) (N := 4) hx hb hts iw_X7_after_X7 hown hK hP 0 rfl rfl 1 (by decide) (hts _ (List.mem_of_getElem? (i := 1) rfl)) (fun _ h9 => h9) rfl dX7_after_23 ?_
        refine lv_iload (pc := 26) hx hb dX7_after_26 (lv_at hl 5 rfl) ?_
        obtain ⟨h_4, hw⟩ := hw
        refine va_iald (pc := 28) hx hb hK hP 1 0 rfl rfl h_4 dX7_after_28 ?_
        refine lv_goto (pc := 29) (tgt := 38) hx hb dX7_after_29 (by decide) ?_
        exact hw _ _ _ hP hD hS (lv_sub hl [0, 1, 2, 3, 4, 5] rfl))
  replace hw := hw (by
    intro x4 x5 s0 hw H locs ls hP hD hS hl
    refine lv_istore (pc := 38) (lv' := [(6, .int s0), (0, .ref (q 31)), (1, .int p1), (2, .int p2), (3, .int p3), (4, .int x4), (5, .int x5)]) hx hb dX7_after_38 hl (by decide) rfl (fun ls hl => ?_)
    refine lv_iload (pc := 40) hx hb dX7_after_40 (lv_at hl 5 rfl) ?_
    refine lv_iconst (pc := 42) (v := (0 : Int32)) hx hb dX7_after_42 (by decide) ?_
    refine lv_iload_n (pc := 43) hx hb dX7_after_43 rfl (lv_at hl 2 rfl) ?_
    refine lv_iload (pc := 44) hx hb dX7_after_44 (lv_at hl 0 rfl) ?_
    refine va_mmin (pc := 46) hx hb (hml.trans hl.1.symm) hown (hts _ (List.mem_of_getElem? (i := 2) rfl)) (hts _ (List.mem_of_getElem? (i := 3) rfl)) (hts _ (List.mem_of_getElem? (i := 4) rfl)) (hts _ (List.mem_of_getElem? (i := 5) rfl)) (Nat.le_of_ble_eq_true rfl) (Nat.le_of_ble_eq_true rfl) (Nat.zero_le _) (Nat.zero_le _) dX7_after_46 ?_
    refine lv_topi (fun y_5 ey_5 => ?_)
    replace hw := hw y_5 ey_5
    refine lv_iconst (pc := 49) (v := (1 : Int32)) hx hb dX7_after_49 (by decide) ?_
    refine lv_isub (pc := 50) hx hb dX7_after_50 ?_
    refine va_mmax (pc := 51) hx hb (hml.trans hl.1.symm) hown (hts _ (List.mem_of_getElem? (i := 6) rfl)) (hts _ (List.mem_of_getElem? (i := 7) rfl)) (hts _ (List.mem_of_getElem? (i := 4) rfl)) (hts _ (List.mem_of_getElem? (i := 8) rfl)) (Nat.le_of_ble_eq_true rfl) (Nat.le_of_ble_eq_true rfl) (Nat.zero_le _) (Nat.zero_le _) dX7_after_51 ?_
    refine lv_topi (fun y_6 ey_6 => ?_)
    replace hw := hw y_6 ey_6
    refine lv_iconst (pc := 54) (v := (4 : Int32)) hx hb dX7_after_54 (by decide) ?_
    refine lv_iload (pc := 55) hx hb dX7_after_55 (lv_at hl 6 rfl) ?_
    refine lv_imul (pc := 57) hx hb dX7_after_57 ?_
    refine lv_ishl (pc := 58) hx hb dX7_after_58 ?_
    refine lv_ior (pc := 59) hx hb dX7_after_59 ?_
    refine lv_topi (fun y_7 ey_7 => ?_)
    replace hw := hw y_7 ey_7
    refine lv_istore (pc := 60) (lv' := [(4, .int y_7), (6, .int s0), (0, .ref (q 31)), (1, .int p1), (2, .int p2), (3, .int p3), (5, .int x5)]) hx hb dX7_after_60 hl (by decide) rfl (fun ls hl => ?_)
    obtain ⟨y_8, ey_8⟩ : ∃ z : Int32, z = (x5 + (1 : Int32)) := ⟨_, rfl⟩
    replace hw := hw y_8 ey_8
    refine lv_iinc (pc := 62) (v := y_8) (lv' := [(5, .int y_8), (4, .int y_7), (6, .int s0), (0, .ref (q 31)), (1, .int p1), (2, .int p2), (3, .int p3)]) hx hb dX7_after_62 hl (k := 6) rfl (by rw [ey_8]; rfl) (by decide) rfl (fun ls hl => ?_)
    refine lv_goto (pc := 65) (tgt := 6) hx hb dX7_after_65 (by decide) ?_
    exact hw _ _ _ hP hD hS (lv_sub hl [3, 4, 5, 6, 1, 0] rfl))
  refine lv_iconst (pc := 0) (v := (0 : Int32)) hx hb dX7_after_0 (by decide) ?_
  refine lv_istore (pc := 1) (lv' := [(4, .int (0 : Int32)), (0, .ref (q 31)), (1, .int p1), (2, .int p2), (3, .int p3)]) hx hb dX7_after_1 hl (by decide) rfl (fun ls hl => ?_)
  refine lv_iconst (pc := 3) (v := (0 : Int32)) hx hb dX7_after_3 (by decide) ?_
  refine lv_istore (pc := 4) (lv' := [(5, .int (0 : Int32)), (4, .int (0 : Int32)), (0, .ref (q 31)), (1, .int p1), (2, .int p2), (3, .int p3)]) hx hb dX7_after_4 hl (by decide) rfl (fun ls hl => ?_)
  exact hw _ _ _ hP hD hS (lv_sub hl [2, 3, 4, 5, 1, 0] rfl)
def P_X7_allowed (post : Int32 → Prop) (p1 : Int32) (p2 : Int32) (p3 : Int32) (pl_hands : Int32) : Prop :=
  (((p1 &&& p2) = p2 → (((p1 &&& p3) = p1 → P_J6_bitCount_0f7a4 (fun r_3 => ∀ v_5 : Int32, v_5 = (if pl_hands < r_3 then (0 : Int32) else (1 : Int32)) → post v_5) p1) ∧ (¬ (p1 &&& p3) = p1 → post (0 : Int32)))) ∧ (¬ (p1 &&& p2) = p2 → post (0 : Int32)))
abbrev rm_X7_allowed : Room := { frames := 1, cells := 0, slots := 0, locals := 20 }
theorem iw_X7_allowed_X7 : ∀ w ∈ wsX70, w ∈ wsX7_allowed := by decide +kernel
set_option maxHeartbeats 4000000 in
set_option maxRecDepth 100000 in
theorem c_X7_allowed (l : Launch) (G : va_G) (K : ClassId × ClassId × ClassId) (tb q : Nat → Nat) (sz : Nat) (post : Int32 → Prop) (p1 : Int32) (p2 : Int32) (p3 : Int32) (pl_hands : Int32) (hw : P_X7_allowed post p1 p2 p3 pl_hands) : Met l yX7_allowed wsX7_allowed rm_X7_allowed (va_Pc [.ref (q 31), .int p1, .int p2, .int p3] (hPre G K tb [oX7 q pl_hands] sz)) (va_Qi (fun (r : Int32) (u : Unit) => post r) (fun u => hB G K (va_A [oX7 q pl_hands] sz) [oX7 q pl_hands]) (va_A [oX7 q pl_hands] sz)) 0 0 (va_A [oX7 q pl_hands] sz) := by
  refine hMet (fun A => va_Qi (fun (r : Int32) (u : Unit) => post r) (fun u => hB G K A [oX7 q pl_hands]) A) (by decide) rfl (Nat.le_of_ble_eq_true rfl) ?_
  intro p e s m av below meth c A Q ls hx hb hr hml hts hown hlocks hnm hA hP hK hD hS hE hQ hl
  have hts : ∀ w ∈ wsX7_allowed, w.before av s = true := hts
  have hown : s.vm.findClass RX7 = some m.cls := hown
  have hl : lv_has ls 4 [(0, .ref (q 31)), (1, .int p1), (2, .int p2), (3, .int p3)] := hl
  unfold P_X7_allowed at hw
  refine lv_iload_n (pc := 0) hx hb dX7_allowed_0 rfl (lv_at hl 1 rfl) ?_
  refine lv_iload_n (pc := 1) hx hb dX7_allowed_1 rfl (lv_at hl 2 rfl) ?_
  refine lv_iand (pc := 2) hx hb dX7_allowed_2 ?_
  refine lv_iload_n (pc := 3) hx hb dX7_allowed_3 rfl (lv_at hl 2 rfl) ?_
  refine lv_icmp_ne (pc := 4) (tgt := 29) hx hb dX7_allowed_4 (by decide) (fun c_1 => ?_) (fun c_1 => ?_)
  · replace hw := hw.2 c_1
    refine lv_iconst (pc := 29) (v := (0 : Int32)) hx hb dX7_allowed_29 (by decide) ?_
    exact hRetZ (S := Unit) () hx hb hr hlocks hQ (Or.inl rfl) hw hP hK hD hS dX7_allowed_30
  · replace hw := hw.1 c_1
    refine lv_iload_n (pc := 7) hx hb dX7_allowed_7 rfl (lv_at hl 1 rfl) ?_
    refine lv_iload_n (pc := 8) hx hb dX7_allowed_8 rfl (lv_at hl 3 rfl) ?_
    refine lv_iand (pc := 9) hx hb dX7_allowed_9 ?_
    refine lv_iload_n (pc := 10) hx hb dX7_allowed_10 rfl (lv_at hl 1 rfl) ?_
    refine lv_icmp_ne (pc := 11) (tgt := 29) hx hb dX7_allowed_11 (by decide) (fun c_2 => ?_) (fun c_2 => ?_)
    · replace hw := hw.2 c_2
      refine lv_iconst (pc := 29) (v := (0 : Int32)) hx hb dX7_allowed_29 (by decide) ?_
      exact hRetZ (S := Unit) () hx hb hr hlocks hQ (Or.inl rfl) hw hP hK hD hS dX7_allowed_30
    · replace hw := hw.1 c_2
      refine lv_iload_n (pc := 14) hx hb dX7_allowed_14 rfl (lv_at hl 1 rfl) ?_
      refine hCallI (pc := 15) (wr := [oX7 q pl_hands]) (wsf := fun (u : Unit) => []) [] [0] (va_runS (As := [.int p1]) (rest := []) ⟨hx, hb, hml, hown, hts⟩ (c_J6_bitCount_0f7a4 l G K tb q s.heap.size _ p1 hw) (va_cwS 1 hts gX7_allowed_J6_bitCount_0f7a4 rfl rfl rfl (by decide +kernel) ⟨Nat.le_of_ble_eq_true rfl, Nat.le_of_ble_eq_true rfl⟩) (hPreS hE hP hK hD hS hA [] (by decide) rfl rfl) rfl rfl hl.1 rfl (lv_room (Nat.le_of_ble_eq_true rfl)) dX7_allowed_15 ⟨Nat.zero_le _, Nat.zero_le _⟩) hP hD hS hA rfl rfl (by decide) (by decide) (fun r_3 u H locs hw hP hD hS => ?_)
      have hP : va_P G vwCl [oX7 q pl_hands] H := hP.sub [0] rfl
      have hD : va_D A [oX7 q pl_hands] := hD.sub [0] (by decide) rfl
      refine lv_aload_n (pc := 18) hx hb dX7_allowed_18 rfl (lv_at hl 0 rfl) ?_
      refine va_get (pc := 19) (D := G) (ci := 7) (v := .int pl_hands) (C := RX7) (T := TX7) (N := 4) hx hb hts iw_X7_allowed_X7 hown hK hP 0 rfl rfl 3 (by decide) (hts _ (List.mem_of_getElem? (i := 1) rfl)) (fun _ h9 => h9) rfl dX7_allowed_19 ?_
      have K_v_5 : ∀ v_5 : Int32, v_5 = (if pl_hands < r_3 then (0 : Int32) else (1 : Int32)) → W p l e rm_X7_allowed s m av below meth c H locs 0 0 Q (F0 m 30 ls [.int v_5]) := by
        intro v_5 ev_5
        replace hw := hw v_5 ev_5
        exact hRetZ (S := Unit) () hx hb hr hlocks hQ (by rw [ev_5]; (repeat' split) <;> first | exact Or.inl rfl | exact Or.inr rfl) hw hP hK hD hS dX7_allowed_30
      refine lv_icmp_gt (pc := 22) (tgt := 29) hx hb dX7_allowed_22 (by decide) (fun c_4 => ?_) (fun c_4 => ?_)
      · skip
        refine lv_iconst (pc := 29) (v := (0 : Int32)) hx hb dX7_allowed_29 (by decide) ?_
        exact K_v_5 _ (by rw [if_pos c_4])
      · skip
        refine lv_iconst (pc := 25) (v := (1 : Int32)) hx hb dX7_allowed_25 (by decide) ?_
        refine lv_goto (pc := 26) (tgt := 30) hx hb dX7_allowed_26 (by decide) ?_
        exact K_v_5 _ (by rw [if_neg c_4])
def P_X7_apart (post : Int32 → Prop) (p1 : Int32) (p2 : Int32) (pl_values : Nat → Int32) : Prop :=
  vp_in ((p1 * (4 : Int32)) + (0 : Int32)) 16 ∧ vp_in ((p2 * (4 : Int32)) + (0 : Int32)) 16 ∧ ∀ y_3 : Int32, y_3 = (if 0 ≤ ((pl_values ((p1 * (4 : Int32)) + (0 : Int32)).toNatClampNeg) - (pl_values ((p2 * (4 : Int32)) + (0 : Int32)).toNatClampNeg)) then ((pl_values ((p1 * (4 : Int32)) + (0 : Int32)).toNatClampNeg) - (pl_values ((p2 * (4 : Int32)) + (0 : Int32)).toNatClampNeg)) else 0 - ((pl_values ((p1 * (4 : Int32)) + (0 : Int32)).toNatClampNeg) - (pl_values ((p2 * (4 : Int32)) + (0 : Int32)).toNatClampNeg))) → post y_3
abbrev rm_X7_apart : Room := { frames := 1, cells := 0, slots := 0, locals := 23 }
theorem iw_X7_apart_X7 : ∀ w ∈ wsX70, w ∈ wsX7_apart := by decide +kernel
set_option maxHeartbeats 4000000 in
set_option maxRecDepth 100000 in
theorem c_X7_apart (l : Launch) (G : va_G) (K : ClassId × ClassId × ClassId) (tb q : Nat → Nat) (sz : Nat) (pl_hands : Int32) (post : Int32 → Prop) (p1 : Int32) (p2 : Int32) (pl_values : Nat → Int32) (hw : P_X7_apart post p1 p2 pl_values) : Met l yX7_apart wsX7_apart rm_X7_apart (va_Pc [.ref (q 31), .int p1, .int p2] (hPre G K tb [oX7 q pl_hands, aI K (q 32) 16 pl_values] sz)) (va_Qi (fun (r : Int32) (u : Unit) => post r) (fun u => hB G K (va_A [oX7 q pl_hands, aI K (q 32) 16 pl_values] sz) [oX7 q pl_hands, aI K (q 32) 16 pl_values]) (va_A [oX7 q pl_hands, aI K (q 32) 16 pl_values] sz)) 0 0 (va_A [oX7 q pl_hands, aI K (q 32) 16 pl_values] sz) := by
  refine hMet (fun A => va_Qi (fun (r : Int32) (u : Unit) => post r) (fun u => hB G K A [oX7 q pl_hands, aI K (q 32) 16 pl_values]) A) (by decide) rfl (Nat.le_of_ble_eq_true rfl) ?_
  intro p e s m av below meth c A Q ls hx hb hr hml hts hown hlocks hnm hA hP hK hD hS hE hQ hl
  have hts : ∀ w ∈ wsX7_apart, w.before av s = true := hts
  have hown : s.vm.findClass RX7 = some m.cls := hown
  have hl : lv_has ls 3 [(0, .ref (q 31)), (1, .int p1), (2, .int p2)] := hl
  unfold P_X7_apart at hw
  refine lv_aload_n (pc := 0) hx hb dX7_apart_0 rfl (lv_at hl 0 rfl) ?_
  refine va_get (pc := 1) (D := G) (ci := 7) (v := .ref (q 32)) (C := RX7) (T := TX7) (N := 4) hx hb hts iw_X7_apart_X7 hown hK hP 0 rfl rfl 0 (by decide) (hts _ (List.mem_of_getElem? (i := 1) rfl)) (fun _ h9 => h9) rfl dX7_apart_1 ?_
  refine lv_iload_n (pc := 4) hx hb dX7_apart_4 rfl (lv_at hl 1 rfl) ?_
  refine lv_iconst (pc := 5) (v := (4 : Int32)) hx hb dX7_apart_5 (by decide) ?_
  refine lv_imul (pc := 6) hx hb dX7_apart_6 ?_
  refine lv_iconst (pc := 7) (v := (0 : Int32)) hx hb dX7_apart_7 (by decide) ?_
  refine lv_iadd (pc := 8) hx hb dX7_apart_8 ?_
  obtain ⟨h_1, hw⟩ := hw
  refine va_iald (pc := 9) hx hb hK hP 1 0 rfl rfl h_1 dX7_apart_9 ?_
  refine lv_aload_n (pc := 10) hx hb dX7_apart_10 rfl (lv_at hl 0 rfl) ?_
  refine va_get (pc := 11) (D := G) (ci := 7) (v := .ref (q 32)) (C := RX7) (T := TX7) (N := 4) hx hb hts iw_X7_apart_X7 hown hK hP 0 rfl rfl 0 (by decide) (hts _ (List.mem_of_getElem? (i := 1) rfl)) (fun _ h9 => h9) rfl dX7_apart_11 ?_
  refine lv_iload_n (pc := 14) hx hb dX7_apart_14 rfl (lv_at hl 2 rfl) ?_
  refine lv_iconst (pc := 15) (v := (4 : Int32)) hx hb dX7_apart_15 (by decide) ?_
  refine lv_imul (pc := 16) hx hb dX7_apart_16 ?_
  refine lv_iconst (pc := 17) (v := (0 : Int32)) hx hb dX7_apart_17 (by decide) ?_
  refine lv_iadd (pc := 18) hx hb dX7_apart_18 ?_
  obtain ⟨h_2, hw⟩ := hw
  refine va_iald (pc := 19) hx hb hK hP 1 0 rfl rfl h_2 dX7_apart_19 ?_
  refine lv_isub (pc := 20) hx hb dX7_apart_20 ?_
  refine va_mabs (pc := 21) hx hb (hml.trans hl.1.symm) hown (hts _ (List.mem_of_getElem? (i := 2) rfl)) (hts _ (List.mem_of_getElem? (i := 3) rfl)) (hts _ (List.mem_of_getElem? (i := 4) rfl)) (hts _ (List.mem_of_getElem? (i := 5) rfl)) (Nat.le_of_ble_eq_true rfl) (Nat.le_of_ble_eq_true rfl) (Nat.zero_le _) (Nat.zero_le _) dX7_apart_21 ?_
  refine lv_topi (fun y_3 ey_3 => ?_)
  replace hw := hw y_3 ey_3
  exact hRetI (S := Unit) () hx hb hr hlocks hQ hw hP hK hD hS dX7_apart_24
def P_X7_slotOf (post : Int32 → Prop) (p0 : Int32) (p1 : Int32) : Prop :=
  ∀ (X4 : Int32 → Int32 → Prop),
  (∀ (x2 : Int32) (x3 : Int32), ((((4 : Int32) ≤ x3 → vp_in p0 8 ∧ post ((tBe p0.toNatClampNeg) + x2)) ∧ (¬ (4 : Int32) ≤ x3 → P_X7_lastsStill (fun r_3 => ∀ y_4 : Int32, y_4 = ((x2 * (p0 + (1 : Int32))) + r_3) → ∀ y_5 : Int32, y_5 = (x3 + (1 : Int32)) → X4 y_4 y_5) p1 x3))) → X4 x2 x3) →
  X4 (0 : Int32) (0 : Int32)
abbrev rm_X7_slotOf : Room := { frames := 1, cells := 0, slots := 0, locals := 21 }
set_option maxHeartbeats 4000000 in
set_option maxRecDepth 100000 in
theorem c_X7_slotOf (l : Launch) (G : va_G) (K : ClassId × ClassId × ClassId) (tb q : Nat → Nat) (sz : Nat) (post : Int32 → Prop) (p0 : Int32) (p1 : Int32) (hw : P_X7_slotOf post p0 p1) : Met l yX7_slotOf wsX7_slotOf rm_X7_slotOf (va_Pc [.int p0, .int p1] (hPre G K tb [] sz)) (va_Qi (fun (r : Int32) (u : Unit) => post r) (fun u => hB G K (va_A [] sz) []) (va_A [] sz)) 0 0 (va_A [] sz) := by
  refine hMet (fun A => va_Qi (fun (r : Int32) (u : Unit) => post r) (fun u => hB G K A []) A) (by decide) rfl (Nat.le_of_ble_eq_true rfl) ?_
  intro p e s m av below meth c A Q ls hx hb hr hml hts hown hlocks hnm hA hP hK hD hS hE hQ hl
  have hts : ∀ w ∈ wsX7_slotOf, w.before av s = true := hts
  have hown : s.vm.findClass RX7 = some m.cls := hown
  have hl : lv_has ls 4 [(0, .int p0), (1, .int p1)] := hl
  unfold P_X7_slotOf at hw
  replace hw := hw (fun (x2 : Int32) (x3 : Int32) => ∀ (H : Heap) (locs : List Loc) (ls : Array Slot), va_P G vwCl [] H → va_D A [] → va_S A s.heap H locs → lv_has ls 4 [(0, .int p0), (1, .int p1), (2, .int x2), (3, .int x3)] → W p l e rm_X7_slotOf s m av below meth c H locs 0 0 Q (F0 m 4 ls []))
  replace hw := hw (by
    intro x2 x3 hw H locs ls hP hD hS hl
    refine lv_iload_n (pc := 4) hx hb dX7_slotOf_4 rfl (lv_at hl 3 rfl) ?_
    refine lv_iconst (pc := 5) (v := (4 : Int32)) hx hb dX7_slotOf_5 (by decide) ?_
    refine lv_icmp_ge (pc := 6) (tgt := 27) hx hb dX7_slotOf_6 (by decide) (fun c_1 => ?_) (fun c_1 => ?_)
    · replace hw := hw.1 c_1
      refine va_gets (pc := 27) hx hb hE.2.2.2.2.1.1 hS hown (hts _ (List.mem_of_getElem? (i := 1) rfl)) (fun _ h9 => h9) dX7_slotOf_27 ?_
      refine lv_iload_n (pc := 30) hx hb dX7_slotOf_30 rfl (lv_at hl 0 rfl) ?_
      obtain ⟨h_2, hw⟩ := hw
      refine va_ti (pc := 31) (v := .int (tBe p0.toNatClampNeg)) hx hb hE.2.2.2.2.1.2 hS h_2 rfl dX7_slotOf_31 ?_
      refine lv_iload_n (pc := 32) hx hb dX7_slotOf_32 rfl (lv_at hl 2 rfl) ?_
      refine lv_iadd (pc := 33) hx hb dX7_slotOf_33 ?_
      exact hRetI (S := Unit) () hx hb hr hlocks hQ hw hP hK hD hS dX7_slotOf_34
    · replace hw := hw.2 c_1
      refine lv_iload_n (pc := 9) hx hb dX7_slotOf_9 rfl (lv_at hl 2 rfl) ?_
      refine lv_iload_n (pc := 10) hx hb dX7_slotOf_10 rfl (lv_at hl 0 rfl) ?_
      refine lv_iconst (pc := 11) (v := (1 : Int32)) hx hb dX7_slotOf_11 (by decide) ?_
      refine lv_iadd (pc := 12) hx hb dX7_slotOf_12 ?_
      refine lv_imul (pc := 13) hx hb dX7_slotOf_13 ?_
      refine lv_iload_n (pc := 14) hx hb dX7_slotOf_14 rfl (lv_at hl 1 rfl) ?_
      refine lv_iload_n (pc := 15) hx hb dX7_slotOf_15 rfl (lv_at hl 3 rfl) ?_
      refine hCallI (pc := 16) (wr := []) (wsf := fun (u : Unit) => []) [] [] (va_runS (As := [.int p1, .int x3]) (rest := [.int (x2 * (p0 + (1 : Int32)))]) ⟨hx, hb, hml, hown, hts⟩ (c_X7_lastsStill l G K tb q H.size _ p1 x3 hw) (va_cwS 2 hts gX7_slotOf_X7_lastsStill rfl rfl rfl (by decide +kernel) ⟨Nat.le_of_ble_eq_true rfl, Nat.le_of_ble_eq_true rfl⟩) (hPreS hE hP hK hD hS hA [] (by decide) rfl rfl) rfl rfl hl.1 rfl (lv_room (Nat.le_of_ble_eq_true rfl)) dX7_slotOf_16 ⟨Nat.zero_le _, Nat.zero_le _⟩) hP hD hS hA rfl rfl (by decide) (by decide) (fun r_3 u H locs hw hP hD hS => ?_)
      have hP : va_P G vwCl [] H := hP.sub [] rfl
      have hD : va_D A [] := hD.sub [] (by decide) rfl
      refine lv_iadd (pc := 19) hx hb dX7_slotOf_19 ?_
      refine lv_topi (fun y_4 ey_4 => ?_)
      replace hw := hw y_4 ey_4
      refine lv_istore_n (pc := 20) (lv' := [(2, .int y_4), (0, .int p0), (1, .int p1), (3, .int x3)]) hx hb dX7_slotOf_20 rfl hl (by decide) rfl (fun ls hl => ?_)
      obtain ⟨y_5, ey_5⟩ : ∃ z : Int32, z = (x3 + (1 : Int32)) := ⟨_, rfl⟩
      replace hw := hw y_5 ey_5
      refine lv_iinc (pc := 21) (v := y_5) (lv' := [(3, .int y_5), (2, .int y_4), (0, .int p0), (1, .int p1)]) hx hb dX7_slotOf_21 hl (k := 3) rfl (by rw [ey_5]; rfl) (by decide) rfl (fun ls hl => ?_)
      refine lv_goto (pc := 24) (tgt := 4) hx hb dX7_slotOf_24 (by decide) ?_
      exact hw _ _ _ hP hD hS (lv_sub hl [2, 3, 1, 0] rfl))
  refine lv_iconst (pc := 0) (v := (0 : Int32)) hx hb dX7_slotOf_0 (by decide) ?_
  refine lv_istore_n (pc := 1) (lv' := [(2, .int (0 : Int32)), (0, .int p0), (1, .int p1)]) hx hb dX7_slotOf_1 rfl hl (by decide) rfl (fun ls hl => ?_)
  refine lv_iconst (pc := 2) (v := (0 : Int32)) hx hb dX7_slotOf_2 (by decide) ?_
  refine lv_istore_n (pc := 3) (lv' := [(3, .int (0 : Int32)), (2, .int (0 : Int32)), (0, .int p0), (1, .int p1)]) hx hb dX7_slotOf_3 rfl hl (by decide) rfl (fun ls hl => ?_)
  exact hw _ _ _ hP hD hS (lv_sub hl [2, 3, 1, 0] rfl)
def P_X7_recall (post : Int32 → Prop) (p1 : Int32) (pl_found : Nat → Int64) : Prop :=
  vp_in (p1 / (10 : Int32)) 878 ∧ post (((pl_found (p1 / (10 : Int32)).toNatClampNeg) >>> (((6 : Int32) * (p1 - p1 / (10 : Int32) * (10 : Int32))).toInt64 &&& 63)) &&& (63 : Int64)).toInt32
abbrev rm_X7_recall : Room := { frames := 0, cells := 0, slots := 0, locals := 0 }
theorem iw_X7_recall_X7 : ∀ w ∈ wsX70, w ∈ wsX7_recall := by decide +kernel
set_option maxHeartbeats 4000000 in
set_option maxRecDepth 100000 in
theorem c_X7_recall (l : Launch) (G : va_G) (K : ClassId × ClassId × ClassId) (tb q : Nat → Nat) (sz : Nat) (pl_hands : Int32) (post : Int32 → Prop) (p1 : Int32) (pl_found : Nat → Int64) (hw : P_X7_recall post p1 pl_found) : Met l yX7_recall wsX7_recall rm_X7_recall (va_Pc [.ref (q 31), .int p1] (hPre G K tb [oX7 q pl_hands, aJ K (q 34) 878 pl_found] sz)) (va_Qi (fun (r : Int32) (u : Unit) => post r) (fun u => hB G K (va_A [oX7 q pl_hands, aJ K (q 34) 878 pl_found] sz) [oX7 q pl_hands, aJ K (q 34) 878 pl_found]) (va_A [oX7 q pl_hands, aJ K (q 34) 878 pl_found] sz)) 0 0 (va_A [oX7 q pl_hands, aJ K (q 34) 878 pl_found] sz) := by
  refine hMet (fun A => va_Qi (fun (r : Int32) (u : Unit) => post r) (fun u => hB G K A [oX7 q pl_hands, aJ K (q 34) 878 pl_found]) A) (by decide) rfl (Nat.le_of_ble_eq_true rfl) ?_
  intro p e s m av below meth c A Q ls hx hb hr hml hts hown hlocks hnm hA hP hK hD hS hE hQ hl
  have hts : ∀ w ∈ wsX7_recall, w.before av s = true := hts
  have hown : s.vm.findClass RX7 = some m.cls := hown
  have hl : lv_has ls 2 [(0, .ref (q 31)), (1, .int p1)] := hl
  unfold P_X7_recall at hw
  refine lv_aload_n (pc := 0) hx hb dX7_recall_0 rfl (lv_at hl 0 rfl) ?_
  refine va_get (pc := 1) (D := G) (ci := 7) (v := .ref (q 34)) (C := RX7) (T := TX7) (N := 4) hx hb hts iw_X7_recall_X7 hown hK hP 0 rfl rfl 2 (by decide) (hts _ (List.mem_of_getElem? (i := 1) rfl)) (fun _ h9 => h9) rfl dX7_recall_1 ?_
  refine lv_iload_n (pc := 4) hx hb dX7_recall_4 rfl (lv_at hl 1 rfl) ?_
  refine lv_bipush (pc := 5) (v := (10 : Int32)) hx hb dX7_recall_5 (by decide) ?_
  refine lv_idiv (pc := 7) hx hb dX7_recall_7 (by decide) ?_
  obtain ⟨h_1, hw⟩ := hw
  refine va_lald (pc := 8) hx hb hK hP 1 1 rfl rfl h_1 dX7_recall_8 ?_
  refine lv_bipush (pc := 9) (v := (6 : Int32)) hx hb dX7_recall_9 (by decide) ?_
  refine lv_iload_n (pc := 11) hx hb dX7_recall_11 rfl (lv_at hl 1 rfl) ?_
  refine lv_bipush (pc := 12) (v := (10 : Int32)) hx hb dX7_recall_12 (by decide) ?_
  refine lv_irem (pc := 14) hx hb dX7_recall_14 (by decide) ?_
  refine lv_imul (pc := 15) hx hb dX7_recall_15 ?_
  refine lv_lshr (pc := 16) hx hb dX7_recall_16 rfl ?_
  refine lv_ldc2 (pc := 17) (v := (63 : Int64)) hx hb hown (hts _ (List.mem_of_getElem? (i := 2) rfl)) dX7_recall_17 ?_
  refine lv_land (pc := 20) hx hb dX7_recall_20 ?_
  refine lv_l2i (pc := 21) hx hb dX7_recall_21 rfl ?_
  exact hRetI (S := Unit) () hx hb hr hlocks hQ hw hP hK hD hS dX7_recall_22
def P_X7_lotsThatMust (post : Int32 → Prop) (p0 : Int32) : Prop :=
  ∀ (X4 : Int32 → Int32 → Prop),
  (∀ (x1 : Int32) (x2 : Int32), ((((4 : Int32) ≤ x2 → post x1) ∧ (¬ (4 : Int32) ≤ x2 → P_X7_lastsStill (fun r_2 => ∀ v_4 : Int32, v_4 = (if r_2 = (0 : Int32) then (1 : Int32) else (0 : Int32)) → ∀ y_5 : Int32, y_5 = (x1 ||| (v_4 <<< (x2 &&& 31))) → ∀ y_6 : Int32, y_6 = (x2 + (1 : Int32)) → X4 y_5 y_6) p0 x2))) → X4 x1 x2) →
  X4 (0 : Int32) (0 : Int32)
abbrev rm_X7_lotsThatMust : Room := { frames := 1, cells := 0, slots := 0, locals := 21 }
set_option maxHeartbeats 4000000 in
set_option maxRecDepth 100000 in
theorem c_X7_lotsThatMust (l : Launch) (G : va_G) (K : ClassId × ClassId × ClassId) (tb q : Nat → Nat) (sz : Nat) (post : Int32 → Prop) (p0 : Int32) (hw : P_X7_lotsThatMust post p0) : Met l yX7_lotsThatMust wsX7_lotsThatMust rm_X7_lotsThatMust (va_Pc [.int p0] (hPre G K tb [] sz)) (va_Qi (fun (r : Int32) (u : Unit) => post r) (fun u => hB G K (va_A [] sz) []) (va_A [] sz)) 0 0 (va_A [] sz) := by
  refine hMet (fun A => va_Qi (fun (r : Int32) (u : Unit) => post r) (fun u => hB G K A []) A) (by decide) rfl (Nat.le_of_ble_eq_true rfl) ?_
  intro p e s m av below meth c A Q ls hx hb hr hml hts hown hlocks hnm hA hP hK hD hS hE hQ hl
  have hts : ∀ w ∈ wsX7_lotsThatMust, w.before av s = true := hts
  have hown : s.vm.findClass RX7 = some m.cls := hown
  have hl : lv_has ls 3 [(0, .int p0)] := hl
  unfold P_X7_lotsThatMust at hw
  replace hw := hw (fun (x1 : Int32) (x2 : Int32) => ∀ (H : Heap) (locs : List Loc) (ls : Array Slot), va_P G vwCl [] H → va_D A [] → va_S A s.heap H locs → lv_has ls 3 [(0, .int p0), (1, .int x1), (2, .int x2)] → W p l e rm_X7_lotsThatMust s m av below meth c H locs 0 0 Q (F0 m 4 ls []))
  replace hw := hw (by
    intro x1 x2 hw H locs ls hP hD hS hl
    refine lv_iload_n (pc := 4) hx hb dX7_lotsThatMust_4 rfl (lv_at hl 2 rfl) ?_
    refine lv_iconst (pc := 5) (v := (4 : Int32)) hx hb dX7_lotsThatMust_5 (by decide) ?_
    refine lv_icmp_ge (pc := 6) (tgt := 33) hx hb dX7_lotsThatMust_6 (by decide) (fun c_1 => ?_) (fun c_1 => ?_)
    · replace hw := hw.1 c_1
      refine lv_iload_n (pc := 33) hx hb dX7_lotsThatMust_33 rfl (lv_at hl 1 rfl) ?_
      exact hRetI (S := Unit) () hx hb hr hlocks hQ hw hP hK hD hS dX7_lotsThatMust_34
    · replace hw := hw.2 c_1
      refine lv_iload_n (pc := 9) hx hb dX7_lotsThatMust_9 rfl (lv_at hl 1 rfl) ?_
      refine lv_iload_n (pc := 10) hx hb dX7_lotsThatMust_10 rfl (lv_at hl 0 rfl) ?_
      refine lv_iload_n (pc := 11) hx hb dX7_lotsThatMust_11 rfl (lv_at hl 2 rfl) ?_
      refine hCallI (pc := 12) (wr := []) (wsf := fun (u : Unit) => []) [] [] (va_runS (As := [.int p0, .int x2]) (rest := [.int x1]) ⟨hx, hb, hml, hown, hts⟩ (c_X7_lastsStill l G K tb q H.size _ p0 x2 hw) (va_cwS 2 hts gX7_lotsThatMust_X7_lastsStill rfl rfl rfl (by decide +kernel) ⟨Nat.le_of_ble_eq_true rfl, Nat.le_of_ble_eq_true rfl⟩) (hPreS hE hP hK hD hS hA [] (by decide) rfl rfl) rfl rfl hl.1 rfl (lv_room (Nat.le_of_ble_eq_true rfl)) dX7_lotsThatMust_12 ⟨Nat.zero_le _, Nat.zero_le _⟩) hP hD hS hA rfl rfl (by decide) (by decide) (fun r_2 u H locs hw hP hD hS => ?_)
      have hP : va_P G vwCl [] H := hP.sub [] rfl
      have hD : va_D A [] := hD.sub [] (by decide) rfl
      have K_v_4 : ∀ v_4 : Int32, v_4 = (if r_2 = (0 : Int32) then (1 : Int32) else (0 : Int32)) → W p l e rm_X7_lotsThatMust s m av below meth c H locs 0 0 Q (F0 m 23 ls [.int v_4, .int x1]) := by
        intro v_4 ev_4
        replace hw := hw v_4 ev_4
        refine lv_iload_n (pc := 23) hx hb dX7_lotsThatMust_23 rfl (lv_at hl 2 rfl) ?_
        refine lv_ishl (pc := 24) hx hb dX7_lotsThatMust_24 ?_
        refine lv_ior (pc := 25) hx hb dX7_lotsThatMust_25 ?_
        refine lv_topi (fun y_5 ey_5 => ?_)
        replace hw := hw y_5 ey_5
        refine lv_istore_n (pc := 26) (lv' := [(1, .int y_5), (0, .int p0), (2, .int x2)]) hx hb dX7_lotsThatMust_26 rfl hl (by decide) rfl (fun ls hl => ?_)
        obtain ⟨y_6, ey_6⟩ : ∃ z : Int32, z = (x2 + (1 : Int32)) := ⟨_, rfl⟩
        replace hw := hw y_6 ey_6
        refine lv_iinc (pc := 27) (v := y_6) (lv' := [(2, .int y_6), (1, .int y_5), (0, .int p0)]) hx hb dX7_lotsThatMust_27 hl (k := 2) rfl (by rw [ey_6]; rfl) (by decide) rfl (fun ls hl => ?_)
        refine lv_goto (pc := 30) (tgt := 4) hx hb dX7_lotsThatMust_30 (by decide) ?_
        exact hw _ _ _ hP hD hS (lv_sub hl [2, 1, 0] rfl)
      refine lv_if_ne (pc := 15) (tgt := 22) hx hb dX7_lotsThatMust_15 (by decide) (fun c_3 => ?_) (fun c_3 => ?_)
      · skip
        refine lv_iconst (pc := 22) (v := (0 : Int32)) hx hb dX7_lotsThatMust_22 (by decide) ?_
        exact K_v_4 _ (by rw [if_neg c_3])
      · skip
        refine lv_iconst (pc := 18) (v := (1 : Int32)) hx hb dX7_lotsThatMust_18 (by decide) ?_
        refine lv_goto (pc := 19) (tgt := 23) hx hb dX7_lotsThatMust_19 (by decide) ?_
        exact K_v_4 _ (by rw [if_pos c_3]))
  refine lv_iconst (pc := 0) (v := (0 : Int32)) hx hb dX7_lotsThatMust_0 (by decide) ?_
  refine lv_istore_n (pc := 1) (lv' := [(1, .int (0 : Int32)), (0, .int p0)]) hx hb dX7_lotsThatMust_1 rfl hl (by decide) rfl (fun ls hl => ?_)
  refine lv_iconst (pc := 2) (v := (0 : Int32)) hx hb dX7_lotsThatMust_2 (by decide) ?_
  refine lv_istore_n (pc := 3) (lv' := [(2, .int (0 : Int32)), (1, .int (0 : Int32)), (0, .int p0)]) hx hb dX7_lotsThatMust_3 rfl hl (by decide) rfl (fun ls hl => ?_)
  exact hw _ _ _ hP hD hS (lv_sub hl [2, 1, 0] rfl)
def P_X7_lotsThatMay (post : Int32 → Prop) (p1 : Int32) (p2 : Int32) (pl_renewed : Nat → Int32) : Prop :=
  ∀ (X5 : Int32 → Int32 → Prop),
  (∀ (x3 : Int32) (x4 : Int32), ((((4 : Int32) ≤ x4 → post x3) ∧ (¬ (4 : Int32) ≤ x4 → P_X7_lastsStill (fun r_2 => vp_in x4 4 ∧ ∀ y_4 : Int32, y_4 = (if (pl_renewed x4.toNatClampNeg) < p1 then (pl_renewed x4.toNatClampNeg) else p1) → ∀ v_6 : Int32, v_6 = (if y_4 ≤ r_2 then (0 : Int32) else (1 : Int32)) → ∀ v_8 : Int32, v_8 = (if v_6 = (0 : Int32) then (0 : Int32) else (1 : Int32)) → ∀ y_9 : Int32, y_9 = (x3 ||| (v_8 <<< (x4 &&& 31))) → ∀ y_10 : Int32, y_10 = (x4 + (1 : Int32)) → X5 y_9 y_10) p2 x4))) → X5 x3 x4) →
  X5 (0 : Int32) (0 : Int32)
abbrev rm_X7_lotsThatMay : Room := { frames := 1, cells := 0, slots := 0, locals := 23 }
theorem iw_X7_lotsThatMay_X7 : ∀ w ∈ wsX70, w ∈ wsX7_lotsThatMay := by decide +kernel
set_option maxHeartbeats 4000000 in
set_option maxRecDepth 100000 in
theorem c_X7_lotsThatMay (l : Launch) (G : va_G) (K : ClassId × ClassId × ClassId) (tb q : Nat → Nat) (sz : Nat) (pl_hands : Int32) (post : Int32 → Prop) (p1 : Int32) (p2 : Int32) (pl_renewed : Nat → Int32) (hw : P_X7_lotsThatMay post p1 p2 pl_renewed) : Met l yX7_lotsThatMay wsX7_lotsThatMay rm_X7_lotsThatMay (va_Pc [.ref (q 31), .int p1, .int p2] (hPre G K tb [oX7 q pl_hands, aI K (q 33) 4 pl_renewed] sz)) (va_Qi (fun (r : Int32) (u : Unit) => post r) (fun u => hB G K (va_A [oX7 q pl_hands, aI K (q 33) 4 pl_renewed] sz) [oX7 q pl_hands, aI K (q 33) 4 pl_renewed]) (va_A [oX7 q pl_hands, aI K (q 33) 4 pl_renewed] sz)) 0 0 (va_A [oX7 q pl_hands, aI K (q 33) 4 pl_renewed] sz) := by
  refine hMet (fun A => va_Qi (fun (r : Int32) (u : Unit) => post r) (fun u => hB G K A [oX7 q pl_hands, aI K (q 33) 4 pl_renewed]) A) (by decide) rfl (Nat.le_of_ble_eq_true rfl) ?_
  intro p e s m av below meth c A Q ls hx hb hr hml hts hown hlocks hnm hA hP hK hD hS hE hQ hl
  have hts : ∀ w ∈ wsX7_lotsThatMay, w.before av s = true := hts
  have hown : s.vm.findClass RX7 = some m.cls := hown
  have hl : lv_has ls 6 [(0, .ref (q 31)), (1, .int p1), (2, .int p2)] := hl
  unfold P_X7_lotsThatMay at hw
  replace hw := hw (fun (x3 : Int32) (x4 : Int32) => ∀ (H : Heap) (locs : List Loc) (ls : Array Slot), va_P G vwCl [oX7 q pl_hands, aI K (q 33) 4 pl_renewed] H → va_D A [oX7 q pl_hands, aI K (q 33) 4 pl_renewed] → va_S A s.heap H locs → lv_has ls 6 [(0, .ref (q 31)), (1, .int p1), (2, .int p2), (3, .int x3), (4, .int x4)] → W p l e rm_X7_lotsThatMay s m av below meth c H locs 0 0 Q (F0 m 5 ls []))
  replace hw := hw (by
    intro x3 x4 hw H locs ls hP hD hS hl
    refine lv_iload (pc := 5) hx hb dX7_lotsThatMay_5 (lv_at hl 4 rfl) ?_
    refine lv_iconst (pc := 7) (v := (4 : Int32)) hx hb dX7_lotsThatMay_7 (by decide) ?_
    refine lv_icmp_ge (pc := 8) (tgt := 60) hx hb dX7_lotsThatMay_8 (by decide) (fun c_1 => ?_) (fun c_1 => ?_)
    · replace hw := hw.1 c_1
      refine lv_iload_n (pc := 60) hx hb dX7_lotsThatMay_60 rfl (lv_at hl 3 rfl) ?_
      exact hRetI (S := Unit) () hx hb hr hlocks hQ hw hP hK hD hS dX7_lotsThatMay_61
    · replace hw := hw.2 c_1
      refine lv_iload_n (pc := 11) hx hb dX7_lotsThatMay_11 rfl (lv_at hl 2 rfl) ?_
      refine lv_iload (pc := 12) hx hb dX7_lotsThatMay_12 (lv_at hl 4 rfl) ?_
      refine hCallI (pc := 14) (wr := [oX7 q pl_hands, aI K (q 33) 4 pl_renewed]) (wsf := fun (u : Unit) => []) [] [0, 1] (va_runS (As := [.int p2, .int x4]) (rest := []) ⟨hx, hb, hml, hown, hts⟩ (c_X7_lastsStill l G K tb q H.size _ p2 x4 hw) (va_cwS 2 hts gX7_lotsThatMay_X7_lastsStill rfl rfl rfl (by decide +kernel) ⟨Nat.le_of_ble_eq_true rfl, Nat.le_of_ble_eq_true rfl⟩) (hPreS hE hP hK hD hS hA [] (by decide) rfl rfl) rfl rfl hl.1 rfl (lv_room (Nat.le_of_ble_eq_true rfl)) dX7_lotsThatMay_14 ⟨Nat.zero_le _, Nat.zero_le _⟩) hP hD hS hA rfl rfl (by decide) (by decide) (fun r_2 u H locs hw hP hD hS => ?_)
      have hP : va_P G vwCl [oX7 q pl_hands, aI K (q 33) 4 pl_renewed] H := hP.sub [0, 1] rfl
      have hD : va_D A [oX7 q pl_hands, aI K (q 33) 4 pl_renewed] := hD.sub [0, 1] (by decide) rfl
      refine lv_iload_n (pc := 17) hx hb dX7_lotsThatMay_17 rfl (lv_at hl 1 rfl) ?_
      refine lv_aload_n (pc := 18) hx hb dX7_lotsThatMay_18 rfl (lv_at hl 0 rfl) ?_
      refine va_get (pc := 19) (D := G) (ci := 7) (v := .ref (q 33)) (C := RX7) (T := TX7) (N := 4) hx hb hts iw_X7_lotsThatMay_X7 hown hK hP 0 rfl rfl 1 (by decide) (hts _ (List.mem_of_getElem? (i := 1) rfl)) (fun _ h9 => h9) rfl dX7_lotsThatMay_19 ?_
      refine lv_iload (pc := 22) hx hb dX7_lotsThatMay_22 (lv_at hl 4 rfl) ?_
      obtain ⟨h_3, hw⟩ := hw
      refine va_iald (pc := 24) hx hb hK hP 1 0 rfl rfl h_3 dX7_lotsThatMay_24 ?_
      refine va_mmin (pc := 25) hx hb (hml.trans hl.1.symm) hown (hts _ (List.mem_of_getElem? (i := 2) rfl)) (hts _ (List.mem_of_getElem? (i := 3) rfl)) (hts _ (List.mem_of_getElem? (i := 4) rfl)) (hts _ (List.mem_of_getElem? (i := 5) rfl)) (Nat.le_of_ble_eq_true rfl) (Nat.le_of_ble_eq_true rfl) (Nat.zero_le _) (Nat.zero_le _) dX7_lotsThatMay_25 ?_
      refine lv_topi (fun y_4 ey_4 => ?_)
      replace hw := hw y_4 ey_4
      have K_v_6 : ∀ v_6 : Int32, v_6 = (if y_4 ≤ r_2 then (0 : Int32) else (1 : Int32)) → W p l e rm_X7_lotsThatMay s m av below meth c H locs 0 0 Q (F0 m 36 ls [.int v_6]) := by
        intro v_6 ev_6
        replace hw := hw v_6 ev_6
        refine lv_istore (pc := 36) (lv' := [(5, .int v_6), (0, .ref (q 31)), (1, .int p1), (2, .int p2), (3, .int x3), (4, .int x4)]) hx hb dX7_lotsThatMay_36 hl (by decide) rfl (fun ls hl => ?_)
        refine lv_iload_n (pc := 38) hx hb dX7_lotsThatMay_38 rfl (lv_at hl 4 rfl) ?_
        refine lv_iload (pc := 39) hx hb dX7_lotsThatMay_39 (lv_at hl 0 rfl) ?_
        have K_v_8 : ∀ v_8 : Int32, v_8 = (if v_6 = (0 : Int32) then (0 : Int32) else (1 : Int32)) → W p l e rm_X7_lotsThatMay s m av below meth c H locs 0 0 Q (F0 m 49 ls [.int v_8, .int x3]) := by
          intro v_8 ev_8
          replace hw := hw v_8 ev_8
          refine lv_iload (pc := 49) hx hb dX7_lotsThatMay_49 (lv_at hl 5 rfl) ?_
          refine lv_ishl (pc := 51) hx hb dX7_lotsThatMay_51 ?_
          refine lv_ior (pc := 52) hx hb dX7_lotsThatMay_52 ?_
          refine lv_topi (fun y_9 ey_9 => ?_)
          replace hw := hw y_9 ey_9
          refine lv_istore_n (pc := 53) (lv' := [(3, .int y_9), (5, .int v_6), (0, .ref (q 31)), (1, .int p1), (2, .int p2), (4, .int x4)]) hx hb dX7_lotsThatMay_53 rfl hl (by decide) rfl (fun ls hl => ?_)
          obtain ⟨y_10, ey_10⟩ : ∃ z : Int32, z = (x4 + (1 : Int32)) := ⟨_, rfl⟩
          replace hw := hw y_10 ey_10
          refine lv_iinc (pc := 54) (v := y_10) (lv' := [(4, .int y_10), (3, .int y_9), (5, .int v_6), (0, .ref (q 31)), (1, .int p1), (2, .int p2)]) hx hb dX7_lotsThatMay_54 hl (k := 5) rfl (by rw [ey_10]; rfl) (by decide) rfl (fun ls hl => ?_)
          refine lv_goto (pc := 57) (tgt := 5) hx hb dX7_lotsThatMay_57 (by decide) ?_
          exact hw _ _ _ hP hD hS (lv_sub hl [3, 4, 5, 1, 0] rfl)
        refine lv_if_eq (pc := 41) (tgt := 48) hx hb dX7_lotsThatMay_41 (by decide) (fun c_7 => ?_) (fun c_7 => ?_)
        · skip
          refine lv_iconst (pc := 48) (v := (0 : Int32)) hx hb dX7_lotsThatMay_48 (by decide) ?_
          exact K_v_8 _ (by rw [if_pos c_7])
        · skip
          refine lv_iconst (pc := 44) (v := (1 : Int32)) hx hb dX7_lotsThatMay_44 (by decide) ?_
          refine lv_goto (pc := 45) (tgt := 49) hx hb dX7_lotsThatMay_45 (by decide) ?_
          exact K_v_8 _ (by rw [if_neg c_7])
      refine lv_icmp_ge (pc := 28) (tgt := 35) hx hb dX7_lotsThatMay_28 (by decide) (fun c_5 => ?_) (fun c_5 => ?_)
      · skip
        refine lv_iconst (pc := 35) (v := (0 : Int32)) hx hb dX7_lotsThatMay_35 (by decide) ?_
        exact K_v_6 _ (by rw [if_pos c_5])
      · skip
        refine lv_iconst (pc := 31) (v := (1 : Int32)) hx hb dX7_lotsThatMay_31 (by decide) ?_
        refine lv_goto (pc := 32) (tgt := 36) hx hb dX7_lotsThatMay_32 (by decide) ?_
        exact K_v_6 _ (by rw [if_neg c_5]))
  refine lv_iconst (pc := 0) (v := (0 : Int32)) hx hb dX7_lotsThatMay_0 (by decide) ?_
  refine lv_istore_n (pc := 1) (lv' := [(3, .int (0 : Int32)), (0, .ref (q 31)), (1, .int p1), (2, .int p2)]) hx hb dX7_lotsThatMay_1 rfl hl (by decide) rfl (fun ls hl => ?_)
  refine lv_iconst (pc := 2) (v := (0 : Int32)) hx hb dX7_lotsThatMay_2 (by decide) ?_
  refine lv_istore (pc := 3) (lv' := [(4, .int (0 : Int32)), (3, .int (0 : Int32)), (0, .ref (q 31)), (1, .int p1), (2, .int p2)]) hx hb dX7_lotsThatMay_3 hl (by decide) rfl (fun ls hl => ?_)
  exact hw _ _ _ hP hD hS (lv_sub hl [2, 3, 4, 1, 0] rfl)
def P_X7_keep (post : (Nat → Int64) → Prop) (p1 : Int32) (p2 : Int32) (pl_found : Nat → Int64) : Prop :=
  vp_in (p1 / (10 : Int32)) 878 ∧ ∀ pl_found_2 : Nat → Int64, pl_found_2 = vp_updL pl_found (p1 / (10 : Int32)).toNatClampNeg ((pl_found (p1 / (10 : Int32)).toNatClampNeg) ||| (p2.toInt64 <<< (((6 : Int32) * (p1 - p1 / (10 : Int32) * (10 : Int32))).toInt64 &&& 63))) → post pl_found_2
abbrev rm_X7_keep : Room := { frames := 0, cells := 0, slots := 0, locals := 0 }
theorem iw_X7_keep_X7 : ∀ w ∈ wsX70, w ∈ wsX7_keep := by decide +kernel
set_option maxHeartbeats 4000000 in
set_option maxRecDepth 100000 in
theorem c_X7_keep (l : Launch) (G : va_G) (K : ClassId × ClassId × ClassId) (tb q : Nat → Nat) (sz : Nat) (pl_hands : Int32) (post : (Nat → Int64) → Prop) (p1 : Int32) (p2 : Int32) (pl_found : Nat → Int64) (hw : P_X7_keep post p1 p2 pl_found) : Met l yX7_keep wsX7_keep rm_X7_keep (va_Pc [.ref (q 31), .int p1, .int p2] (hPre G K tb [oX7 q pl_hands, aJ K (q 34) 878 pl_found] sz)) (va_Qv (fun (u : (Nat → Int64)) => post u) (fun u => hB G K (va_A [oX7 q pl_hands, aJ K (q 34) 878 pl_found] sz) [oX7 q pl_hands, aJ K (q 34) 878 u]) (va_A [oX7 q pl_hands, aJ K (q 34) 878 pl_found] sz)) 0 0 (va_A [oX7 q pl_hands, aJ K (q 34) 878 pl_found] sz) := by
  refine hMet (fun A => va_Qv (fun (u : (Nat → Int64)) => post u) (fun u => hB G K A [oX7 q pl_hands, aJ K (q 34) 878 u]) A) (by decide) rfl (Nat.le_of_ble_eq_true rfl) ?_
  intro p e s m av below meth c A Q ls hx hb hr hml hts hown hlocks hnm hA hP hK hD hS hE hQ hl
  have hts : ∀ w ∈ wsX7_keep, w.before av s = true := hts
  have hown : s.vm.findClass RX7 = some m.cls := hown
  have hl : lv_has ls 3 [(0, .ref (q 31)), (1, .int p1), (2, .int p2)] := hl
  unfold P_X7_keep at hw
  refine lv_aload_n (pc := 0) hx hb dX7_keep_0 rfl (lv_at hl 0 rfl) ?_
  refine va_get (pc := 1) (D := G) (ci := 7) (v := .ref (q 34)) (C := RX7) (T := TX7) (N := 4) hx hb hts iw_X7_keep_X7 hown hK hP 0 rfl rfl 2 (by decide) (hts _ (List.mem_of_getElem? (i := 1) rfl)) (fun _ h9 => h9) rfl dX7_keep_1 ?_
  refine lv_iload_n (pc := 4) hx hb dX7_keep_4 rfl (lv_at hl 1 rfl) ?_
  refine lv_bipush (pc := 5) (v := (10 : Int32)) hx hb dX7_keep_5 (by decide) ?_
  refine lv_idiv (pc := 7) hx hb dX7_keep_7 (by decide) ?_
  refine lv_dup2_11 (pc := 8) hx hb dX7_keep_8 rfl rfl ?_
  obtain ⟨h_1, hw⟩ := hw
  refine va_lald (pc := 9) hx hb hK hP 1 1 rfl rfl h_1 dX7_keep_9 ?_
  refine lv_iload_n (pc := 10) hx hb dX7_keep_10 rfl (lv_at hl 2 rfl) ?_
  refine lv_i2l (pc := 11) hx hb dX7_keep_11 rfl ?_
  refine lv_bipush (pc := 12) (v := (6 : Int32)) hx hb dX7_keep_12 (by decide) ?_
  refine lv_iload_n (pc := 14) hx hb dX7_keep_14 rfl (lv_at hl 1 rfl) ?_
  refine lv_bipush (pc := 15) (v := (10 : Int32)) hx hb dX7_keep_15 (by decide) ?_
  refine lv_irem (pc := 17) hx hb dX7_keep_17 (by decide) ?_
  refine lv_imul (pc := 18) hx hb dX7_keep_18 ?_
  refine lv_lshl (pc := 19) hx hb dX7_keep_19 rfl ?_
  refine lv_lor (pc := 20) hx hb dX7_keep_20 ?_
  refine va_last (pc := 21) hx hb hK hP hD hS 1 1 rfl rfl h_1 dX7_keep_21 (fun H locs hP hD hS => ?_)
  obtain ⟨pl_found_2, epl_found_2⟩ : ∃ z : Nat → Int64, z = vp_updL pl_found (p1 / (10 : Int32)).toNatClampNeg ((pl_found (p1 / (10 : Int32)).toNatClampNeg) ||| (p2.toInt64 <<< (((6 : Int32) * (p1 - p1 / (10 : Int32) * (10 : Int32))).toInt64 &&& 63))) := ⟨_, rfl⟩
  have hP : va_P G vwCl [oX7 q pl_hands, aJ K (q 34) 878 pl_found_2] H := by rw [epl_found_2]; exact hP
  have hD : va_D A [oX7 q pl_hands, aJ K (q 34) 878 pl_found_2] := by rw [epl_found_2]; exact hD
  replace hw := hw pl_found_2 epl_found_2
  exact hRetV (S := (Nat → Int64)) pl_found_2 hx hb hr hlocks hQ hw hP hK hD hS dX7_keep_22
def P_X7_fewestFrom : Nat → (Int32 → (Nat → Int64) → Prop) → Int32 → Int32 → (Nat → Int32) → (Nat → Int64) → Int32 → Prop
  | 0, _, _, _, _, _, _ => False
  | d + 1, post, p1, p2, pl_renewed, pl_found, pl_hands =>
  ∀ (X26 : Int32 → (Nat → Int64) → Prop),
  ∀ (X43 : Int32 → Int32 → (Nat → Int64) → Prop),
  ∀ (X76 : Int32 → Int32 → Int32 → Int32 → Int32 → (Nat → Int64) → Prop),
  (∀ (s0 : Int32) (pl_found : Nat → Int64), ((((8771 : Int32) ≤ s0 → X43 s0 (0 : Int32) pl_found) ∧ (¬ (8771 : Int32) ≤ s0 → P_X7_recall (fun r_5 => X43 s0 r_5 pl_found) s0 pl_found))) → X26 s0 pl_found) →
  (∀ (x3 : Int32) (s0 : Int32) (pl_found : Nat → Int64), (((s0 ≤ (0 : Int32) → P_X7_lotsThatMust (fun r_7 => P_X7_lotsThatMay (fun r_8 => X76 x3 (62 : Int32) r_7 r_8 (0 : Int32) pl_found) p1 p2 pl_renewed) p2) ∧ (¬ s0 ≤ (0 : Int32) → post (s0 - (1 : Int32)) pl_found))) → X43 x3 s0 pl_found) →
  (∀ (x3 : Int32) (x5 : Int32) (x6 : Int32) (x7 : Int32) (x8 : Int32) (pl_found : Nat → Int64), ((((16 : Int32) ≤ x8 → (((8771 : Int32) ≤ x3 → post x5 pl_found) ∧ (¬ (8771 : Int32) ≤ x3 → P_X7_keep (fun pl_found_11 => post x5 pl_found_11) x3 (x5 + (1 : Int32)) pl_found))) ∧ (¬ (16 : Int32) ≤ x8 → P_X7_allowed (fun r_12 => ((r_12 = (0 : Int32) → ∀ y_14 : Int32, y_14 = (x8 + (1 : Int32)) → X76 x3 x5 x6 x7 y_14 pl_found) ∧ (¬ r_12 = (0 : Int32) → P_X7_after (fun r_15 => P_X7_fewestFrom d (fun r_16 pl_found_17 => P_J6_bitCount_0f7a4 (fun r_18 => ∀ y_19 : Int32, y_19 = (if (r_18 + r_16) < x5 then (r_18 + r_16) else x5) → ∀ y_20 : Int32, y_20 = (x8 + (1 : Int32)) → X76 x3 y_19 x6 x7 y_20 pl_found_17) x8) (p1 - (1 : Int32)) r_15 pl_renewed pl_found pl_hands) p1 p2 x8 pl_renewed))) x8 x6 x7 pl_hands))) → X76 x3 x5 x6 x7 x8 pl_found) →
  (((1 : Int32) ≤ p1 → (((Int32.ofNat 8) ≤ p1 → X26 (8771 : Int32) pl_found) ∧ (¬ (Int32.ofNat 8) ≤ p1 → P_X7_slotOf (fun r_3 => X26 r_3 pl_found) p1 p2))) ∧ (¬ (1 : Int32) ≤ p1 → post (0 : Int32) pl_found))
abbrev rm_X7_fewestFrom (d : Nat) : Room := { frames := d + 2, cells := 0, slots := 0, locals := d * 29 + 49 }
set_option maxHeartbeats 4000000 in
set_option maxRecDepth 100000 in
theorem c_X7_fewestFrom (l : Launch) (G : va_G) (K : ClassId × ClassId × ClassId) (tb q : Nat → Nat) : ∀ (d : Nat) (sz : Nat) (post : Int32 → (Nat → Int64) → Prop) (p1 : Int32) (p2 : Int32) (pl_renewed : Nat → Int32) (pl_found : Nat → Int64) (pl_hands : Int32) (hw : P_X7_fewestFrom d post p1 p2 pl_renewed pl_found pl_hands), Met l yX7_fewestFrom wsX7_fewestFrom (rm_X7_fewestFrom d) (va_Pc [.ref (q 31), .int p1, .int p2] (hPre G K tb [oX7 q pl_hands, aI K (q 33) 4 pl_renewed, aJ K (q 34) 878 pl_found] sz)) (va_Qi (fun (r : Int32) (u : (Nat → Int64)) => post r u) (fun u => hB G K (va_A [oX7 q pl_hands, aI K (q 33) 4 pl_renewed, aJ K (q 34) 878 pl_found] sz) [oX7 q pl_hands, aI K (q 33) 4 pl_renewed, aJ K (q 34) 878 u]) (va_A [oX7 q pl_hands, aI K (q 33) 4 pl_renewed, aJ K (q 34) 878 pl_found] sz)) 0 0 (va_A [oX7 q pl_hands, aI K (q 33) 4 pl_renewed, aJ K (q 34) 878 pl_found] sz) := by
  intro d
  induction d with
  | zero => intro sz post p1 p2 pl_renewed pl_found pl_hands hw; exact (show False from hw).elim
  | succ d ih =>
  intro sz post p1 p2 pl_renewed pl_found pl_hands hw
  refine hMet (fun A => va_Qi (fun (r : Int32) (u : (Nat → Int64)) => post r u) (fun u => hB G K A [oX7 q pl_hands, aI K (q 33) 4 pl_renewed, aJ K (q 34) 878 u]) A) (by decide) rfl (Nat.le_of_ble_eq_true rfl) ?_
  intro p e s m av below meth c A Q ls hx hb hr hml hts hown hlocks hnm hA hP hK hD hS hE hQ hl
  have hts : ∀ w ∈ wsX7_fewestFrom, w.before av s = true := hts
  have hown : s.vm.findClass RX7 = some m.cls := hown
  have hl : lv_has ls 10 [(0, .ref (q 31)), (1, .int p1), (2, .int p2)] := hl
  unfold P_X7_fewestFrom at hw
  replace hw := hw (fun (s0 : Int32) (pl_found : Nat → Int64) => ∀ (H : Heap) (locs : List Loc) (ls : Array Slot), va_P G vwCl [oX7 q pl_hands, aI K (q 33) 4 pl_renewed, aJ K (q 34) 878 pl_found] H → va_D A [oX7 q pl_hands, aI K (q 33) 4 pl_renewed, aJ K (q 34) 878 pl_found] → va_S A s.heap H locs → lv_has ls 10 [(0, .ref (q 31)), (1, .int p1), (2, .int p2)] → W p l e (rm_X7_fewestFrom (d + 1)) s m av below meth c H locs 0 0 Q (F0 m 26 ls [.int s0]))
  replace hw := hw (fun (x3 : Int32) (s0 : Int32) (pl_found : Nat → Int64) => ∀ (H : Heap) (locs : List Loc) (ls : Array Slot), va_P G vwCl [oX7 q pl_hands, aI K (q 33) 4 pl_renewed, aJ K (q 34) 878 pl_found] H → va_D A [oX7 q pl_hands, aI K (q 33) 4 pl_renewed, aJ K (q 34) 878 pl_found] → va_S A s.heap H locs → lv_has ls 10 [(0, .ref (q 31)), (1, .int p1), (2, .int p2), (3, .int x3)] → W p l e (rm_X7_fewestFrom (d + 1)) s m av below meth c H locs 0 0 Q (F0 m 43 ls [.int s0]))
  replace hw := hw (fun (x3 : Int32) (x5 : Int32) (x6 : Int32) (x7 : Int32) (x8 : Int32) (pl_found : Nat → Int64) => ∀ (H : Heap) (locs : List Loc) (ls : Array Slot), va_P G vwCl [oX7 q pl_hands, aI K (q 33) 4 pl_renewed, aJ K (q 34) 878 pl_found] H → va_D A [oX7 q pl_hands, aI K (q 33) 4 pl_renewed, aJ K (q 34) 878 pl_found] → va_S A s.heap H locs → lv_has ls 10 [(0, .ref (q 31)), (1, .int p1), (2, .int p2), (3, .int x3), (5, .int x5), (6, .int x6), (7, .int x7), (8, .int x8)] → W p l e (rm_X7_fewestFrom (d + 1)) s m av below meth c H locs 0 0 Q (F0 m 76 ls []))
  replace hw := hw (by
    intro s0 pl_found hw H locs ls hP hD hS hl
    refine lv_istore_n (pc := 26) (lv' := [(3, .int s0), (0, .ref (q 31)), (1, .int p1), (2, .int p2)]) hx hb dX7_fewestFrom_26 rfl hl (by decide) rfl (fun ls hl => ?_)
    refine lv_iload_n (pc := 27) hx hb dX7_fewestFrom_27 rfl (lv_at hl 0 rfl) ?_
    refine lv_sipush (pc := 28) (v := (8771 : Int32)) hx hb dX7_fewestFrom_28 (by decide) ?_
    refine lv_icmp_ge (pc := 31) (tgt := 42) hx hb dX7_fewestFrom_31 (by decide) (fun c_4 => ?_) (fun c_4 => ?_)
    · replace hw := hw.1 c_4
      refine lv_iconst (pc := 42) (v := (0 : Int32)) hx hb dX7_fewestFrom_42 (by decide) ?_
      exact hw _ _ _ hP hD hS (lv_sub hl [1, 2, 3, 0] rfl)
    · replace hw := hw.2 c_4
      refine lv_aload_n (pc := 34) hx hb dX7_fewestFrom_34 rfl (lv_at hl 1 rfl) ?_
      refine lv_iload_n (pc := 35) hx hb dX7_fewestFrom_35 rfl (lv_at hl 0 rfl) ?_
      refine hCallI (pc := 36) (wr := [aI K (q 33) 4 pl_renewed]) (wsf := fun (u : Unit) => [oX7 q pl_hands, aJ K (q 34) 878 pl_found]) [0, 2] [1] (va_runV (As := [.int s0]) (rest := []) ⟨hx, hb, hml, hown, hts⟩ (c_X7_recall l G K tb q H.size pl_hands _ s0 pl_found hw) (cwV 1 hts gX7_fewestFrom_X7_recall rfl rfl rfl (by decide +kernel) ⟨(by dsimp only [rm_X7_fewestFrom, rm_X7_recall, List.map, List.sum_cons, List.sum_nil, Value.category]; omega), (by dsimp only [rm_X7_fewestFrom, rm_X7_recall, List.map, List.sum_cons, List.sum_nil, Value.category]; omega)⟩) (hPreV hE hP hK hD hS hA [0, 2] (by decide) rfl rfl rfl rfl (q0 := 0) (ci := 7) rfl) rfl rfl hl.1 rfl (lv_room (Nat.le_of_ble_eq_true rfl)) dX7_fewestFrom_36 ⟨Nat.zero_le _, Nat.zero_le _⟩) hP hD hS hA rfl rfl (by decide) (by decide) (fun r_5 u H locs hw hP hD hS => ?_)
      have hP : va_P G vwCl [oX7 q pl_hands, aI K (q 33) 4 pl_renewed, aJ K (q 34) 878 pl_found] H := hP.sub [1, 0, 2] rfl
      have hD : va_D A [oX7 q pl_hands, aI K (q 33) 4 pl_renewed, aJ K (q 34) 878 pl_found] := hD.sub [1, 0, 2] (by decide) rfl
      refine lv_goto (pc := 39) (tgt := 43) hx hb dX7_fewestFrom_39 (by decide) ?_
      exact hw _ _ _ hP hD hS (lv_sub hl [1, 2, 3, 0] rfl))
  replace hw := hw (by
    intro x3 s0 pl_found hw H locs ls hP hD hS hl
    refine lv_istore (pc := 43) (lv' := [(4, .int s0), (0, .ref (q 31)), (1, .int p1), (2, .int p2), (3, .int x3)]) hx hb dX7_fewestFrom_43 hl (by decide) rfl (fun ls hl => ?_)
    refine lv_iload (pc := 45) hx hb dX7_fewestFrom_45 (lv_at hl 0 rfl) ?_
    refine lv_if_le (pc := 47) (tgt := 55) hx hb dX7_fewestFrom_47 (by decide) (fun c_6 => ?_) (fun c_6 => ?_)
    · replace hw := hw.1 c_6
      refine lv_bipush (pc := 55) (v := (62 : Int32)) hx hb dX7_fewestFrom_55 (by decide) ?_
      refine lv_istore (pc := 57) (lv' := [(5, .int (62 : Int32)), (4, .int s0), (0, .ref (q 31)), (1, .int p1), (2, .int p2), (3, .int x3)]) hx hb dX7_fewestFrom_57 hl (by decide) rfl (fun ls hl => ?_)
      refine lv_iload_n (pc := 59) hx hb dX7_fewestFrom_59 rfl (lv_at hl 4 rfl) ?_
      refine hCallI (pc := 60) (wr := [oX7 q pl_hands, aI K (q 33) 4 pl_renewed, aJ K (q 34) 878 pl_found]) (wsf := fun (u : Unit) => []) [] [0, 1, 2] (va_runS (As := [.int p2]) (rest := []) ⟨hx, hb, hml, hown, hts⟩ (c_X7_lotsThatMust l G K tb q H.size _ p2 hw) (va_cwS 1 hts gX7_fewestFrom_X7_lotsThatMust rfl rfl rfl (by decide +kernel) ⟨(by dsimp only [rm_X7_fewestFrom, rm_X7_lotsThatMust, List.map, List.sum_cons, List.sum_nil, Value.category]; omega), (by dsimp only [rm_X7_fewestFrom, rm_X7_lotsThatMust, List.map, List.sum_cons, List.sum_nil, Value.category]; omega)⟩) (hPreS hE hP hK hD hS hA [] (by decide) rfl rfl) rfl rfl hl.1 rfl (lv_room (Nat.le_of_ble_eq_true rfl)) dX7_fewestFrom_60 ⟨Nat.zero_le _, Nat.zero_le _⟩) hP hD hS hA rfl rfl (by decide) (by decide) (fun r_7 u H locs hw hP hD hS => ?_)
      have hP : va_P G vwCl [oX7 q pl_hands, aI K (q 33) 4 pl_renewed, aJ K (q 34) 878 pl_found] H := hP.sub [0, 1, 2] rfl
      have hD : va_D A [oX7 q pl_hands, aI K (q 33) 4 pl_renewed, aJ K (q 34) 878 pl_found] := hD.sub [0, 1, 2] (by decide) rfl
      refine lv_istore (pc := 63) (lv' := [(6, .int r_7), (5, .int (62 : Int32)), (4, .int s0), (0, .ref (q 31)), (1, .int p1), (2, .int p2), (3, .int x3)]) hx hb dX7_fewestFrom_63 hl (by decide) rfl (fun ls hl => ?_)
      refine lv_aload_n (pc := 65) hx hb dX7_fewestFrom_65 rfl (lv_at hl 3 rfl) ?_
      refine lv_iload_n (pc := 66) hx hb dX7_fewestFrom_66 rfl (lv_at hl 4 rfl) ?_
      refine lv_iload_n (pc := 67) hx hb dX7_fewestFrom_67 rfl (lv_at hl 5 rfl) ?_
      refine hCallI (pc := 68) (wr := [aJ K (q 34) 878 pl_found]) (wsf := fun (u : Unit) => [oX7 q pl_hands, aI K (q 33) 4 pl_renewed]) [0, 1] [2] (va_runV (As := [.int p1, .int p2]) (rest := []) ⟨hx, hb, hml, hown, hts⟩ (c_X7_lotsThatMay l G K tb q H.size pl_hands _ p1 p2 pl_renewed hw) (cwV 2 hts gX7_fewestFrom_X7_lotsThatMay rfl rfl rfl (by decide +kernel) ⟨(by dsimp only [rm_X7_fewestFrom, rm_X7_lotsThatMay, List.map, List.sum_cons, List.sum_nil, Value.category]; omega), (by dsimp only [rm_X7_fewestFrom, rm_X7_lotsThatMay, List.map, List.sum_cons, List.sum_nil, Value.category]; omega)⟩) (hPreV hE hP hK hD hS hA [0, 1] (by decide) rfl rfl rfl rfl (q0 := 0) (ci := 7) rfl) rfl rfl hl.1 rfl (lv_room (Nat.le_of_ble_eq_true rfl)) dX7_fewestFrom_68 ⟨Nat.zero_le _, Nat.zero_le _⟩) hP hD hS hA rfl rfl (by decide) (by decide) (fun r_8 u H locs hw hP hD hS => ?_)
      have hP : va_P G vwCl [oX7 q pl_hands, aI K (q 33) 4 pl_renewed, aJ K (q 34) 878 pl_found] H := hP.sub [1, 2, 0] rfl
      have hD : va_D A [oX7 q pl_hands, aI K (q 33) 4 pl_renewed, aJ K (q 34) 878 pl_found] := hD.sub [1, 2, 0] (by decide) rfl
      refine lv_istore (pc := 71) (lv' := [(7, .int r_8), (6, .int r_7), (5, .int (62 : Int32)), (4, .int s0), (0, .ref (q 31)), (1, .int p1), (2, .int p2), (3, .int x3)]) hx hb dX7_fewestFrom_71 hl (by decide) rfl (fun ls hl => ?_)
      refine lv_iconst (pc := 73) (v := (0 : Int32)) hx hb dX7_fewestFrom_73 (by decide) ?_
      refine lv_istore (pc := 74) (lv' := [(8, .int (0 : Int32)), (7, .int r_8), (6, .int r_7), (5, .int (62 : Int32)), (4, .int s0), (0, .ref (q 31)), (1, .int p1), (2, .int p2), (3, .int x3)]) hx hb dX7_fewestFrom_74 hl (by decide) rfl (fun ls hl => ?_)
      exact hw _ _ _ hP hD hS (lv_sub hl [5, 6, 7, 8, 3, 2, 1, 0] rfl)
    · replace hw := hw.2 c_6
      refine lv_iload (pc := 50) hx hb dX7_fewestFrom_50 (lv_at hl 0 rfl) ?_
      refine lv_iconst (pc := 52) (v := (1 : Int32)) hx hb dX7_fewestFrom_52 (by decide) ?_
      refine lv_isub (pc := 53) hx hb dX7_fewestFrom_53 ?_
      exact hRetI (S := (Nat → Int64)) pl_found hx hb hr hlocks hQ hw hP hK hD hS dX7_fewestFrom_54)
  replace hw := hw (by
    intro x3 x5 x6 x7 x8 pl_found hw H locs ls hP hD hS hl
    refine lv_iload (pc := 76) hx hb dX7_fewestFrom_76 (lv_at hl 7 rfl) ?_
    refine lv_bipush (pc := 78) (v := (16 : Int32)) hx hb dX7_fewestFrom_78 (by decide) ?_
    refine lv_icmp_ge (pc := 80) (tgt := 134) hx hb dX7_fewestFrom_80 (by decide) (fun c_9 => ?_) (fun c_9 => ?_)
    · replace hw := hw.1 c_9
      refine lv_iload_n (pc := 134) hx hb dX7_fewestFrom_134 rfl (lv_at hl 3 rfl) ?_
      refine lv_sipush (pc := 135) (v := (8771 : Int32)) hx hb dX7_fewestFrom_135 (by decide) ?_
      refine lv_icmp_ge (pc := 138) (tgt := 150) hx hb dX7_fewestFrom_138 (by decide) (fun c_10 => ?_) (fun c_10 => ?_)
      · replace hw := hw.1 c_10
        refine lv_iload (pc := 150) hx hb dX7_fewestFrom_150 (lv_at hl 4 rfl) ?_
        exact hRetI (S := (Nat → Int64)) pl_found hx hb hr hlocks hQ hw hP hK hD hS dX7_fewestFrom_152
      · replace hw := hw.2 c_10
        refine lv_aload_n (pc := 141) hx hb dX7_fewestFrom_141 rfl (lv_at hl 0 rfl) ?_
        refine lv_iload_n (pc := 142) hx hb dX7_fewestFrom_142 rfl (lv_at hl 3 rfl) ?_
        refine lv_iload (pc := 143) hx hb dX7_fewestFrom_143 (lv_at hl 4 rfl) ?_
        refine lv_iconst (pc := 145) (v := (1 : Int32)) hx hb dX7_fewestFrom_145 (by decide) ?_
        refine lv_iadd (pc := 146) hx hb dX7_fewestFrom_146 ?_
        refine hCallV (pc := 147) (wr := [aI K (q 33) 4 pl_renewed]) (wsf := fun (u : (Nat → Int64)) => [oX7 q pl_hands, aJ K (q 34) 878 u]) [0, 2] [1] (va_runV (As := [.int x3, .int (x5 + (1 : Int32))]) (rest := []) ⟨hx, hb, hml, hown, hts⟩ (c_X7_keep l G K tb q H.size pl_hands _ x3 (x5 + (1 : Int32)) pl_found hw) (cwV 2 hts gX7_fewestFrom_X7_keep rfl rfl rfl (by decide +kernel) ⟨(by dsimp only [rm_X7_fewestFrom, rm_X7_keep, List.map, List.sum_cons, List.sum_nil, Value.category]; omega), (by dsimp only [rm_X7_fewestFrom, rm_X7_keep, List.map, List.sum_cons, List.sum_nil, Value.category]; omega)⟩) (hPreV hE hP hK hD hS hA [0, 2] (by decide) rfl rfl rfl rfl (q0 := 0) (ci := 7) rfl) rfl rfl hl.1 rfl (lv_room (Nat.le_of_ble_eq_true rfl)) dX7_fewestFrom_147 ⟨Nat.zero_le _, Nat.zero_le _⟩) hP hD hS hA rfl rfl (by decide) (by decide) (fun u H locs hw hP hD hS => ?_)
        obtain ⟨pl_found_11, rfl⟩ : ∃ z, z = u := ⟨_, rfl⟩
        have hP : va_P G vwCl [oX7 q pl_hands, aI K (q 33) 4 pl_renewed, aJ K (q 34) 878 pl_found_11] H := hP.sub [1, 0, 2] rfl
        have hD : va_D A [oX7 q pl_hands, aI K (q 33) 4 pl_renewed, aJ K (q 34) 878 pl_found_11] := hD.sub [1, 0, 2] (by decide) rfl
        refine lv_iload (pc := 150) hx hb dX7_fewestFrom_150 (lv_at hl 4 rfl) ?_
        exact hRetI (S := (Nat → Int64)) pl_found_11 hx hb hr hlocks hQ hw hP hK hD hS dX7_fewestFrom_152
    · replace hw := hw.2 c_9
      refine lv_aload_n (pc := 83) hx hb dX7_fewestFrom_83 rfl (lv_at hl 0 rfl) ?_
      refine lv_iload (pc := 84) hx hb dX7_fewestFrom_84 (lv_at hl 7 rfl) ?_
      refine lv_iload (pc := 86) hx hb dX7_fewestFrom_86 (lv_at hl 5 rfl) ?_
      refine lv_iload (pc := 88) hx hb dX7_fewestFrom_88 (lv_at hl 6 rfl) ?_
      refine hCallI (pc := 90) (wr := [aI K (q 33) 4 pl_renewed, aJ K (q 34) 878 pl_found]) (wsf := fun (u : Unit) => [oX7 q pl_hands]) [0] [1, 2] (va_runV (As := [.int x8, .int x6, .int x7]) (rest := []) ⟨hx, hb, hml, hown, hts⟩ (c_X7_allowed l G K tb q H.size _ x8 x6 x7 pl_hands hw) (cwV 3 hts gX7_fewestFrom_X7_allowed rfl rfl rfl (by decide +kernel) ⟨(by dsimp only [rm_X7_fewestFrom, rm_X7_allowed, List.map, List.sum_cons, List.sum_nil, Value.category]; omega), (by dsimp only [rm_X7_fewestFrom, rm_X7_allowed, List.map, List.sum_cons, List.sum_nil, Value.category]; omega)⟩) (hPreV hE hP hK hD hS hA [0] (by decide) rfl rfl rfl rfl (q0 := 0) (ci := 7) rfl) rfl rfl hl.1 rfl (lv_room (Nat.le_of_ble_eq_true rfl)) dX7_fewestFrom_90 ⟨Nat.zero_le _, Nat.zero_le _⟩) hP hD hS hA rfl rfl (by decide) (by decide) (fun r_12 u H locs hw hP hD hS => ?_)
      have hP : va_P G vwCl [oX7 q pl_hands, aI K (q 33) 4 pl_renewed, aJ K (q 34) 878 pl_found] H := hP.sub [2, 0, 1] rfl
      have hD : va_D A [oX7 q pl_hands, aI K (q 33) 4 pl_renewed, aJ K (q 34) 878 pl_found] := hD.sub [2, 0, 1] (by decide) rfl
      refine lv_if_eq (pc := 93) (tgt := 128) hx hb dX7_fewestFrom_93 (by decide) (fun c_13 => ?_) (fun c_13 => ?_)
      · replace hw := hw.1 c_13
        obtain ⟨y_14, ey_14⟩ : ∃ z : Int32, z = (x8 + (1 : Int32)) := ⟨_, rfl⟩
        replace hw := hw y_14 ey_14
        refine lv_iinc (pc := 128) (v := y_14) (lv' := [(8, .int y_14), (0, .ref (q 31)), (1, .int p1), (2, .int p2), (3, .int x3), (5, .int x5), (6, .int x6), (7, .int x7)]) hx hb dX7_fewestFrom_128 hl (k := 7) rfl (by rw [ey_14]; rfl) (by decide) rfl (fun ls hl => ?_)
        refine lv_goto (pc := 131) (tgt := 76) hx hb dX7_fewestFrom_131 (by decide) ?_
        exact hw _ _ _ hP hD hS (lv_sub hl [1, 2, 3, 4, 5, 6, 7, 0] rfl)
      · replace hw := hw.2 c_13
        refine lv_aload_n (pc := 96) hx hb dX7_fewestFrom_96 rfl (lv_at hl 0 rfl) ?_
        refine lv_iload_n (pc := 97) hx hb dX7_fewestFrom_97 rfl (lv_at hl 1 rfl) ?_
        refine lv_iconst (pc := 98) (v := (1 : Int32)) hx hb dX7_fewestFrom_98 (by decide) ?_
        refine lv_isub (pc := 99) hx hb dX7_fewestFrom_99 ?_
        refine lv_aload_n (pc := 100) hx hb dX7_fewestFrom_100 rfl (lv_at hl 0 rfl) ?_
        refine lv_iload_n (pc := 101) hx hb dX7_fewestFrom_101 rfl (lv_at hl 1 rfl) ?_
        refine lv_iload_n (pc := 102) hx hb dX7_fewestFrom_102 rfl (lv_at hl 2 rfl) ?_
        refine lv_iload (pc := 103) hx hb dX7_fewestFrom_103 (lv_at hl 7 rfl) ?_
        refine hCallI (pc := 105) (wr := [aJ K (q 34) 878 pl_found]) (wsf := fun (u : Unit) => [oX7 q pl_hands, aI K (q 33) 4 pl_renewed]) [0, 1] [2] (va_runV (As := [.int p1, .int p2, .int x8]) (rest := [.int (p1 - (1 : Int32)), .ref (q 31)]) ⟨hx, hb, hml, hown, hts⟩ (c_X7_after l G K tb q H.size pl_hands _ p1 p2 x8 pl_renewed hw) (cwV 3 hts gX7_fewestFrom_X7_after rfl rfl rfl (by decide +kernel) ⟨(by dsimp only [rm_X7_fewestFrom, rm_X7_after, List.map, List.sum_cons, List.sum_nil, Value.category]; omega), (by dsimp only [rm_X7_fewestFrom, rm_X7_after, List.map, List.sum_cons, List.sum_nil, Value.category]; omega)⟩) (hPreV hE hP hK hD hS hA [0, 1] (by decide) rfl rfl rfl rfl (q0 := 0) (ci := 7) rfl) rfl rfl hl.1 rfl (lv_room (Nat.le_of_ble_eq_true rfl)) dX7_fewestFrom_105 ⟨Nat.zero_le _, Nat.zero_le _⟩) hP hD hS hA rfl rfl (by decide) (by decide) (fun r_15 u H locs hw hP hD hS => ?_)
        have hP : va_P G vwCl [oX7 q pl_hands, aI K (q 33) 4 pl_renewed, aJ K (q 34) 878 pl_found] H := hP.sub [1, 2, 0] rfl
        have hD : va_D A [oX7 q pl_hands, aI K (q 33) 4 pl_renewed, aJ K (q 34) 878 pl_found] := hD.sub [1, 2, 0] (by decide) rfl
        refine hCallI (pc := 108) (wr := []) (wsf := fun (u : (Nat → Int64)) => [oX7 q pl_hands, aI K (q 33) 4 pl_renewed, aJ K (q 34) 878 u]) [0, 1, 2] [] (va_runV (As := [.int (p1 - (1 : Int32)), .int r_15]) (rest := []) ⟨hx, hb, hml, hown, hts⟩ (ih H.size _ (p1 - (1 : Int32)) r_15 pl_renewed pl_found pl_hands hw) (cwV 2 hts gX7_fewestFrom_X7_fewestFrom rfl rfl rfl (by decide +kernel) ⟨(by dsimp only [rm_X7_fewestFrom, rm_X7_fewestFrom, List.map, List.sum_cons, List.sum_nil, Value.category]; omega), (by dsimp only [rm_X7_fewestFrom, rm_X7_fewestFrom, List.map, List.sum_cons, List.sum_nil, Value.category]; omega)⟩) (hPreV hE hP hK hD hS hA [0, 1, 2] (by decide) rfl rfl rfl rfl (q0 := 0) (ci := 7) rfl) rfl rfl hl.1 rfl (lv_room (Nat.le_of_ble_eq_true rfl)) dX7_fewestFrom_108 ⟨Nat.zero_le _, Nat.zero_le _⟩) hP hD hS hA rfl rfl (by decide) (by decide) (fun r_16 u H locs hw hP hD hS => ?_)
        obtain ⟨pl_found_17, rfl⟩ : ∃ z, z = u := ⟨_, rfl⟩
        have hP : va_P G vwCl [oX7 q pl_hands, aI K (q 33) 4 pl_renewed, aJ K (q 34) 878 pl_found_17] H := hP.sub [0, 1, 2] rfl
        have hD : va_D A [oX7 q pl_hands, aI K (q 33) 4 pl_renewed, aJ K (q 34) 878 pl_found_17] := hD.sub [0, 1, 2] (by decide) rfl
        refine lv_istore (pc := 111) (lv' := [(9, .int r_16), (0, .ref (q 31)), (1, .int p1), (2, .int p2), (3, .int x3), (5, .int x5), (6, .int x6), (7, .int x7), (8, .int x8)]) hx hb dX7_fewestFrom_111 hl (by decide) rfl (fun ls hl => ?_)
        refine lv_iload (pc := 113) hx hb dX7_fewestFrom_113 (lv_at hl 5 rfl) ?_
        refine lv_iload (pc := 115) hx hb dX7_fewestFrom_115 (lv_at hl 8 rfl) ?_
        refine hCallI (pc := 117) (wr := [oX7 q pl_hands, aI K (q 33) 4 pl_renewed, aJ K (q 34) 878 pl_found_17]) (wsf := fun (u : Unit) => []) [] [0, 1, 2] (va_runS (As := [.int x8]) (rest := [.int x5]) ⟨hx, hb, hml, hown, hts⟩ (c_J6_bitCount_0f7a4 l G K tb q H.size _ x8 hw) (va_cwS 1 hts gX7_fewestFrom_J6_bitCount_0f7a4 rfl rfl rfl (by decide +kernel) ⟨(by dsimp only [rm_X7_fewestFrom, rm_J6_bitCount_0f7a4, List.map, List.sum_cons, List.sum_nil, Value.category]; omega), (by dsimp only [rm_X7_fewestFrom, rm_J6_bitCount_0f7a4, List.map, List.sum_cons, List.sum_nil, Value.category]; omega)⟩) (hPreS hE hP hK hD hS hA [] (by decide) rfl rfl) rfl rfl hl.1 rfl (lv_room (Nat.le_of_ble_eq_true rfl)) dX7_fewestFrom_117 ⟨Nat.zero_le _, Nat.zero_le _⟩) hP hD hS hA rfl rfl (by decide) (by decide) (fun r_18 u H locs hw hP hD hS => ?_)
        have hP : va_P G vwCl [oX7 q pl_hands, aI K (q 33) 4 pl_renewed, aJ K (q 34) 878 pl_found_17] H := hP.sub [0, 1, 2] rfl
        have hD : va_D A [oX7 q pl_hands, aI K (q 33) 4 pl_renewed, aJ K (q 34) 878 pl_found_17] := hD.sub [0, 1, 2] (by decide) rfl
        refine lv_iload (pc := 120) hx hb dX7_fewestFrom_120 (lv_at hl 0 rfl) ?_
        refine lv_iadd (pc := 122) hx hb dX7_fewestFrom_122 ?_
        refine va_mmin (pc := 123) hx hb (hml.trans hl.1.symm) hown (hts _ (List.mem_of_getElem? (i := 2) rfl)) (hts _ (List.mem_of_getElem? (i := 3) rfl)) (hts _ (List.mem_of_getElem? (i := 4) rfl)) (hts _ (List.mem_of_getElem? (i := 5) rfl)) (by dsimp only [rm_X7_fewestFrom, List.map, List.sum_cons, List.sum_nil, Value.category]; omega) (by dsimp only [rm_X7_fewestFrom, List.map, List.sum_cons, List.sum_nil, Value.category]; omega) (Nat.zero_le _) (Nat.zero_le _) dX7_fewestFrom_123 ?_
        refine lv_topi (fun y_19 ey_19 => ?_)
        replace hw := hw y_19 ey_19
        refine lv_istore (pc := 126) (lv' := [(5, .int y_19), (9, .int r_16), (0, .ref (q 31)), (1, .int p1), (2, .int p2), (3, .int x3), (6, .int x6), (7, .int x7), (8, .int x8)]) hx hb dX7_fewestFrom_126 hl (by decide) rfl (fun ls hl => ?_)
        obtain ⟨y_20, ey_20⟩ : ∃ z : Int32, z = (x8 + (1 : Int32)) := ⟨_, rfl⟩
        replace hw := hw y_20 ey_20
        refine lv_iinc (pc := 128) (v := y_20) (lv' := [(8, .int y_20), (5, .int y_19), (9, .int r_16), (0, .ref (q 31)), (1, .int p1), (2, .int p2), (3, .int x3), (6, .int x6), (7, .int x7)]) hx hb dX7_fewestFrom_128 hl (k := 8) rfl (by rw [ey_20]; rfl) (by decide) rfl (fun ls hl => ?_)
        refine lv_goto (pc := 131) (tgt := 76) hx hb dX7_fewestFrom_131 (by decide) ?_
        exact hw _ _ _ hP hD hS (lv_sub hl [3, 4, 5, 6, 1, 7, 8, 0] rfl))
  refine lv_iload_n (pc := 0) hx hb dX7_fewestFrom_0 rfl (lv_at hl 1 rfl) ?_
  refine lv_iconst (pc := 1) (v := (1 : Int32)) hx hb dX7_fewestFrom_1 (by decide) ?_
  refine lv_icmp_ge (pc := 2) (tgt := 7) hx hb dX7_fewestFrom_2 (by decide) (fun c_1 => ?_) (fun c_1 => ?_)
  · replace hw := hw.1 c_1
    refine lv_iload_n (pc := 7) hx hb dX7_fewestFrom_7 rfl (lv_at hl 1 rfl) ?_
    refine va_gets (pc := 8) hx hb hE.2.2.2.2.1.1 hS hown (hts _ (List.mem_of_getElem? (i := 1) rfl)) (fun _ h9 => h9) dX7_fewestFrom_8 ?_
    refine va_tlen (pc := 11) hx hb hE.2.2.2.2.1.2 hS rfl dX7_fewestFrom_11 ?_
    refine lv_icmp_ge (pc := 12) (tgt := 23) hx hb dX7_fewestFrom_12 (by decide) (fun c_2 => ?_) (fun c_2 => ?_)
    · replace hw := hw.1 c_2
      refine lv_sipush (pc := 23) (v := (8771 : Int32)) hx hb dX7_fewestFrom_23 (by decide) ?_
      exact hw _ _ _ hP hD hS (lv_sub hl [0, 1, 2] rfl)
    · replace hw := hw.2 c_2
      refine lv_iload_n (pc := 15) hx hb dX7_fewestFrom_15 rfl (lv_at hl 1 rfl) ?_
      refine lv_iload_n (pc := 16) hx hb dX7_fewestFrom_16 rfl (lv_at hl 2 rfl) ?_
      refine hCallI (pc := 17) (wr := [oX7 q pl_hands, aI K (q 33) 4 pl_renewed, aJ K (q 34) 878 pl_found]) (wsf := fun (u : Unit) => []) [] [0, 1, 2] (va_runS (As := [.int p1, .int p2]) (rest := []) ⟨hx, hb, hml, hown, hts⟩ (c_X7_slotOf l G K tb q s.heap.size _ p1 p2 hw) (va_cwS 2 hts gX7_fewestFrom_X7_slotOf rfl rfl rfl (by decide +kernel) ⟨(by dsimp only [rm_X7_fewestFrom, rm_X7_slotOf, List.map, List.sum_cons, List.sum_nil, Value.category]; omega), (by dsimp only [rm_X7_fewestFrom, rm_X7_slotOf, List.map, List.sum_cons, List.sum_nil, Value.category]; omega)⟩) (hPreS hE hP hK hD hS hA [] (by decide) rfl rfl) rfl rfl hl.1 rfl (lv_room (Nat.le_of_ble_eq_true rfl)) dX7_fewestFrom_17 ⟨Nat.zero_le _, Nat.zero_le _⟩) hP hD hS hA rfl rfl (by decide) (by decide) (fun r_3 u H locs hw hP hD hS => ?_)
      have hP : va_P G vwCl [oX7 q pl_hands, aI K (q 33) 4 pl_renewed, aJ K (q 34) 878 pl_found] H := hP.sub [0, 1, 2] rfl
      have hD : va_D A [oX7 q pl_hands, aI K (q 33) 4 pl_renewed, aJ K (q 34) 878 pl_found] := hD.sub [0, 1, 2] (by decide) rfl
      refine lv_goto (pc := 20) (tgt := 26) hx hb dX7_fewestFrom_20 (by decide) ?_
      exact hw _ _ _ hP hD hS (lv_sub hl [0, 1, 2] rfl)
  · replace hw := hw.2 c_1
    refine lv_iconst (pc := 5) (v := (0 : Int32)) hx hb dX7_fewestFrom_5 (by decide) ?_
    exact hRetI (S := (Nat → Int64)) pl_found hx hb hr hlocks hQ hw hP hK hD hS dX7_fewestFrom_6
def P_X7_lasts (post : Int32 → Prop) (p1 : Int32) (p2 : Int32) (pl_values : Nat → Int32) : Prop :=
  vp_in ((p1 * (4 : Int32)) + (2 : Int32)) 16 ∧ ∀ y_2 : Int32, y_2 = (pl_values ((p1 * (4 : Int32)) + (2 : Int32)).toNatClampNeg) → vp_in ((p1 * (4 : Int32)) + (3 : Int32)) 16 ∧ ∀ y_4 : Int32, y_4 = (pl_values ((p1 * (4 : Int32)) + (3 : Int32)).toNatClampNeg) → ((y_4 = (0 : Int32) → post (8 : Int32)) ∧ (¬ y_4 = (0 : Int32) → ((y_4 ≤ p2 → (((1 : Int32) ≤ y_2 → (¬ y_2 = 0 ∧ True)) ∧ (¬ (1 : Int32) ≤ y_2 → True)) ∧ ∀ v_9 : Int32, v_9 = (if (1 : Int32) ≤ y_2 then (if ((p2 - y_4) / y_2) < (8 : Int32) then ((p2 - y_4) / y_2) else (8 : Int32)) else (8 : Int32)) → post v_9) ∧ (¬ y_4 ≤ p2 → post (0 : Int32)))))
abbrev rm_X7_lasts : Room := { frames := 1, cells := 0, slots := 0, locals := 23 }
theorem iw_X7_lasts_X7 : ∀ w ∈ wsX70, w ∈ wsX7_lasts := by decide +kernel
set_option maxHeartbeats 4000000 in
set_option maxRecDepth 100000 in
theorem c_X7_lasts (l : Launch) (G : va_G) (K : ClassId × ClassId × ClassId) (tb q : Nat → Nat) (sz : Nat) (pl_hands : Int32) (post : Int32 → Prop) (p1 : Int32) (p2 : Int32) (pl_values : Nat → Int32) (hw : P_X7_lasts post p1 p2 pl_values) : Met l yX7_lasts wsX7_lasts rm_X7_lasts (va_Pc [.ref (q 31), .int p1, .int p2] (hPre G K tb [oX7 q pl_hands, aI K (q 32) 16 pl_values] sz)) (va_Qi (fun (r : Int32) (u : Unit) => post r) (fun u => hB G K (va_A [oX7 q pl_hands, aI K (q 32) 16 pl_values] sz) [oX7 q pl_hands, aI K (q 32) 16 pl_values]) (va_A [oX7 q pl_hands, aI K (q 32) 16 pl_values] sz)) 0 0 (va_A [oX7 q pl_hands, aI K (q 32) 16 pl_values] sz) := by
  refine hMet (fun A => va_Qi (fun (r : Int32) (u : Unit) => post r) (fun u => hB G K A [oX7 q pl_hands, aI K (q 32) 16 pl_values]) A) (by decide) rfl (Nat.le_of_ble_eq_true rfl) ?_
  intro p e s m av below meth c A Q ls hx hb hr hml hts hown hlocks hnm hA hP hK hD hS hE hQ hl
  have hts : ∀ w ∈ wsX7_lasts, w.before av s = true := hts
  have hown : s.vm.findClass RX7 = some m.cls := hown
  have hl : lv_has ls 5 [(0, .ref (q 31)), (1, .int p1), (2, .int p2)] := hl
  unfold P_X7_lasts at hw
  refine lv_aload_n (pc := 0) hx hb dX7_lasts_0 rfl (lv_at hl 0 rfl) ?_
  refine va_get (pc := 1) (D := G) (ci := 7) (v := .ref (q 32)) (C := RX7) (T := TX7) (N := 4) hx hb hts iw_X7_lasts_X7 hown hK hP 0 rfl rfl 0 (by decide) (hts _ (List.mem_of_getElem? (i := 1) rfl)) (fun _ h9 => h9) rfl dX7_lasts_1 ?_
  refine lv_iload_n (pc := 4) hx hb dX7_lasts_4 rfl (lv_at hl 1 rfl) ?_
  refine lv_iconst (pc := 5) (v := (4 : Int32)) hx hb dX7_lasts_5 (by decide) ?_
  refine lv_imul (pc := 6) hx hb dX7_lasts_6 ?_
  refine lv_iconst (pc := 7) (v := (2 : Int32)) hx hb dX7_lasts_7 (by decide) ?_
  refine lv_iadd (pc := 8) hx hb dX7_lasts_8 ?_
  obtain ⟨h_1, hw⟩ := hw
  refine va_iald (pc := 9) hx hb hK hP 1 0 rfl rfl h_1 dX7_lasts_9 ?_
  refine lv_topi (fun y_2 ey_2 => ?_)
  replace hw := hw y_2 ey_2
  refine lv_istore_n (pc := 10) (lv' := [(3, .int y_2), (0, .ref (q 31)), (1, .int p1), (2, .int p2)]) hx hb dX7_lasts_10 rfl hl (by decide) rfl (fun ls hl => ?_)
  refine lv_aload_n (pc := 11) hx hb dX7_lasts_11 rfl (lv_at hl 1 rfl) ?_
  refine va_get (pc := 12) (D := G) (ci := 7) (v := .ref (q 32)) (C := RX7) (T := TX7) (N := 4) hx hb hts iw_X7_lasts_X7 hown hK hP 0 rfl rfl 0 (by decide) (hts _ (List.mem_of_getElem? (i := 1) rfl)) (fun _ h9 => h9) rfl dX7_lasts_12 ?_
  refine lv_iload_n (pc := 15) hx hb dX7_lasts_15 rfl (lv_at hl 2 rfl) ?_
  refine lv_iconst (pc := 16) (v := (4 : Int32)) hx hb dX7_lasts_16 (by decide) ?_
  refine lv_imul (pc := 17) hx hb dX7_lasts_17 ?_
  refine lv_iconst (pc := 18) (v := (3 : Int32)) hx hb dX7_lasts_18 (by decide) ?_
  refine lv_iadd (pc := 19) hx hb dX7_lasts_19 ?_
  obtain ⟨h_3, hw⟩ := hw
  refine va_iald (pc := 20) hx hb hK hP 1 0 rfl rfl h_3 dX7_lasts_20 ?_
  refine lv_topi (fun y_4 ey_4 => ?_)
  replace hw := hw y_4 ey_4
  refine lv_istore (pc := 21) (lv' := [(4, .int y_4), (3, .int y_2), (0, .ref (q 31)), (1, .int p1), (2, .int p2)]) hx hb dX7_lasts_21 hl (by decide) rfl (fun ls hl => ?_)
  refine lv_iload (pc := 23) hx hb dX7_lasts_23 (lv_at hl 0 rfl) ?_
  refine lv_if_ne (pc := 25) (tgt := 31) hx hb dX7_lasts_25 (by decide) (fun c_5 => ?_) (fun c_5 => ?_)
  · replace hw := hw.2 c_5
    refine lv_iload_n (pc := 31) hx hb dX7_lasts_31 rfl (lv_at hl 4 rfl) ?_
    refine lv_iload (pc := 32) hx hb dX7_lasts_32 (lv_at hl 0 rfl) ?_
    refine lv_icmp_ge (pc := 34) (tgt := 39) hx hb dX7_lasts_34 (by decide) (fun c_6 => ?_) (fun c_6 => ?_)
    · replace hw := hw.1 c_6
      refine lv_iload_n (pc := 39) hx hb dX7_lasts_39 rfl (lv_at hl 1 rfl) ?_
      refine lv_iconst (pc := 40) (v := (1 : Int32)) hx hb dX7_lasts_40 (by decide) ?_
      obtain ⟨hsf, hw⟩ := hw
      have K_v_9 : ∀ v_9 : Int32, v_9 = (if (1 : Int32) ≤ y_2 then (if ((p2 - y_4) / y_2) < (8 : Int32) then ((p2 - y_4) / y_2) else (8 : Int32)) else (8 : Int32)) → W p l e rm_X7_lasts s m av below meth c s.heap [] 0 0 Q (F0 m 60 ls [.int v_9]) := by
        intro v_9 ev_9
        replace hw := hw v_9 ev_9
        exact hRetI (S := Unit) () hx hb hr hlocks hQ hw hP hK hD hS dX7_lasts_60
      refine lv_icmp_ge (pc := 41) (tgt := 49) hx hb dX7_lasts_41 (by decide) (fun c_7 => ?_) (fun c_7 => ?_)
      · replace hsf := hsf.1 c_7
        refine lv_bipush (pc := 49) (v := (8 : Int32)) hx hb dX7_lasts_49 (by decide) ?_
        refine lv_iload_n (pc := 51) hx hb dX7_lasts_51 rfl (lv_at hl 4 rfl) ?_
        refine lv_iload (pc := 52) hx hb dX7_lasts_52 (lv_at hl 0 rfl) ?_
        refine lv_isub (pc := 54) hx hb dX7_lasts_54 ?_
        refine lv_iload_n (pc := 55) hx hb dX7_lasts_55 rfl (lv_at hl 1 rfl) ?_
        obtain ⟨h_8, hsf⟩ := hsf
        refine lv_idiv (pc := 56) hx hb dX7_lasts_56 h_8 ?_
        refine va_mmin (pc := 57) hx hb (hml.trans hl.1.symm) hown (hts _ (List.mem_of_getElem? (i := 2) rfl)) (hts _ (List.mem_of_getElem? (i := 3) rfl)) (hts _ (List.mem_of_getElem? (i := 4) rfl)) (hts _ (List.mem_of_getElem? (i := 5) rfl)) (Nat.le_of_ble_eq_true rfl) (Nat.le_of_ble_eq_true rfl) (Nat.zero_le _) (Nat.zero_le _) dX7_lasts_57 ?_
        exact K_v_9 _ (by rw [if_pos c_7])
      · replace hsf := hsf.2 c_7
        refine lv_bipush (pc := 44) (v := (8 : Int32)) hx hb dX7_lasts_44 (by decide) ?_
        refine lv_goto (pc := 46) (tgt := 60) hx hb dX7_lasts_46 (by decide) ?_
        exact K_v_9 _ (by rw [if_neg c_7])
    · replace hw := hw.2 c_6
      refine lv_iconst (pc := 37) (v := (0 : Int32)) hx hb dX7_lasts_37 (by decide) ?_
      exact hRetI (S := Unit) () hx hb hr hlocks hQ hw hP hK hD hS dX7_lasts_38
  · replace hw := hw.1 c_5
    refine lv_bipush (pc := 28) (v := (8 : Int32)) hx hb dX7_lasts_28 (by decide) ?_
    exact hRetI (S := Unit) () hx hb hr hlocks hQ hw hP hK hD hS dX7_lasts_30
def P_X7_stateNow (post : Int32 → (Nat → Int32) → Prop) (p1 : Int32) (pl_values : Nat → Int32) (pl_renewed : Nat → Int32) : Prop :=
  ∀ (X4 : Int32 → Int32 → (Nat → Int32) → Prop),
  (∀ (x2 : Int32) (x3 : Int32) (pl_renewed : Nat → Int32), ((((4 : Int32) ≤ x3 → post x2 pl_renewed) ∧ (¬ (4 : Int32) ≤ x3 → vp_in ((x3 * (4 : Int32)) + (1 : Int32)) 16 ∧ P_X7_lasts (fun r_3 => vp_in x3 4 ∧ ∀ pl_renewed_5 : Nat → Int32, pl_renewed_5 = upd pl_renewed x3.toNatClampNeg r_3 → vp_in ((x3 * (4 : Int32)) + (0 : Int32)) 16 ∧ P_X7_lasts (fun r_7 => ∀ y_8 : Int32, y_8 = (if r_7 < p1 then r_7 else p1) → ∀ y_9 : Int32, y_9 = (x2 ||| (y_8 <<< (((4 : Int32) * x3) &&& 31))) → ∀ y_10 : Int32, y_10 = (x3 + (1 : Int32)) → X4 y_9 y_10 pl_renewed_5) x3 (pl_values ((x3 * (4 : Int32)) + (0 : Int32)).toNatClampNeg) pl_values) x3 (pl_values ((x3 * (4 : Int32)) + (1 : Int32)).toNatClampNeg) pl_values))) → X4 x2 x3 pl_renewed) →
  X4 (0 : Int32) (0 : Int32) pl_renewed
abbrev rm_X7_stateNow : Room := { frames := 2, cells := 0, slots := 0, locals := 47 }
theorem iw_X7_stateNow_X7 : ∀ w ∈ wsX70, w ∈ wsX7_stateNow := by decide +kernel
set_option maxHeartbeats 4000000 in
set_option maxRecDepth 100000 in
theorem c_X7_stateNow (l : Launch) (G : va_G) (K : ClassId × ClassId × ClassId) (tb q : Nat → Nat) (sz : Nat) (pl_hands : Int32) (post : Int32 → (Nat → Int32) → Prop) (p1 : Int32) (pl_values : Nat → Int32) (pl_renewed : Nat → Int32) (hw : P_X7_stateNow post p1 pl_values pl_renewed) : Met l yX7_stateNow wsX7_stateNow rm_X7_stateNow (va_Pc [.ref (q 31), .int p1] (hPre G K tb [oX7 q pl_hands, aI K (q 32) 16 pl_values, aI K (q 33) 4 pl_renewed] sz)) (va_Qi (fun (r : Int32) (u : (Nat → Int32)) => post r u) (fun u => hB G K (va_A [oX7 q pl_hands, aI K (q 32) 16 pl_values, aI K (q 33) 4 pl_renewed] sz) [oX7 q pl_hands, aI K (q 32) 16 pl_values, aI K (q 33) 4 u]) (va_A [oX7 q pl_hands, aI K (q 32) 16 pl_values, aI K (q 33) 4 pl_renewed] sz)) 0 0 (va_A [oX7 q pl_hands, aI K (q 32) 16 pl_values, aI K (q 33) 4 pl_renewed] sz) := by
  refine hMet (fun A => va_Qi (fun (r : Int32) (u : (Nat → Int32)) => post r u) (fun u => hB G K A [oX7 q pl_hands, aI K (q 32) 16 pl_values, aI K (q 33) 4 u]) A) (by decide) rfl (Nat.le_of_ble_eq_true rfl) ?_
  intro p e s m av below meth c A Q ls hx hb hr hml hts hown hlocks hnm hA hP hK hD hS hE hQ hl
  have hts : ∀ w ∈ wsX7_stateNow, w.before av s = true := hts
  have hown : s.vm.findClass RX7 = some m.cls := hown
  have hl : lv_has ls 4 [(0, .ref (q 31)), (1, .int p1)] := hl
  unfold P_X7_stateNow at hw
  replace hw := hw (fun (x2 : Int32) (x3 : Int32) (pl_renewed : Nat → Int32) => ∀ (H : Heap) (locs : List Loc) (ls : Array Slot), va_P G vwCl [oX7 q pl_hands, aI K (q 32) 16 pl_values, aI K (q 33) 4 pl_renewed] H → va_D A [oX7 q pl_hands, aI K (q 32) 16 pl_values, aI K (q 33) 4 pl_renewed] → va_S A s.heap H locs → lv_has ls 4 [(0, .ref (q 31)), (1, .int p1), (2, .int x2), (3, .int x3)] → W p l e rm_X7_stateNow s m av below meth c H locs 0 0 Q (F0 m 4 ls []))
  replace hw := hw (by
    intro x2 x3 pl_renewed hw H locs ls hP hD hS hl
    refine lv_iload_n (pc := 4) hx hb dX7_stateNow_4 rfl (lv_at hl 3 rfl) ?_
    refine lv_iconst (pc := 5) (v := (4 : Int32)) hx hb dX7_stateNow_5 (by decide) ?_
    refine lv_icmp_ge (pc := 6) (tgt := 62) hx hb dX7_stateNow_6 (by decide) (fun c_1 => ?_) (fun c_1 => ?_)
    · replace hw := hw.1 c_1
      refine lv_iload_n (pc := 62) hx hb dX7_stateNow_62 rfl (lv_at hl 2 rfl) ?_
      exact hRetI (S := (Nat → Int32)) pl_renewed hx hb hr hlocks hQ hw hP hK hD hS dX7_stateNow_63
    · replace hw := hw.2 c_1
      refine lv_aload_n (pc := 9) hx hb dX7_stateNow_9 rfl (lv_at hl 0 rfl) ?_
      refine va_get (pc := 10) (D := G) (ci := 7) (v := .ref (q 33)) (C := RX7) (T := TX7) (N := 4) hx hb hts iw_X7_stateNow_X7 hown hK hP 0 rfl rfl 1 (by decide) (hts _ (List.mem_of_getElem? (i := 1) rfl)) (fun _ h9 => h9) rfl dX7_stateNow_10 ?_
      refine lv_iload_n (pc := 13) hx hb dX7_stateNow_13 rfl (lv_at hl 3 rfl) ?_
      refine lv_aload_n (pc := 14) hx hb dX7_stateNow_14 rfl (lv_at hl 0 rfl) ?_
      refine lv_iload_n (pc := 15) hx hb dX7_stateNow_15 rfl (lv_at hl 3 rfl) ?_
      refine lv_aload_n (pc := 16) hx hb dX7_stateNow_16 rfl (lv_at hl 0 rfl) ?_
      refine va_get (pc := 17) (D := G) (ci := 7) (v := .ref (q 32)) (C := RX7) (T := TX7) (N := 4) hx hb hts iw_X7_stateNow_X7 hown hK hP 0 rfl rfl 0 (by decide) (hts _ (List.mem_of_getElem? (i := 2) rfl)) (fun _ h9 => h9) rfl dX7_stateNow_17 ?_
      refine lv_iload_n (pc := 20) hx hb dX7_stateNow_20 rfl (lv_at hl 3 rfl) ?_
      refine lv_iconst (pc := 21) (v := (4 : Int32)) hx hb dX7_stateNow_21 (by decide) ?_
      refine lv_imul (pc := 22) hx hb dX7_stateNow_22 ?_
      refine lv_iconst (pc := 23) (v := (1 : Int32)) hx hb dX7_stateNow_23 (by decide) ?_
      refine lv_iadd (pc := 24) hx hb dX7_stateNow_24 ?_
      obtain ⟨h_2, hw⟩ := hw
      refine va_iald (pc := 25) hx hb hK hP 1 0 rfl rfl h_2 dX7_stateNow_25 ?_
      refine hCallI (pc := 26) (wr := [aI K (q 33) 4 pl_renewed]) (wsf := fun (u : Unit) => [oX7 q pl_hands, aI K (q 32) 16 pl_values]) [0, 1] [2] (va_runV (As := [.int x3, .int (pl_values ((x3 * (4 : Int32)) + (1 : Int32)).toNatClampNeg)]) (rest := [.int x3, .ref (q 33)]) ⟨hx, hb, hml, hown, hts⟩ (c_X7_lasts l G K tb q H.size pl_hands _ x3 (pl_values ((x3 * (4 : Int32)) + (1 : Int32)).toNatClampNeg) pl_values hw) (cwV 2 hts gX7_stateNow_X7_lasts rfl rfl rfl (by decide +kernel) ⟨Nat.le_of_ble_eq_true rfl, Nat.le_of_ble_eq_true rfl⟩) (hPreV hE hP hK hD hS hA [0, 1] (by decide) rfl rfl rfl rfl (q0 := 0) (ci := 7) rfl) rfl rfl hl.1 rfl (lv_room (Nat.le_of_ble_eq_true rfl)) dX7_stateNow_26 ⟨Nat.zero_le _, Nat.zero_le _⟩) hP hD hS hA rfl rfl (by decide) (by decide) (fun r_3 u H locs hw hP hD hS => ?_)
      have hP : va_P G vwCl [oX7 q pl_hands, aI K (q 32) 16 pl_values, aI K (q 33) 4 pl_renewed] H := hP.sub [1, 2, 0] rfl
      have hD : va_D A [oX7 q pl_hands, aI K (q 32) 16 pl_values, aI K (q 33) 4 pl_renewed] := hD.sub [1, 2, 0] (by decide) rfl
      obtain ⟨h_4, hw⟩ := hw
      refine va_iast (pc := 29) hx hb hK hP hD hS 2 0 rfl rfl h_4 dX7_stateNow_29 (fun H locs hP hD hS => ?_)
      obtain ⟨pl_renewed_5, epl_renewed_5⟩ : ∃ z : Nat → Int32, z = upd pl_renewed x3.toNatClampNeg r_3 := ⟨_, rfl⟩
      have hP : va_P G vwCl [oX7 q pl_hands, aI K (q 32) 16 pl_values, aI K (q 33) 4 pl_renewed_5] H := by rw [epl_renewed_5]; exact hP
      have hD : va_D A [oX7 q pl_hands, aI K (q 32) 16 pl_values, aI K (q 33) 4 pl_renewed_5] := by rw [epl_renewed_5]; exact hD
      replace hw := hw pl_renewed_5 epl_renewed_5
      refine lv_iload_n (pc := 30) hx hb dX7_stateNow_30 rfl (lv_at hl 2 rfl) ?_
      refine lv_iload_n (pc := 31) hx hb dX7_stateNow_31 rfl (lv_at hl 1 rfl) ?_
      refine lv_aload_n (pc := 32) hx hb dX7_stateNow_32 rfl (lv_at hl 0 rfl) ?_
      refine lv_iload_n (pc := 33) hx hb dX7_stateNow_33 rfl (lv_at hl 3 rfl) ?_
      refine lv_aload_n (pc := 34) hx hb dX7_stateNow_34 rfl (lv_at hl 0 rfl) ?_
      refine va_get (pc := 35) (D := G) (ci := 7) (v := .ref (q 32)) (C := RX7) (T := TX7) (N := 4) hx hb hts iw_X7_stateNow_X7 hown hK hP 0 rfl rfl 0 (by decide) (hts _ (List.mem_of_getElem? (i := 2) rfl)) (fun _ h9 => h9) rfl dX7_stateNow_35 ?_
      refine lv_iload_n (pc := 38) hx hb dX7_stateNow_38 rfl (lv_at hl 3 rfl) ?_
      refine lv_iconst (pc := 39) (v := (4 : Int32)) hx hb dX7_stateNow_39 (by decide) ?_
      refine lv_imul (pc := 40) hx hb dX7_stateNow_40 ?_
      refine lv_iconst (pc := 41) (v := (0 : Int32)) hx hb dX7_stateNow_41 (by decide) ?_
      refine lv_iadd (pc := 42) hx hb dX7_stateNow_42 ?_
      obtain ⟨h_6, hw⟩ := hw
      refine va_iald (pc := 43) hx hb hK hP 1 0 rfl rfl h_6 dX7_stateNow_43 ?_
      refine hCallI (pc := 44) (wr := [aI K (q 33) 4 pl_renewed_5]) (wsf := fun (u : Unit) => [oX7 q pl_hands, aI K (q 32) 16 pl_values]) [0, 1] [2] (va_runV (As := [.int x3, .int (pl_values ((x3 * (4 : Int32)) + (0 : Int32)).toNatClampNeg)]) (rest := [.int p1, .int x2]) ⟨hx, hb, hml, hown, hts⟩ (c_X7_lasts l G K tb q H.size pl_hands _ x3 (pl_values ((x3 * (4 : Int32)) + (0 : Int32)).toNatClampNeg) pl_values hw) (cwV 2 hts gX7_stateNow_X7_lasts rfl rfl rfl (by decide +kernel) ⟨Nat.le_of_ble_eq_true rfl, Nat.le_of_ble_eq_true rfl⟩) (hPreV hE hP hK hD hS hA [0, 1] (by decide) rfl rfl rfl rfl (q0 := 0) (ci := 7) rfl) rfl rfl hl.1 rfl (lv_room (Nat.le_of_ble_eq_true rfl)) dX7_stateNow_44 ⟨Nat.zero_le _, Nat.zero_le _⟩) hP hD hS hA rfl rfl (by decide) (by decide) (fun r_7 u H locs hw hP hD hS => ?_)
      have hP : va_P G vwCl [oX7 q pl_hands, aI K (q 32) 16 pl_values, aI K (q 33) 4 pl_renewed_5] H := hP.sub [1, 2, 0] rfl
      have hD : va_D A [oX7 q pl_hands, aI K (q 32) 16 pl_values, aI K (q 33) 4 pl_renewed_5] := hD.sub [1, 2, 0] (by decide) rfl
      refine va_mmin (pc := 47) hx hb (hml.trans hl.1.symm) hown (hts _ (List.mem_of_getElem? (i := 3) rfl)) (hts _ (List.mem_of_getElem? (i := 4) rfl)) (hts _ (List.mem_of_getElem? (i := 5) rfl)) (hts _ (List.mem_of_getElem? (i := 6) rfl)) (Nat.le_of_ble_eq_true rfl) (Nat.le_of_ble_eq_true rfl) (Nat.zero_le _) (Nat.zero_le _) dX7_stateNow_47 ?_
      refine lv_topi (fun y_8 ey_8 => ?_)
      replace hw := hw y_8 ey_8
      refine lv_iconst (pc := 50) (v := (4 : Int32)) hx hb dX7_stateNow_50 (by decide) ?_
      refine lv_iload_n (pc := 51) hx hb dX7_stateNow_51 rfl (lv_at hl 3 rfl) ?_
      refine lv_imul (pc := 52) hx hb dX7_stateNow_52 ?_
      refine lv_ishl (pc := 53) hx hb dX7_stateNow_53 ?_
      refine lv_ior (pc := 54) hx hb dX7_stateNow_54 ?_
      refine lv_topi (fun y_9 ey_9 => ?_)
      replace hw := hw y_9 ey_9
      refine lv_istore_n (pc := 55) (lv' := [(2, .int y_9), (0, .ref (q 31)), (1, .int p1), (3, .int x3)]) hx hb dX7_stateNow_55 rfl hl (by decide) rfl (fun ls hl => ?_)
      obtain ⟨y_10, ey_10⟩ : ∃ z : Int32, z = (x3 + (1 : Int32)) := ⟨_, rfl⟩
      replace hw := hw y_10 ey_10
      refine lv_iinc (pc := 56) (v := y_10) (lv' := [(3, .int y_10), (2, .int y_9), (0, .ref (q 31)), (1, .int p1)]) hx hb dX7_stateNow_56 hl (k := 3) rfl (by rw [ey_10]; rfl) (by decide) rfl (fun ls hl => ?_)
      refine lv_goto (pc := 59) (tgt := 4) hx hb dX7_stateNow_59 (by decide) ?_
      exact hw _ _ _ hP hD hS (lv_sub hl [2, 3, 1, 0] rfl))
  refine lv_iconst (pc := 0) (v := (0 : Int32)) hx hb dX7_stateNow_0 (by decide) ?_
  refine lv_istore_n (pc := 1) (lv' := [(2, .int (0 : Int32)), (0, .ref (q 31)), (1, .int p1)]) hx hb dX7_stateNow_1 rfl hl (by decide) rfl (fun ls hl => ?_)
  refine lv_iconst (pc := 2) (v := (0 : Int32)) hx hb dX7_stateNow_2 (by decide) ?_
  refine lv_istore_n (pc := 3) (lv' := [(3, .int (0 : Int32)), (2, .int (0 : Int32)), (0, .ref (q 31)), (1, .int p1)]) hx hb dX7_stateNow_3 rfl hl (by decide) rfl (fun ls hl => ?_)
  exact hw _ _ _ hP hD hS (lv_sub hl [2, 3, 1, 0] rfl)
def P_X7_fewestOver (post : Int32 → (Nat → Int32) → (Nat → Int64) → Prop) (p1 : Int32) (pl_values : Nat → Int32) (pl_renewed : Nat → Int32) (pl_found : Nat → Int64) (pl_hands : Int32) : Prop :=
  P_X7_stateNow (fun r_1 pl_renewed_2 => P_X7_fewestFrom 9 (fun r_3 pl_found_4 => ∀ v_6 : Int32, v_6 = (if r_3 < (62 : Int32) then r_3 else (-9 : Int32)) → post v_6 pl_renewed_2 pl_found_4) p1 r_1 pl_renewed_2 pl_found pl_hands) p1 pl_values pl_renewed
abbrev rm_X7_fewestOver : Room := { frames := 12, cells := 0, slots := 0, locals := 339 }
set_option maxHeartbeats 4000000 in
set_option maxRecDepth 100000 in
theorem c_X7_fewestOver (l : Launch) (G : va_G) (K : ClassId × ClassId × ClassId) (tb q : Nat → Nat) (sz : Nat) (post : Int32 → (Nat → Int32) → (Nat → Int64) → Prop) (p1 : Int32) (pl_values : Nat → Int32) (pl_renewed : Nat → Int32) (pl_found : Nat → Int64) (pl_hands : Int32) (hw : P_X7_fewestOver post p1 pl_values pl_renewed pl_found pl_hands) : Met l yX7_fewestOver wsX7_fewestOver rm_X7_fewestOver (va_Pc [.ref (q 31), .int p1] (hPre G K tb [oX7 q pl_hands, aI K (q 32) 16 pl_values, aI K (q 33) 4 pl_renewed, aJ K (q 34) 878 pl_found] sz)) (va_Qi (fun (r : Int32) (u : (Nat → Int32) × (Nat → Int64)) => post r u.1 u.2) (fun u => hB G K (va_A [oX7 q pl_hands, aI K (q 32) 16 pl_values, aI K (q 33) 4 pl_renewed, aJ K (q 34) 878 pl_found] sz) [oX7 q pl_hands, aI K (q 32) 16 pl_values, aI K (q 33) 4 u.1, aJ K (q 34) 878 u.2]) (va_A [oX7 q pl_hands, aI K (q 32) 16 pl_values, aI K (q 33) 4 pl_renewed, aJ K (q 34) 878 pl_found] sz)) 0 0 (va_A [oX7 q pl_hands, aI K (q 32) 16 pl_values, aI K (q 33) 4 pl_renewed, aJ K (q 34) 878 pl_found] sz) := by
  refine hMet (fun A => va_Qi (fun (r : Int32) (u : (Nat → Int32) × (Nat → Int64)) => post r u.1 u.2) (fun u => hB G K A [oX7 q pl_hands, aI K (q 32) 16 pl_values, aI K (q 33) 4 u.1, aJ K (q 34) 878 u.2]) A) (by decide) rfl (Nat.le_of_ble_eq_true rfl) ?_
  intro p e s m av below meth c A Q ls hx hb hr hml hts hown hlocks hnm hA hP hK hD hS hE hQ hl
  have hts : ∀ w ∈ wsX7_fewestOver, w.before av s = true := hts
  have hown : s.vm.findClass RX7 = some m.cls := hown
  have hl : lv_has ls 3 [(0, .ref (q 31)), (1, .int p1)] := hl
  unfold P_X7_fewestOver at hw
  refine lv_aload_n (pc := 0) hx hb dX7_fewestOver_0 rfl (lv_at hl 0 rfl) ?_
  refine lv_iload_n (pc := 1) hx hb dX7_fewestOver_1 rfl (lv_at hl 1 rfl) ?_
  refine lv_aload_n (pc := 2) hx hb dX7_fewestOver_2 rfl (lv_at hl 0 rfl) ?_
  refine lv_iload_n (pc := 3) hx hb dX7_fewestOver_3 rfl (lv_at hl 1 rfl) ?_
  refine hCallI (pc := 4) (wr := [aJ K (q 34) 878 pl_found]) (wsf := fun (u : (Nat → Int32)) => [oX7 q pl_hands, aI K (q 32) 16 pl_values, aI K (q 33) 4 u]) [0, 1, 2] [3] (va_runV (As := [.int p1]) (rest := [.int p1, .ref (q 31)]) ⟨hx, hb, hml, hown, hts⟩ (c_X7_stateNow l G K tb q s.heap.size pl_hands _ p1 pl_values pl_renewed hw) (cwV 1 hts gX7_fewestOver_X7_stateNow rfl rfl rfl (by decide +kernel) ⟨Nat.le_of_ble_eq_true rfl, Nat.le_of_ble_eq_true rfl⟩) (hPreV hE hP hK hD hS hA [0, 1, 2] (by decide) rfl rfl rfl rfl (q0 := 0) (ci := 7) rfl) rfl rfl hl.1 rfl (lv_room (Nat.le_of_ble_eq_true rfl)) dX7_fewestOver_4 ⟨Nat.zero_le _, Nat.zero_le _⟩) hP hD hS hA rfl rfl (by decide) (by decide) (fun r_1 u H locs hw hP hD hS => ?_)
  obtain ⟨pl_renewed_2, rfl⟩ : ∃ z, z = u := ⟨_, rfl⟩
  have hP : va_P G vwCl [oX7 q pl_hands, aI K (q 32) 16 pl_values, aI K (q 33) 4 pl_renewed_2, aJ K (q 34) 878 pl_found] H := hP.sub [1, 2, 3, 0] rfl
  have hD : va_D A [oX7 q pl_hands, aI K (q 32) 16 pl_values, aI K (q 33) 4 pl_renewed_2, aJ K (q 34) 878 pl_found] := hD.sub [1, 2, 3, 0] (by decide) rfl
  refine hCallI (pc := 7) (wr := [aI K (q 32) 16 pl_values]) (wsf := fun (u : (Nat → Int64)) => [oX7 q pl_hands, aI K (q 33) 4 pl_renewed_2, aJ K (q 34) 878 u]) [0, 2, 3] [1] (va_runV (As := [.int p1, .int r_1]) (rest := []) ⟨hx, hb, hml, hown, hts⟩ (c_X7_fewestFrom l G K tb q 9 H.size _ p1 r_1 pl_renewed_2 pl_found pl_hands hw) (cwV 2 hts gX7_fewestOver_X7_fewestFrom rfl rfl rfl (by decide +kernel) ⟨Nat.le_of_ble_eq_true rfl, Nat.le_of_ble_eq_true rfl⟩) (hPreV hE hP hK hD hS hA [0, 2, 3] (by decide) rfl rfl rfl rfl (q0 := 0) (ci := 7) rfl) rfl rfl hl.1 rfl (lv_room (Nat.le_of_ble_eq_true rfl)) dX7_fewestOver_7 ⟨Nat.zero_le _, Nat.zero_le _⟩) hP hD hS hA rfl rfl (by decide) (by decide) (fun r_3 u H locs hw hP hD hS => ?_)
  obtain ⟨pl_found_4, rfl⟩ : ∃ z, z = u := ⟨_, rfl⟩
  have hP : va_P G vwCl [oX7 q pl_hands, aI K (q 32) 16 pl_values, aI K (q 33) 4 pl_renewed_2, aJ K (q 34) 878 pl_found_4] H := hP.sub [1, 0, 2, 3] rfl
  have hD : va_D A [oX7 q pl_hands, aI K (q 32) 16 pl_values, aI K (q 33) 4 pl_renewed_2, aJ K (q 34) 878 pl_found_4] := hD.sub [1, 0, 2, 3] (by decide) rfl
  refine lv_istore_n (pc := 10) (lv' := [(2, .int r_3), (0, .ref (q 31)), (1, .int p1)]) hx hb dX7_fewestOver_10 rfl hl (by decide) rfl (fun ls hl => ?_)
  refine lv_iload_n (pc := 11) hx hb dX7_fewestOver_11 rfl (lv_at hl 0 rfl) ?_
  refine lv_bipush (pc := 12) (v := (62 : Int32)) hx hb dX7_fewestOver_12 (by decide) ?_
  have K_v_6 : ∀ v_6 : Int32, v_6 = (if r_3 < (62 : Int32) then r_3 else (-9 : Int32)) → W p l e rm_X7_fewestOver s m av below meth c H locs 0 0 Q (F0 m 23 ls [.int v_6]) := by
    intro v_6 ev_6
    replace hw := hw v_6 ev_6
    exact hRetI (S := (Nat → Int32) × (Nat → Int64)) (pl_renewed_2, pl_found_4) hx hb hr hlocks hQ hw hP hK hD hS dX7_fewestOver_23
  refine lv_icmp_lt (pc := 14) (tgt := 22) hx hb dX7_fewestOver_14 (by decide) (fun c_5 => ?_) (fun c_5 => ?_)
  · skip
    refine lv_iload_n (pc := 22) hx hb dX7_fewestOver_22 rfl (lv_at hl 0 rfl) ?_
    exact K_v_6 _ (by rw [if_pos c_5])
  · skip
    refine lv_bipush (pc := 17) (v := (-9 : Int32)) hx hb dX7_fewestOver_17 (by decide) ?_
    refine lv_goto (pc := 19) (tgt := 23) hx hb dX7_fewestOver_19 (by decide) ?_
    exact K_v_6 _ (by rw [if_neg c_5])
def P_X7_goBy (post : Int32 → (Nat → Int32) → Prop) (p1 : Int32) (pl_values : Nat → Int32) : Prop :=
  ∀ (X4 : Int32 → Int32 → (Nat → Int32) → Prop),
  (∀ (x2 : Int32) (x3 : Int32) (pl_values : Nat → Int32), ((((4 : Int32) ≤ x3 → post x2 pl_values) ∧ (¬ (4 : Int32) ≤ x3 → ∀ y_2 : Int32, y_2 = (x3 * (4 : Int32)) → ∀ v_4 : Int32, v_4 = (if ((p1 >>> (x3 &&& 31)) &&& (1 : Int32)) = (1 : Int32) then (1 : Int32) else (0 : Int32)) → vp_in (y_2 + v_4) 16 ∧ ∀ y_6 : Int32, y_6 = (pl_values (y_2 + v_4).toNatClampNeg) → vp_in (y_2 + (2 : Int32)) 16 ∧ ∀ y_8 : Int32, y_8 = (if (0 : Int32) < (y_6 - (pl_values (y_2 + (2 : Int32)).toNatClampNeg)) then (y_6 - (pl_values (y_2 + (2 : Int32)).toNatClampNeg)) else (0 : Int32)) → vp_in (y_2 + (0 : Int32)) 16 ∧ ∀ pl_values_10 : Nat → Int32, pl_values_10 = upd pl_values (y_2 + (0 : Int32)).toNatClampNeg y_8 → vp_in (y_2 + (3 : Int32)) 16 ∧ ∀ v_13 : Int32, v_13 = (if (pl_values_10 (y_2 + (3 : Int32)).toNatClampNeg) ≤ (pl_values_10 (y_2 + (0 : Int32)).toNatClampNeg) then (0 : Int32) else (1 : Int32)) → ∀ y_14 : Int32, y_14 = (x2 + v_13) → ∀ y_15 : Int32, y_15 = (x3 + (1 : Int32)) → X4 y_14 y_15 pl_values_10))) → X4 x2 x3 pl_values) →
  X4 (0 : Int32) (0 : Int32) pl_values
abbrev rm_X7_goBy : Room := { frames := 1, cells := 0, slots := 0, locals := 23 }
theorem iw_X7_goBy_X7 : ∀ w ∈ wsX70, w ∈ wsX7_goBy := by decide +kernel
set_option maxHeartbeats 4000000 in
set_option maxRecDepth 100000 in
theorem c_X7_goBy (l : Launch) (G : va_G) (K : ClassId × ClassId × ClassId) (tb q : Nat → Nat) (sz : Nat) (pl_hands : Int32) (post : Int32 → (Nat → Int32) → Prop) (p1 : Int32) (pl_values : Nat → Int32) (hw : P_X7_goBy post p1 pl_values) : Met l yX7_goBy wsX7_goBy rm_X7_goBy (va_Pc [.ref (q 31), .int p1] (hPre G K tb [oX7 q pl_hands, aI K (q 32) 16 pl_values] sz)) (va_Qi (fun (r : Int32) (u : (Nat → Int32)) => post r u) (fun u => hB G K (va_A [oX7 q pl_hands, aI K (q 32) 16 pl_values] sz) [oX7 q pl_hands, aI K (q 32) 16 u]) (va_A [oX7 q pl_hands, aI K (q 32) 16 pl_values] sz)) 0 0 (va_A [oX7 q pl_hands, aI K (q 32) 16 pl_values] sz) := by
  refine hMet (fun A => va_Qi (fun (r : Int32) (u : (Nat → Int32)) => post r u) (fun u => hB G K A [oX7 q pl_hands, aI K (q 32) 16 u]) A) (by decide) rfl (Nat.le_of_ble_eq_true rfl) ?_
  intro p e s m av below meth c A Q ls hx hb hr hml hts hown hlocks hnm hA hP hK hD hS hE hQ hl
  have hts : ∀ w ∈ wsX7_goBy, w.before av s = true := hts
  have hown : s.vm.findClass RX7 = some m.cls := hown
  have hl : lv_has ls 6 [(0, .ref (q 31)), (1, .int p1)] := hl
  unfold P_X7_goBy at hw
  replace hw := hw (fun (x2 : Int32) (x3 : Int32) (pl_values : Nat → Int32) => ∀ (H : Heap) (locs : List Loc) (ls : Array Slot), va_P G vwCl [oX7 q pl_hands, aI K (q 32) 16 pl_values] H → va_D A [oX7 q pl_hands, aI K (q 32) 16 pl_values] → va_S A s.heap H locs → lv_has ls 6 [(0, .ref (q 31)), (1, .int p1), (2, .int x2), (3, .int x3)] → W p l e rm_X7_goBy s m av below meth c H locs 0 0 Q (F0 m 4 ls []))
  replace hw := hw (by
    intro x2 x3 pl_values hw H locs ls hP hD hS hl
    refine lv_iload_n (pc := 4) hx hb dX7_goBy_4 rfl (lv_at hl 3 rfl) ?_
    refine lv_iconst (pc := 5) (v := (4 : Int32)) hx hb dX7_goBy_5 (by decide) ?_
    refine lv_icmp_ge (pc := 6) (tgt := 98) hx hb dX7_goBy_6 (by decide) (fun c_1 => ?_) (fun c_1 => ?_)
    · replace hw := hw.1 c_1
      refine lv_iload_n (pc := 98) hx hb dX7_goBy_98 rfl (lv_at hl 2 rfl) ?_
      exact hRetI (S := (Nat → Int32)) pl_values hx hb hr hlocks hQ hw hP hK hD hS dX7_goBy_99
    · replace hw := hw.2 c_1
      refine lv_iload_n (pc := 9) hx hb dX7_goBy_9 rfl (lv_at hl 3 rfl) ?_
      refine lv_iconst (pc := 10) (v := (4 : Int32)) hx hb dX7_goBy_10 (by decide) ?_
      refine lv_imul (pc := 11) hx hb dX7_goBy_11 ?_
      refine lv_topi (fun y_2 ey_2 => ?_)
      replace hw := hw y_2 ey_2
      refine lv_istore (pc := 12) (lv' := [(4, .int y_2), (0, .ref (q 31)), (1, .int p1), (2, .int x2), (3, .int x3)]) hx hb dX7_goBy_12 hl (by decide) rfl (fun ls hl => ?_)
      refine lv_aload_n (pc := 14) hx hb dX7_goBy_14 rfl (lv_at hl 1 rfl) ?_
      refine va_get (pc := 15) (D := G) (ci := 7) (v := .ref (q 32)) (C := RX7) (T := TX7) (N := 4) hx hb hts iw_X7_goBy_X7 hown hK hP 0 rfl rfl 0 (by decide) (hts _ (List.mem_of_getElem? (i := 1) rfl)) (fun _ h9 => h9) rfl dX7_goBy_15 ?_
      refine lv_iload (pc := 18) hx hb dX7_goBy_18 (lv_at hl 0 rfl) ?_
      refine lv_iload_n (pc := 20) hx hb dX7_goBy_20 rfl (lv_at hl 2 rfl) ?_
      refine lv_iload_n (pc := 21) hx hb dX7_goBy_21 rfl (lv_at hl 4 rfl) ?_
      refine lv_ishr (pc := 22) hx hb dX7_goBy_22 ?_
      refine lv_iconst (pc := 23) (v := (1 : Int32)) hx hb dX7_goBy_23 (by decide) ?_
      refine lv_iand (pc := 24) hx hb dX7_goBy_24 ?_
      refine lv_iconst (pc := 25) (v := (1 : Int32)) hx hb dX7_goBy_25 (by decide) ?_
      have K_v_4 : ∀ v_4 : Int32, v_4 = (if ((p1 >>> (x3 &&& 31)) &&& (1 : Int32)) = (1 : Int32) then (1 : Int32) else (0 : Int32)) → W p l e rm_X7_goBy s m av below meth c H locs 0 0 Q (F0 m 34 ls [.int v_4, .int y_2, .ref (q 32)]) := by
        intro v_4 ev_4
        replace hw := hw v_4 ev_4
        refine lv_iadd (pc := 34) hx hb dX7_goBy_34 ?_
        obtain ⟨h_5, hw⟩ := hw
        refine va_iald (pc := 35) hx hb hK hP 1 0 rfl rfl h_5 dX7_goBy_35 ?_
        refine lv_topi (fun y_6 ey_6 => ?_)
        replace hw := hw y_6 ey_6
        refine lv_istore (pc := 36) (lv' := [(5, .int y_6), (4, .int y_2), (0, .ref (q 31)), (1, .int p1), (2, .int x2), (3, .int x3)]) hx hb dX7_goBy_36 hl (by decide) rfl (fun ls hl => ?_)
        refine lv_aload_n (pc := 38) hx hb dX7_goBy_38 rfl (lv_at hl 2 rfl) ?_
        refine va_get (pc := 39) (D := G) (ci := 7) (v := .ref (q 32)) (C := RX7) (T := TX7) (N := 4) hx hb hts iw_X7_goBy_X7 hown hK hP 0 rfl rfl 0 (by decide) (hts _ (List.mem_of_getElem? (i := 1) rfl)) (fun _ h9 => h9) rfl dX7_goBy_39 ?_
        refine lv_iload (pc := 42) hx hb dX7_goBy_42 (lv_at hl 1 rfl) ?_
        refine lv_iconst (pc := 44) (v := (0 : Int32)) hx hb dX7_goBy_44 (by decide) ?_
        refine lv_iadd (pc := 45) hx hb dX7_goBy_45 ?_
        refine lv_iconst (pc := 46) (v := (0 : Int32)) hx hb dX7_goBy_46 (by decide) ?_
        refine lv_iload (pc := 47) hx hb dX7_goBy_47 (lv_at hl 0 rfl) ?_
        refine lv_aload_n (pc := 49) hx hb dX7_goBy_49 rfl (lv_at hl 2 rfl) ?_
        refine va_get (pc := 50) (D := G) (ci := 7) (v := .ref (q 32)) (C := RX7) (T := TX7) (N := 4) hx hb hts iw_X7_goBy_X7 hown hK hP 0 rfl rfl 0 (by decide) (hts _ (List.mem_of_getElem? (i := 1) rfl)) (fun _ h9 => h9) rfl dX7_goBy_50 ?_
        refine lv_iload (pc := 53) hx hb dX7_goBy_53 (lv_at hl 1 rfl) ?_
        refine lv_iconst (pc := 55) (v := (2 : Int32)) hx hb dX7_goBy_55 (by decide) ?_
        refine lv_iadd (pc := 56) hx hb dX7_goBy_56 ?_
        obtain ⟨h_7, hw⟩ := hw
        refine va_iald (pc := 57) hx hb hK hP 1 0 rfl rfl h_7 dX7_goBy_57 ?_
        refine lv_isub (pc := 58) hx hb dX7_goBy_58 ?_
        refine va_mmax (pc := 59) hx hb (hml.trans hl.1.symm) hown (hts _ (List.mem_of_getElem? (i := 2) rfl)) (hts _ (List.mem_of_getElem? (i := 3) rfl)) (hts _ (List.mem_of_getElem? (i := 4) rfl)) (hts _ (List.mem_of_getElem? (i := 5) rfl)) (Nat.le_of_ble_eq_true rfl) (Nat.le_of_ble_eq_true rfl) (Nat.zero_le _) (Nat.zero_le _) dX7_goBy_59 ?_
        refine lv_topi (fun y_8 ey_8 => ?_)
        replace hw := hw y_8 ey_8
        obtain ⟨h_9, hw⟩ := hw
        refine va_iast (pc := 62) hx hb hK hP hD hS 1 0 rfl rfl h_9 dX7_goBy_62 (fun H locs hP hD hS => ?_)
        obtain ⟨pl_values_10, epl_values_10⟩ : ∃ z : Nat → Int32, z = upd pl_values (y_2 + (0 : Int32)).toNatClampNeg y_8 := ⟨_, rfl⟩
        have hP : va_P G vwCl [oX7 q pl_hands, aI K (q 32) 16 pl_values_10] H := by rw [epl_values_10]; exact hP
        have hD : va_D A [oX7 q pl_hands, aI K (q 32) 16 pl_values_10] := by rw [epl_values_10]; exact hD
        replace hw := hw pl_values_10 epl_values_10
        refine lv_iload_n (pc := 63) hx hb dX7_goBy_63 rfl (lv_at hl 4 rfl) ?_
        refine lv_aload_n (pc := 64) hx hb dX7_goBy_64 rfl (lv_at hl 2 rfl) ?_
        refine va_get (pc := 65) (D := G) (ci := 7) (v := .ref (q 32)) (C := RX7) (T := TX7) (N := 4) hx hb hts iw_X7_goBy_X7 hown hK hP 0 rfl rfl 0 (by decide) (hts _ (List.mem_of_getElem? (i := 1) rfl)) (fun _ h9 => h9) rfl dX7_goBy_65 ?_
        refine lv_iload (pc := 68) hx hb dX7_goBy_68 (lv_at hl 1 rfl) ?_
        refine lv_iconst (pc := 70) (v := (0 : Int32)) hx hb dX7_goBy_70 (by decide) ?_
        refine lv_iadd (pc := 71) hx hb dX7_goBy_71 ?_
        refine va_iald (pc := 72) hx hb hK hP 1 0 rfl rfl h_9 dX7_goBy_72 ?_
        refine lv_aload_n (pc := 73) hx hb dX7_goBy_73 rfl (lv_at hl 2 rfl) ?_
        refine va_get (pc := 74) (D := G) (ci := 7) (v := .ref (q 32)) (C := RX7) (T := TX7) (N := 4) hx hb hts iw_X7_goBy_X7 hown hK hP 0 rfl rfl 0 (by decide) (hts _ (List.mem_of_getElem? (i := 1) rfl)) (fun _ h9 => h9) rfl dX7_goBy_74 ?_
        refine lv_iload (pc := 77) hx hb dX7_goBy_77 (lv_at hl 1 rfl) ?_
        refine lv_iconst (pc := 79) (v := (3 : Int32)) hx hb dX7_goBy_79 (by decide) ?_
        refine lv_iadd (pc := 80) hx hb dX7_goBy_80 ?_
        obtain ⟨h_11, hw⟩ := hw
        refine va_iald (pc := 81) hx hb hK hP 1 0 rfl rfl h_11 dX7_goBy_81 ?_
        have K_v_13 : ∀ v_13 : Int32, v_13 = (if (pl_values_10 (y_2 + (3 : Int32)).toNatClampNeg) ≤ (pl_values_10 (y_2 + (0 : Int32)).toNatClampNeg) then (0 : Int32) else (1 : Int32)) → W p l e rm_X7_goBy s m av below meth c H locs 0 0 Q (F0 m 90 ls [.int v_13, .int x2]) := by
          intro v_13 ev_13
          replace hw := hw v_13 ev_13
          refine lv_iadd (pc := 90) hx hb dX7_goBy_90 ?_
          refine lv_topi (fun y_14 ey_14 => ?_)
          replace hw := hw y_14 ey_14
          refine lv_istore_n (pc := 91) (lv' := [(2, .int y_14), (5, .int y_6), (4, .int y_2), (0, .ref (q 31)), (1, .int p1), (3, .int x3)]) hx hb dX7_goBy_91 rfl hl (by decide) rfl (fun ls hl => ?_)
          obtain ⟨y_15, ey_15⟩ : ∃ z : Int32, z = (x3 + (1 : Int32)) := ⟨_, rfl⟩
          replace hw := hw y_15 ey_15
          refine lv_iinc (pc := 92) (v := y_15) (lv' := [(3, .int y_15), (2, .int y_14), (5, .int y_6), (4, .int y_2), (0, .ref (q 31)), (1, .int p1)]) hx hb dX7_goBy_92 hl (k := 5) rfl (by rw [ey_15]; rfl) (by decide) rfl (fun ls hl => ?_)
          refine lv_goto (pc := 95) (tgt := 4) hx hb dX7_goBy_95 (by decide) ?_
          exact hw _ _ _ hP hD hS (lv_sub hl [4, 5, 1, 0] rfl)
        refine lv_icmp_ge (pc := 82) (tgt := 89) hx hb dX7_goBy_82 (by decide) (fun c_12 => ?_) (fun c_12 => ?_)
        · skip
          refine lv_iconst (pc := 89) (v := (0 : Int32)) hx hb dX7_goBy_89 (by decide) ?_
          exact K_v_13 _ (by rw [if_pos c_12])
        · skip
          refine lv_iconst (pc := 85) (v := (1 : Int32)) hx hb dX7_goBy_85 (by decide) ?_
          refine lv_goto (pc := 86) (tgt := 90) hx hb dX7_goBy_86 (by decide) ?_
          exact K_v_13 _ (by rw [if_neg c_12])
      refine lv_icmp_ne (pc := 26) (tgt := 33) hx hb dX7_goBy_26 (by decide) (fun c_3 => ?_) (fun c_3 => ?_)
      · skip
        refine lv_iconst (pc := 33) (v := (0 : Int32)) hx hb dX7_goBy_33 (by decide) ?_
        exact K_v_4 _ (by rw [if_neg c_3])
      · skip
        refine lv_iconst (pc := 29) (v := (1 : Int32)) hx hb dX7_goBy_29 (by decide) ?_
        refine lv_goto (pc := 30) (tgt := 34) hx hb dX7_goBy_30 (by decide) ?_
        exact K_v_4 _ (by rw [if_pos c_3]))
  refine lv_iconst (pc := 0) (v := (0 : Int32)) hx hb dX7_goBy_0 (by decide) ?_
  refine lv_istore_n (pc := 1) (lv' := [(2, .int (0 : Int32)), (0, .ref (q 31)), (1, .int p1)]) hx hb dX7_goBy_1 rfl hl (by decide) rfl (fun ls hl => ?_)
  refine lv_iconst (pc := 2) (v := (0 : Int32)) hx hb dX7_goBy_2 (by decide) ?_
  refine lv_istore_n (pc := 3) (lv' := [(3, .int (0 : Int32)), (2, .int (0 : Int32)), (0, .ref (q 31)), (1, .int p1)]) hx hb dX7_goBy_3 rfl hl (by decide) rfl (fun ls hl => ?_)
  exact hw _ _ _ hP hD hS (lv_sub hl [2, 3, 1, 0] rfl)
def P_X7_leastSet (post : Int32 → (Nat → Int64) → Prop) (p1 : Int32) (p2 : Int32) (pl_renewed : Nat → Int32) (pl_found : Nat → Int64) (pl_hands : Int32) : Prop :=
  ∀ (X33 : Int32 → Int32 → Int32 → Int32 → (Nat → Int64) → Prop),
  (∀ (x3 : Int32) (x4 : Int32) (x5 : Int32) (x6 : Int32) (pl_found : Nat → Int64), ((((16 : Int32) ≤ x6 → post (-9 : Int32) pl_found) ∧ (¬ (16 : Int32) ≤ x6 → P_X7_allowed (fun r_7 => ((r_7 = (0 : Int32) → ∀ y_9 : Int32, y_9 = (x6 + (1 : Int32)) → X33 x3 x4 x5 y_9 pl_found) ∧ (¬ r_7 = (0 : Int32) → P_J6_bitCount_0f7a4 (fun r_10 => P_X7_after (fun r_11 => P_X7_fewestFrom 9 (fun r_12 pl_found_13 => (((r_10 + r_12) = x3 → post x6 pl_found_13) ∧ (¬ (r_10 + r_12) = x3 → ∀ y_15 : Int32, y_15 = (x6 + (1 : Int32)) → X33 x3 x4 x5 y_15 pl_found_13))) (p1 - (1 : Int32)) r_11 pl_renewed pl_found pl_hands) p1 p2 x6 pl_renewed) x6))) x6 x4 x5 pl_hands))) → X33 x3 x4 x5 x6 pl_found) →
  P_X7_fewestFrom 9 (fun r_1 pl_found_2 => ((r_1 < (62 : Int32) → P_X7_lotsThatMust (fun r_4 => P_X7_lotsThatMay (fun r_5 => X33 r_1 r_4 r_5 (0 : Int32) pl_found_2) p1 p2 pl_renewed) p2) ∧ (¬ r_1 < (62 : Int32) → post (-9 : Int32) pl_found_2))) p1 p2 pl_renewed pl_found pl_hands
abbrev rm_X7_leastSet : Room := { frames := 12, cells := 0, slots := 0, locals := 339 }
set_option maxHeartbeats 4000000 in
set_option maxRecDepth 100000 in
theorem c_X7_leastSet (l : Launch) (G : va_G) (K : ClassId × ClassId × ClassId) (tb q : Nat → Nat) (sz : Nat) (post : Int32 → (Nat → Int64) → Prop) (p1 : Int32) (p2 : Int32) (pl_renewed : Nat → Int32) (pl_found : Nat → Int64) (pl_hands : Int32) (hw : P_X7_leastSet post p1 p2 pl_renewed pl_found pl_hands) : Met l yX7_leastSet wsX7_leastSet rm_X7_leastSet (va_Pc [.ref (q 31), .int p1, .int p2] (hPre G K tb [oX7 q pl_hands, aI K (q 33) 4 pl_renewed, aJ K (q 34) 878 pl_found] sz)) (va_Qi (fun (r : Int32) (u : (Nat → Int64)) => post r u) (fun u => hB G K (va_A [oX7 q pl_hands, aI K (q 33) 4 pl_renewed, aJ K (q 34) 878 pl_found] sz) [oX7 q pl_hands, aI K (q 33) 4 pl_renewed, aJ K (q 34) 878 u]) (va_A [oX7 q pl_hands, aI K (q 33) 4 pl_renewed, aJ K (q 34) 878 pl_found] sz)) 0 0 (va_A [oX7 q pl_hands, aI K (q 33) 4 pl_renewed, aJ K (q 34) 878 pl_found] sz) := by
  refine hMet (fun A => va_Qi (fun (r : Int32) (u : (Nat → Int64)) => post r u) (fun u => hB G K A [oX7 q pl_hands, aI K (q 33) 4 pl_renewed, aJ K (q 34) 878 u]) A) (by decide) rfl (Nat.le_of_ble_eq_true rfl) ?_
  intro p e s m av below meth c A Q ls hx hb hr hml hts hown hlocks hnm hA hP hK hD hS hE hQ hl
  have hts : ∀ w ∈ wsX7_leastSet, w.before av s = true := hts
  have hown : s.vm.findClass RX7 = some m.cls := hown
  have hl : lv_has ls 7 [(0, .ref (q 31)), (1, .int p1), (2, .int p2)] := hl
  unfold P_X7_leastSet at hw
  replace hw := hw (fun (x3 : Int32) (x4 : Int32) (x5 : Int32) (x6 : Int32) (pl_found : Nat → Int64) => ∀ (H : Heap) (locs : List Loc) (ls : Array Slot), va_P G vwCl [oX7 q pl_hands, aI K (q 33) 4 pl_renewed, aJ K (q 34) 878 pl_found] H → va_D A [oX7 q pl_hands, aI K (q 33) 4 pl_renewed, aJ K (q 34) 878 pl_found] → va_S A s.heap H locs → lv_has ls 7 [(0, .ref (q 31)), (1, .int p1), (2, .int p2), (3, .int x3), (4, .int x4), (5, .int x5), (6, .int x6)] → W p l e rm_X7_leastSet s m av below meth c H locs 0 0 Q (F0 m 33 ls []))
  replace hw := hw (by
    intro x3 x4 x5 x6 pl_found hw H locs ls hP hD hS hl
    refine lv_iload (pc := 33) hx hb dX7_leastSet_33 (lv_at hl 6 rfl) ?_
    refine lv_bipush (pc := 35) (v := (16 : Int32)) hx hb dX7_leastSet_35 (by decide) ?_
    refine lv_icmp_ge (pc := 37) (tgt := 87) hx hb dX7_leastSet_37 (by decide) (fun c_6 => ?_) (fun c_6 => ?_)
    · replace hw := hw.1 c_6
      refine lv_bipush (pc := 87) (v := (-9 : Int32)) hx hb dX7_leastSet_87 (by decide) ?_
      exact hRetI (S := (Nat → Int64)) pl_found hx hb hr hlocks hQ hw hP hK hD hS dX7_leastSet_89
    · replace hw := hw.2 c_6
      refine lv_aload_n (pc := 40) hx hb dX7_leastSet_40 rfl (lv_at hl 0 rfl) ?_
      refine lv_iload (pc := 41) hx hb dX7_leastSet_41 (lv_at hl 6 rfl) ?_
      refine lv_iload (pc := 43) hx hb dX7_leastSet_43 (lv_at hl 4 rfl) ?_
      refine lv_iload (pc := 45) hx hb dX7_leastSet_45 (lv_at hl 5 rfl) ?_
      refine hCallI (pc := 47) (wr := [aI K (q 33) 4 pl_renewed, aJ K (q 34) 878 pl_found]) (wsf := fun (u : Unit) => [oX7 q pl_hands]) [0] [1, 2] (va_runV (As := [.int x6, .int x4, .int x5]) (rest := []) ⟨hx, hb, hml, hown, hts⟩ (c_X7_allowed l G K tb q H.size _ x6 x4 x5 pl_hands hw) (cwV 3 hts gX7_leastSet_X7_allowed rfl rfl rfl (by decide +kernel) ⟨Nat.le_of_ble_eq_true rfl, Nat.le_of_ble_eq_true rfl⟩) (hPreV hE hP hK hD hS hA [0] (by decide) rfl rfl rfl rfl (q0 := 0) (ci := 7) rfl) rfl rfl hl.1 rfl (lv_room (Nat.le_of_ble_eq_true rfl)) dX7_leastSet_47 ⟨Nat.zero_le _, Nat.zero_le _⟩) hP hD hS hA rfl rfl (by decide) (by decide) (fun r_7 u H locs hw hP hD hS => ?_)
      have hP : va_P G vwCl [oX7 q pl_hands, aI K (q 33) 4 pl_renewed, aJ K (q 34) 878 pl_found] H := hP.sub [2, 0, 1] rfl
      have hD : va_D A [oX7 q pl_hands, aI K (q 33) 4 pl_renewed, aJ K (q 34) 878 pl_found] := hD.sub [2, 0, 1] (by decide) rfl
      refine lv_if_eq (pc := 50) (tgt := 81) hx hb dX7_leastSet_50 (by decide) (fun c_8 => ?_) (fun c_8 => ?_)
      · replace hw := hw.1 c_8
        obtain ⟨y_9, ey_9⟩ : ∃ z : Int32, z = (x6 + (1 : Int32)) := ⟨_, rfl⟩
        replace hw := hw y_9 ey_9
        refine lv_iinc (pc := 81) (v := y_9) (lv' := [(6, .int y_9), (0, .ref (q 31)), (1, .int p1), (2, .int p2), (3, .int x3), (4, .int x4), (5, .int x5)]) hx hb dX7_leastSet_81 hl (k := 6) rfl (by rw [ey_9]; rfl) (by decide) rfl (fun ls hl => ?_)
        refine lv_goto (pc := 84) (tgt := 33) hx hb dX7_leastSet_84 (by decide) ?_
        exact hw _ _ _ hP hD hS (lv_sub hl [1, 2, 3, 4, 5, 6, 0] rfl)
      · replace hw := hw.2 c_8
        refine lv_iload (pc := 53) hx hb dX7_leastSet_53 (lv_at hl 6 rfl) ?_
        refine hCallI (pc := 55) (wr := [oX7 q pl_hands, aI K (q 33) 4 pl_renewed, aJ K (q 34) 878 pl_found]) (wsf := fun (u : Unit) => []) [] [0, 1, 2] (va_runS (As := [.int x6]) (rest := []) ⟨hx, hb, hml, hown, hts⟩ (c_J6_bitCount_0f7a4 l G K tb q H.size _ x6 hw) (va_cwS 1 hts gX7_leastSet_J6_bitCount_0f7a4 rfl rfl rfl (by decide +kernel) ⟨Nat.le_of_ble_eq_true rfl, Nat.le_of_ble_eq_true rfl⟩) (hPreS hE hP hK hD hS hA [] (by decide) rfl rfl) rfl rfl hl.1 rfl (lv_room (Nat.le_of_ble_eq_true rfl)) dX7_leastSet_55 ⟨Nat.zero_le _, Nat.zero_le _⟩) hP hD hS hA rfl rfl (by decide) (by decide) (fun r_10 u H locs hw hP hD hS => ?_)
        have hP : va_P G vwCl [oX7 q pl_hands, aI K (q 33) 4 pl_renewed, aJ K (q 34) 878 pl_found] H := hP.sub [0, 1, 2] rfl
        have hD : va_D A [oX7 q pl_hands, aI K (q 33) 4 pl_renewed, aJ K (q 34) 878 pl_found] := hD.sub [0, 1, 2] (by decide) rfl
        refine lv_aload_n (pc := 58) hx hb dX7_leastSet_58 rfl (lv_at hl 0 rfl) ?_
        refine lv_iload_n (pc := 59) hx hb dX7_leastSet_59 rfl (lv_at hl 1 rfl) ?_
        refine lv_iconst (pc := 60) (v := (1 : Int32)) hx hb dX7_leastSet_60 (by decide) ?_
        refine lv_isub (pc := 61) hx hb dX7_leastSet_61 ?_
        refine lv_aload_n (pc := 62) hx hb dX7_leastSet_62 rfl (lv_at hl 0 rfl) ?_
        refine lv_iload_n (pc := 63) hx hb dX7_leastSet_63 rfl (lv_at hl 1 rfl) ?_
        refine lv_iload_n (pc := 64) hx hb dX7_leastSet_64 rfl (lv_at hl 2 rfl) ?_
        refine lv_iload (pc := 65) hx hb dX7_leastSet_65 (lv_at hl 6 rfl) ?_
        refine hCallI (pc := 67) (wr := [aJ K (q 34) 878 pl_found]) (wsf := fun (u : Unit) => [oX7 q pl_hands, aI K (q 33) 4 pl_renewed]) [0, 1] [2] (va_runV (As := [.int p1, .int p2, .int x6]) (rest := [.int (p1 - (1 : Int32)), .ref (q 31), .int r_10]) ⟨hx, hb, hml, hown, hts⟩ (c_X7_after l G K tb q H.size pl_hands _ p1 p2 x6 pl_renewed hw) (cwV 3 hts gX7_leastSet_X7_after rfl rfl rfl (by decide +kernel) ⟨Nat.le_of_ble_eq_true rfl, Nat.le_of_ble_eq_true rfl⟩) (hPreV hE hP hK hD hS hA [0, 1] (by decide) rfl rfl rfl rfl (q0 := 0) (ci := 7) rfl) rfl rfl hl.1 rfl (lv_room (Nat.le_of_ble_eq_true rfl)) dX7_leastSet_67 ⟨Nat.zero_le _, Nat.zero_le _⟩) hP hD hS hA rfl rfl (by decide) (by decide) (fun r_11 u H locs hw hP hD hS => ?_)
        have hP : va_P G vwCl [oX7 q pl_hands, aI K (q 33) 4 pl_renewed, aJ K (q 34) 878 pl_found] H := hP.sub [1, 2, 0] rfl
        have hD : va_D A [oX7 q pl_hands, aI K (q 33) 4 pl_renewed, aJ K (q 34) 878 pl_found] := hD.sub [1, 2, 0] (by decide) rfl
        refine hCallI (pc := 70) (wr := []) (wsf := fun (u : (Nat → Int64)) => [oX7 q pl_hands, aI K (q 33) 4 pl_renewed, aJ K (q 34) 878 u]) [0, 1, 2] [] (va_runV (As := [.int (p1 - (1 : Int32)), .int r_11]) (rest := [.int r_10]) ⟨hx, hb, hml, hown, hts⟩ (c_X7_fewestFrom l G K tb q 9 H.size _ (p1 - (1 : Int32)) r_11 pl_renewed pl_found pl_hands hw) (cwV 2 hts gX7_leastSet_X7_fewestFrom rfl rfl rfl (by decide +kernel) ⟨Nat.le_of_ble_eq_true rfl, Nat.le_of_ble_eq_true rfl⟩) (hPreV hE hP hK hD hS hA [0, 1, 2] (by decide) rfl rfl rfl rfl (q0 := 0) (ci := 7) rfl) rfl rfl hl.1 rfl (lv_room (Nat.le_of_ble_eq_true rfl)) dX7_leastSet_70 ⟨Nat.zero_le _, Nat.zero_le _⟩) hP hD hS hA rfl rfl (by decide) (by decide) (fun r_12 u H locs hw hP hD hS => ?_)
        obtain ⟨pl_found_13, rfl⟩ : ∃ z, z = u := ⟨_, rfl⟩
        have hP : va_P G vwCl [oX7 q pl_hands, aI K (q 33) 4 pl_renewed, aJ K (q 34) 878 pl_found_13] H := hP.sub [0, 1, 2] rfl
        have hD : va_D A [oX7 q pl_hands, aI K (q 33) 4 pl_renewed, aJ K (q 34) 878 pl_found_13] := hD.sub [0, 1, 2] (by decide) rfl
        refine lv_iadd (pc := 73) hx hb dX7_leastSet_73 ?_
        refine lv_iload_n (pc := 74) hx hb dX7_leastSet_74 rfl (lv_at hl 3 rfl) ?_
        refine lv_icmp_ne (pc := 75) (tgt := 81) hx hb dX7_leastSet_75 (by decide) (fun c_14 => ?_) (fun c_14 => ?_)
        · replace hw := hw.2 c_14
          obtain ⟨y_15, ey_15⟩ : ∃ z : Int32, z = (x6 + (1 : Int32)) := ⟨_, rfl⟩
          replace hw := hw y_15 ey_15
          refine lv_iinc (pc := 81) (v := y_15) (lv' := [(6, .int y_15), (0, .ref (q 31)), (1, .int p1), (2, .int p2), (3, .int x3), (4, .int x4), (5, .int x5)]) hx hb dX7_leastSet_81 hl (k := 6) rfl (by rw [ey_15]; rfl) (by decide) rfl (fun ls hl => ?_)
          refine lv_goto (pc := 84) (tgt := 33) hx hb dX7_leastSet_84 (by decide) ?_
          exact hw _ _ _ hP hD hS (lv_sub hl [1, 2, 3, 4, 5, 6, 0] rfl)
        · replace hw := hw.1 c_14
          refine lv_iload (pc := 78) hx hb dX7_leastSet_78 (lv_at hl 6 rfl) ?_
          exact hRetI (S := (Nat → Int64)) pl_found_13 hx hb hr hlocks hQ hw hP hK hD hS dX7_leastSet_80)
  refine lv_aload_n (pc := 0) hx hb dX7_leastSet_0 rfl (lv_at hl 0 rfl) ?_
  refine lv_iload_n (pc := 1) hx hb dX7_leastSet_1 rfl (lv_at hl 1 rfl) ?_
  refine lv_iload_n (pc := 2) hx hb dX7_leastSet_2 rfl (lv_at hl 2 rfl) ?_
  refine hCallI (pc := 3) (wr := []) (wsf := fun (u : (Nat → Int64)) => [oX7 q pl_hands, aI K (q 33) 4 pl_renewed, aJ K (q 34) 878 u]) [0, 1, 2] [] (va_runV (As := [.int p1, .int p2]) (rest := []) ⟨hx, hb, hml, hown, hts⟩ (c_X7_fewestFrom l G K tb q 9 s.heap.size _ p1 p2 pl_renewed pl_found pl_hands hw) (cwV 2 hts gX7_leastSet_X7_fewestFrom rfl rfl rfl (by decide +kernel) ⟨Nat.le_of_ble_eq_true rfl, Nat.le_of_ble_eq_true rfl⟩) (hPreV hE hP hK hD hS hA [0, 1, 2] (by decide) rfl rfl rfl rfl (q0 := 0) (ci := 7) rfl) rfl rfl hl.1 rfl (lv_room (Nat.le_of_ble_eq_true rfl)) dX7_leastSet_3 ⟨Nat.zero_le _, Nat.zero_le _⟩) hP hD hS hA rfl rfl (by decide) (by decide) (fun r_1 u H locs hw hP hD hS => ?_)
  obtain ⟨pl_found_2, rfl⟩ : ∃ z, z = u := ⟨_, rfl⟩
  have hP : va_P G vwCl [oX7 q pl_hands, aI K (q 33) 4 pl_renewed, aJ K (q 34) 878 pl_found_2] H := hP.sub [0, 1, 2] rfl
  have hD : va_D A [oX7 q pl_hands, aI K (q 33) 4 pl_renewed, aJ K (q 34) 878 pl_found_2] := hD.sub [0, 1, 2] (by decide) rfl
  refine lv_istore_n (pc := 6) (lv' := [(3, .int r_1), (0, .ref (q 31)), (1, .int p1), (2, .int p2)]) hx hb dX7_leastSet_6 rfl hl (by decide) rfl (fun ls hl => ?_)
  refine lv_iload_n (pc := 7) hx hb dX7_leastSet_7 rfl (lv_at hl 0 rfl) ?_
  refine lv_bipush (pc := 8) (v := (62 : Int32)) hx hb dX7_leastSet_8 (by decide) ?_
  refine lv_icmp_lt (pc := 10) (tgt := 16) hx hb dX7_leastSet_10 (by decide) (fun c_3 => ?_) (fun c_3 => ?_)
  · replace hw := hw.1 c_3
    refine lv_iload_n (pc := 16) hx hb dX7_leastSet_16 rfl (lv_at hl 3 rfl) ?_
    refine hCallI (pc := 17) (wr := [oX7 q pl_hands, aI K (q 33) 4 pl_renewed, aJ K (q 34) 878 pl_found_2]) (wsf := fun (u : Unit) => []) [] [0, 1, 2] (va_runS (As := [.int p2]) (rest := []) ⟨hx, hb, hml, hown, hts⟩ (c_X7_lotsThatMust l G K tb q H.size _ p2 hw) (va_cwS 1 hts gX7_leastSet_X7_lotsThatMust rfl rfl rfl (by decide +kernel) ⟨Nat.le_of_ble_eq_true rfl, Nat.le_of_ble_eq_true rfl⟩) (hPreS hE hP hK hD hS hA [] (by decide) rfl rfl) rfl rfl hl.1 rfl (lv_room (Nat.le_of_ble_eq_true rfl)) dX7_leastSet_17 ⟨Nat.zero_le _, Nat.zero_le _⟩) hP hD hS hA rfl rfl (by decide) (by decide) (fun r_4 u H locs hw hP hD hS => ?_)
    have hP : va_P G vwCl [oX7 q pl_hands, aI K (q 33) 4 pl_renewed, aJ K (q 34) 878 pl_found_2] H := hP.sub [0, 1, 2] rfl
    have hD : va_D A [oX7 q pl_hands, aI K (q 33) 4 pl_renewed, aJ K (q 34) 878 pl_found_2] := hD.sub [0, 1, 2] (by decide) rfl
    refine lv_istore (pc := 20) (lv' := [(4, .int r_4), (3, .int r_1), (0, .ref (q 31)), (1, .int p1), (2, .int p2)]) hx hb dX7_leastSet_20 hl (by decide) rfl (fun ls hl => ?_)
    refine lv_aload_n (pc := 22) hx hb dX7_leastSet_22 rfl (lv_at hl 2 rfl) ?_
    refine lv_iload_n (pc := 23) hx hb dX7_leastSet_23 rfl (lv_at hl 3 rfl) ?_
    refine lv_iload_n (pc := 24) hx hb dX7_leastSet_24 rfl (lv_at hl 4 rfl) ?_
    refine hCallI (pc := 25) (wr := [aJ K (q 34) 878 pl_found_2]) (wsf := fun (u : Unit) => [oX7 q pl_hands, aI K (q 33) 4 pl_renewed]) [0, 1] [2] (va_runV (As := [.int p1, .int p2]) (rest := []) ⟨hx, hb, hml, hown, hts⟩ (c_X7_lotsThatMay l G K tb q H.size pl_hands _ p1 p2 pl_renewed hw) (cwV 2 hts gX7_leastSet_X7_lotsThatMay rfl rfl rfl (by decide +kernel) ⟨Nat.le_of_ble_eq_true rfl, Nat.le_of_ble_eq_true rfl⟩) (hPreV hE hP hK hD hS hA [0, 1] (by decide) rfl rfl rfl rfl (q0 := 0) (ci := 7) rfl) rfl rfl hl.1 rfl (lv_room (Nat.le_of_ble_eq_true rfl)) dX7_leastSet_25 ⟨Nat.zero_le _, Nat.zero_le _⟩) hP hD hS hA rfl rfl (by decide) (by decide) (fun r_5 u H locs hw hP hD hS => ?_)
    have hP : va_P G vwCl [oX7 q pl_hands, aI K (q 33) 4 pl_renewed, aJ K (q 34) 878 pl_found_2] H := hP.sub [1, 2, 0] rfl
    have hD : va_D A [oX7 q pl_hands, aI K (q 33) 4 pl_renewed, aJ K (q 34) 878 pl_found_2] := hD.sub [1, 2, 0] (by decide) rfl
    refine lv_istore (pc := 28) (lv' := [(5, .int r_5), (4, .int r_4), (3, .int r_1), (0, .ref (q 31)), (1, .int p1), (2, .int p2)]) hx hb dX7_leastSet_28 hl (by decide) rfl (fun ls hl => ?_)
    refine lv_iconst (pc := 30) (v := (0 : Int32)) hx hb dX7_leastSet_30 (by decide) ?_
    refine lv_istore (pc := 31) (lv' := [(6, .int (0 : Int32)), (5, .int r_5), (4, .int r_4), (3, .int r_1), (0, .ref (q 31)), (1, .int p1), (2, .int p2)]) hx hb dX7_leastSet_31 hl (by decide) rfl (fun ls hl => ?_)
    exact hw _ _ _ hP hD hS (lv_sub hl [4, 5, 6, 3, 2, 1, 0] rfl)
  · replace hw := hw.2 c_3
    refine lv_bipush (pc := 13) (v := (-9 : Int32)) hx hb dX7_leastSet_13 (by decide) ?_
    exact hRetI (S := (Nat → Int64)) pl_found_2 hx hb hr hlocks hQ hw hP hK hD hS dX7_leastSet_15
def P_X7_setHands (post : Int32 → (Nat → Int64) → Int32 → Prop) (p1 : Int32) (pl_found : Nat → Int64) (pl_hands : Int32) : Prop :=
  ((p1 = pl_hands → post pl_hands pl_found p1) ∧ (¬ p1 = pl_hands → P_J7_fill_d0a16 (fun pl_found_2 => post pl_hands pl_found_2 p1) (0 : Int64) 878 pl_found))
abbrev rm_X7_setHands : Room := { frames := 1, cells := 0, slots := 0, locals := 24 }
theorem iw_X7_setHands_X7 : ∀ w ∈ wsX70, w ∈ wsX7_setHands := by decide +kernel
set_option maxHeartbeats 4000000 in
set_option maxRecDepth 100000 in
theorem c_X7_setHands (l : Launch) (G : va_G) (K : ClassId × ClassId × ClassId) (tb q : Nat → Nat) (sz : Nat) (post : Int32 → (Nat → Int64) → Int32 → Prop) (p1 : Int32) (pl_found : Nat → Int64) (pl_hands : Int32) (hw : P_X7_setHands post p1 pl_found pl_hands) : Met l yX7_setHands wsX7_setHands rm_X7_setHands (va_Pc [.ref (q 31), .int p1] (hPre G K tb [oX7 q pl_hands, aJ K (q 34) 878 pl_found] sz)) (va_Qi (fun (r : Int32) (u : (Nat → Int64) × Int32) => post r u.1 u.2) (fun u => hB G K (va_A [oX7 q pl_hands, aJ K (q 34) 878 pl_found] sz) [oX7 q u.2, aJ K (q 34) 878 u.1]) (va_A [oX7 q pl_hands, aJ K (q 34) 878 pl_found] sz)) 0 0 (va_A [oX7 q pl_hands, aJ K (q 34) 878 pl_found] sz) := by
  refine hMet (fun A => va_Qi (fun (r : Int32) (u : (Nat → Int64) × Int32) => post r u.1 u.2) (fun u => hB G K A [oX7 q u.2, aJ K (q 34) 878 u.1]) A) (by decide) rfl (Nat.le_of_ble_eq_true rfl) ?_
  intro p e s m av below meth c A Q ls hx hb hr hml hts hown hlocks hnm hA hP hK hD hS hE hQ hl
  have hts : ∀ w ∈ wsX7_setHands, w.before av s = true := hts
  have hown : s.vm.findClass RX7 = some m.cls := hown
  have hl : lv_has ls 3 [(0, .ref (q 31)), (1, .int p1)] := hl
  unfold P_X7_setHands at hw
  refine lv_aload_n (pc := 0) hx hb dX7_setHands_0 rfl (lv_at hl 0 rfl) ?_
  refine va_get (pc := 1) (D := G) (ci := 7) (v := .int pl_hands) (C := RX7) (T := TX7) (N := 4) hx hb hts iw_X7_setHands_X7 hown hK hP 0 rfl rfl 3 (by decide) (hts _ (List.mem_of_getElem? (i := 1) rfl)) (fun _ h9 => h9) rfl dX7_setHands_1 ?_
  refine lv_istore_n (pc := 4) (lv' := [(2, .int pl_hands), (0, .ref (q 31)), (1, .int p1)]) hx hb dX7_setHands_4 rfl hl (by decide) rfl (fun ls hl => ?_)
  refine lv_aload_n (pc := 5) hx hb dX7_setHands_5 rfl (lv_at hl 1 rfl) ?_
  refine lv_iload_n (pc := 6) hx hb dX7_setHands_6 rfl (lv_at hl 2 rfl) ?_
  refine va_put (pc := 7) (D := G) (ci := 7) (v := .int p1) (ty := .int) (C := RX7) (T := TX7) (N := 4) hx hb hts iw_X7_setHands_X7 tyX7 tyX7_ok nmX7 hown hK hP hD hS 0 rfl rfl 3 (by decide) (hts _ (List.mem_of_getElem? (i := 1) rfl)) (fun _ h9 => h9) rfl (by decide +kernel) rfl rfl (Nat.le_of_ble_eq_true rfl) dX7_setHands_7 (fun H locs hP hD hS => ?_)
  have hP : va_P G vwCl [oX7 q p1, aJ K (q 34) 878 pl_found] H := hP
  have hD : va_D A [oX7 q p1, aJ K (q 34) 878 pl_found] := hD
  refine lv_iload_n (pc := 10) hx hb dX7_setHands_10 rfl (lv_at hl 2 rfl) ?_
  refine lv_iload_n (pc := 11) hx hb dX7_setHands_11 rfl (lv_at hl 0 rfl) ?_
  refine lv_icmp_eq (pc := 12) (tgt := 23) hx hb dX7_setHands_12 (by decide) (fun c_1 => ?_) (fun c_1 => ?_)
  · replace hw := hw.1 c_1
    refine lv_iload_n (pc := 23) hx hb dX7_setHands_23 rfl (lv_at hl 0 rfl) ?_
    exact hRetI (S := (Nat → Int64) × Int32) (pl_found, p1) hx hb hr hlocks hQ hw hP hK hD hS dX7_setHands_24
  · replace hw := hw.2 c_1
    refine lv_aload_n (pc := 15) hx hb dX7_setHands_15 rfl (lv_at hl 1 rfl) ?_
    refine va_get (pc := 16) (D := G) (ci := 7) (v := .ref (q 34)) (C := RX7) (T := TX7) (N := 4) hx hb hts iw_X7_setHands_X7 hown hK hP 0 rfl rfl 2 (by decide) (hts _ (List.mem_of_getElem? (i := 2) rfl)) (fun _ h9 => h9) rfl dX7_setHands_16 ?_
    refine lv_lconst (pc := 19) (v := (0 : Int64)) hx hb dX7_setHands_19 (by decide) ?_
    refine hCallV (pc := 20) (wr := [oX7 q p1]) (wsf := fun (u : (Nat → Int64)) => [aJ K (q 34) 878 u]) [1] [0] (va_runS (As := [.ref (q 34), .long (0 : Int64)]) (rest := []) ⟨hx, hb, hml, hown, hts⟩ (c_J7_fill_d0a16 l G K tb q H.size (q 34) 878 _ (0 : Int64) pl_found hw) (va_cwS 2 hts gX7_setHands_J7_fill_d0a16 rfl rfl rfl (by decide +kernel) ⟨Nat.le_of_ble_eq_true rfl, Nat.le_of_ble_eq_true rfl⟩) (hPreS hE hP hK hD hS hA [1] (by decide) rfl rfl) rfl rfl hl.1 rfl (lv_room (Nat.le_of_ble_eq_true rfl)) dX7_setHands_20 ⟨Nat.zero_le _, Nat.zero_le _⟩) hP hD hS hA rfl rfl (by decide) (by decide) (fun u H locs hw hP hD hS => ?_)
    obtain ⟨pl_found_2, rfl⟩ : ∃ z, z = u := ⟨_, rfl⟩
    have hP : va_P G vwCl [oX7 q p1, aJ K (q 34) 878 pl_found_2] H := hP.sub [0, 1] rfl
    have hD : va_D A [oX7 q p1, aJ K (q 34) 878 pl_found_2] := hD.sub [0, 1] (by decide) rfl
    refine lv_iload_n (pc := 23) hx hb dX7_setHands_23 rfl (lv_at hl 0 rfl) ?_
    exact hRetI (S := (Nat → Int64) × Int32) (pl_found_2, p1) hx hb hr hlocks hQ hw hP hK hD hS dX7_setHands_24
def P_X7_setOfMonth (post : Int32 → (Nat → Int32) → (Nat → Int64) → Prop) (p1 : Int32) (p2 : Int32) (pl_values : Nat → Int32) (pl_renewed : Nat → Int32) (pl_found : Nat → Int64) (pl_hands : Int32) : Prop :=
  ∀ (X13 : Int32 → Int32 → Int32 → (Nat → Int32) → (Nat → Int64) → Prop),
  (∀ (x3 : Int32) (x4 : Int32) (x5 : Int32) (pl_renewed : Nat → Int32) (pl_found : Nat → Int64), (((p2 < x5 → post x4 pl_renewed pl_found) ∧ (¬ p2 < x5 → P_X7_leastSet (fun r_4 pl_found_5 => ((r_4 = (-9 : Int32) → post (-9 : Int32) pl_renewed pl_found_5) ∧ (¬ r_4 = (-9 : Int32) → P_X7_after (fun r_7 => ∀ y_8 : Int32, y_8 = (x5 + (1 : Int32)) → X13 r_7 r_4 y_8 pl_renewed pl_found_5) (p1 - x5) x3 r_4 pl_renewed))) (p1 - x5) x3 pl_renewed pl_found pl_hands))) → X13 x3 x4 x5 pl_renewed pl_found) →
  P_X7_stateNow (fun r_1 pl_renewed_2 => X13 r_1 (-9 : Int32) (0 : Int32) pl_renewed_2 pl_found) p1 pl_values pl_renewed
abbrev rm_X7_setOfMonth : Room := { frames := 13, cells := 0, slots := 0, locals := 365 }
set_option maxHeartbeats 4000000 in
set_option maxRecDepth 100000 in
theorem c_X7_setOfMonth (l : Launch) (G : va_G) (K : ClassId × ClassId × ClassId) (tb q : Nat → Nat) (sz : Nat) (post : Int32 → (Nat → Int32) → (Nat → Int64) → Prop) (p1 : Int32) (p2 : Int32) (pl_values : Nat → Int32) (pl_renewed : Nat → Int32) (pl_found : Nat → Int64) (pl_hands : Int32) (hw : P_X7_setOfMonth post p1 p2 pl_values pl_renewed pl_found pl_hands) : Met l yX7_setOfMonth wsX7_setOfMonth rm_X7_setOfMonth (va_Pc [.ref (q 31), .int p1, .int p2] (hPre G K tb [oX7 q pl_hands, aI K (q 32) 16 pl_values, aI K (q 33) 4 pl_renewed, aJ K (q 34) 878 pl_found] sz)) (va_Qi (fun (r : Int32) (u : (Nat → Int32) × (Nat → Int64)) => post r u.1 u.2) (fun u => hB G K (va_A [oX7 q pl_hands, aI K (q 32) 16 pl_values, aI K (q 33) 4 pl_renewed, aJ K (q 34) 878 pl_found] sz) [oX7 q pl_hands, aI K (q 32) 16 pl_values, aI K (q 33) 4 u.1, aJ K (q 34) 878 u.2]) (va_A [oX7 q pl_hands, aI K (q 32) 16 pl_values, aI K (q 33) 4 pl_renewed, aJ K (q 34) 878 pl_found] sz)) 0 0 (va_A [oX7 q pl_hands, aI K (q 32) 16 pl_values, aI K (q 33) 4 pl_renewed, aJ K (q 34) 878 pl_found] sz) := by
  refine hMet (fun A => va_Qi (fun (r : Int32) (u : (Nat → Int32) × (Nat → Int64)) => post r u.1 u.2) (fun u => hB G K A [oX7 q pl_hands, aI K (q 32) 16 pl_values, aI K (q 33) 4 u.1, aJ K (q 34) 878 u.2]) A) (by decide) rfl (Nat.le_of_ble_eq_true rfl) ?_
  intro p e s m av below meth c A Q ls hx hb hr hml hts hown hlocks hnm hA hP hK hD hS hE hQ hl
  have hts : ∀ w ∈ wsX7_setOfMonth, w.before av s = true := hts
  have hown : s.vm.findClass RX7 = some m.cls := hown
  have hl : lv_has ls 6 [(0, .ref (q 31)), (1, .int p1), (2, .int p2)] := hl
  unfold P_X7_setOfMonth at hw
  replace hw := hw (fun (x3 : Int32) (x4 : Int32) (x5 : Int32) (pl_renewed : Nat → Int32) (pl_found : Nat → Int64) => ∀ (H : Heap) (locs : List Loc) (ls : Array Slot), va_P G vwCl [oX7 q pl_hands, aI K (q 32) 16 pl_values, aI K (q 33) 4 pl_renewed, aJ K (q 34) 878 pl_found] H → va_D A [oX7 q pl_hands, aI K (q 32) 16 pl_values, aI K (q 33) 4 pl_renewed, aJ K (q 34) 878 pl_found] → va_S A s.heap H locs → lv_has ls 6 [(0, .ref (q 31)), (1, .int p1), (2, .int p2), (3, .int x3), (4, .int x4), (5, .int x5)] → W p l e rm_X7_setOfMonth s m av below meth c H locs 0 0 Q (F0 m 13 ls []))
  replace hw := hw (by
    intro x3 x4 x5 pl_renewed pl_found hw H locs ls hP hD hS hl
    refine lv_iload (pc := 13) hx hb dX7_setOfMonth_13 (lv_at hl 5 rfl) ?_
    refine lv_iload_n (pc := 15) hx hb dX7_setOfMonth_15 rfl (lv_at hl 2 rfl) ?_
    refine lv_icmp_gt (pc := 16) (tgt := 58) hx hb dX7_setOfMonth_16 (by decide) (fun c_3 => ?_) (fun c_3 => ?_)
    · replace hw := hw.1 c_3
      refine lv_iload (pc := 58) hx hb dX7_setOfMonth_58 (lv_at hl 4 rfl) ?_
      exact hRetI (S := (Nat → Int32) × (Nat → Int64)) (pl_renewed, pl_found) hx hb hr hlocks hQ hw hP hK hD hS dX7_setOfMonth_60
    · replace hw := hw.2 c_3
      refine lv_aload_n (pc := 19) hx hb dX7_setOfMonth_19 rfl (lv_at hl 0 rfl) ?_
      refine lv_iload_n (pc := 20) hx hb dX7_setOfMonth_20 rfl (lv_at hl 1 rfl) ?_
      refine lv_iload (pc := 21) hx hb dX7_setOfMonth_21 (lv_at hl 5 rfl) ?_
      refine lv_isub (pc := 23) hx hb dX7_setOfMonth_23 ?_
      refine lv_iload_n (pc := 24) hx hb dX7_setOfMonth_24 rfl (lv_at hl 3 rfl) ?_
      refine hCallI (pc := 25) (wr := [aI K (q 32) 16 pl_values]) (wsf := fun (u : (Nat → Int64)) => [oX7 q pl_hands, aI K (q 33) 4 pl_renewed, aJ K (q 34) 878 u]) [0, 2, 3] [1] (va_runV (As := [.int (p1 - x5), .int x3]) (rest := []) ⟨hx, hb, hml, hown, hts⟩ (c_X7_leastSet l G K tb q H.size _ (p1 - x5) x3 pl_renewed pl_found pl_hands hw) (cwV 2 hts gX7_setOfMonth_X7_leastSet rfl rfl rfl (by decide +kernel) ⟨Nat.le_of_ble_eq_true rfl, Nat.le_of_ble_eq_true rfl⟩) (hPreV hE hP hK hD hS hA [0, 2, 3] (by decide) rfl rfl rfl rfl (q0 := 0) (ci := 7) rfl) rfl rfl hl.1 rfl (lv_room (Nat.le_of_ble_eq_true rfl)) dX7_setOfMonth_25 ⟨Nat.zero_le _, Nat.zero_le _⟩) hP hD hS hA rfl rfl (by decide) (by decide) (fun r_4 u H locs hw hP hD hS => ?_)
      obtain ⟨pl_found_5, rfl⟩ : ∃ z, z = u := ⟨_, rfl⟩
      have hP : va_P G vwCl [oX7 q pl_hands, aI K (q 32) 16 pl_values, aI K (q 33) 4 pl_renewed, aJ K (q 34) 878 pl_found_5] H := hP.sub [1, 0, 2, 3] rfl
      have hD : va_D A [oX7 q pl_hands, aI K (q 32) 16 pl_values, aI K (q 33) 4 pl_renewed, aJ K (q 34) 878 pl_found_5] := hD.sub [1, 0, 2, 3] (by decide) rfl
      refine lv_istore (pc := 28) (lv' := [(4, .int r_4), (0, .ref (q 31)), (1, .int p1), (2, .int p2), (3, .int x3), (5, .int x5)]) hx hb dX7_setOfMonth_28 hl (by decide) rfl (fun ls hl => ?_)
      refine lv_iload (pc := 30) hx hb dX7_setOfMonth_30 (lv_at hl 0 rfl) ?_
      refine lv_bipush (pc := 32) (v := (-9 : Int32)) hx hb dX7_setOfMonth_32 (by decide) ?_
      refine lv_icmp_ne (pc := 34) (tgt := 40) hx hb dX7_setOfMonth_34 (by decide) (fun c_6 => ?_) (fun c_6 => ?_)
      · replace hw := hw.2 c_6
        refine lv_aload_n (pc := 40) hx hb dX7_setOfMonth_40 rfl (lv_at hl 1 rfl) ?_
        refine lv_iload_n (pc := 41) hx hb dX7_setOfMonth_41 rfl (lv_at hl 2 rfl) ?_
        refine lv_iload (pc := 42) hx hb dX7_setOfMonth_42 (lv_at hl 5 rfl) ?_
        refine lv_isub (pc := 44) hx hb dX7_setOfMonth_44 ?_
        refine lv_iload_n (pc := 45) hx hb dX7_setOfMonth_45 rfl (lv_at hl 4 rfl) ?_
        refine lv_iload (pc := 46) hx hb dX7_setOfMonth_46 (lv_at hl 0 rfl) ?_
        refine hCallI (pc := 48) (wr := [aI K (q 32) 16 pl_values, aJ K (q 34) 878 pl_found_5]) (wsf := fun (u : Unit) => [oX7 q pl_hands, aI K (q 33) 4 pl_renewed]) [0, 2] [1, 3] (va_runV (As := [.int (p1 - x5), .int x3, .int r_4]) (rest := []) ⟨hx, hb, hml, hown, hts⟩ (c_X7_after l G K tb q H.size pl_hands _ (p1 - x5) x3 r_4 pl_renewed hw) (cwV 3 hts gX7_setOfMonth_X7_after rfl rfl rfl (by decide +kernel) ⟨Nat.le_of_ble_eq_true rfl, Nat.le_of_ble_eq_true rfl⟩) (hPreV hE hP hK hD hS hA [0, 2] (by decide) rfl rfl rfl rfl (q0 := 0) (ci := 7) rfl) rfl rfl hl.1 rfl (lv_room (Nat.le_of_ble_eq_true rfl)) dX7_setOfMonth_48 ⟨Nat.zero_le _, Nat.zero_le _⟩) hP hD hS hA rfl rfl (by decide) (by decide) (fun r_7 u H locs hw hP hD hS => ?_)
        have hP : va_P G vwCl [oX7 q pl_hands, aI K (q 32) 16 pl_values, aI K (q 33) 4 pl_renewed, aJ K (q 34) 878 pl_found_5] H := hP.sub [2, 0, 3, 1] rfl
        have hD : va_D A [oX7 q pl_hands, aI K (q 32) 16 pl_values, aI K (q 33) 4 pl_renewed, aJ K (q 34) 878 pl_found_5] := hD.sub [2, 0, 3, 1] (by decide) rfl
        refine lv_istore_n (pc := 51) (lv' := [(3, .int r_7), (4, .int r_4), (0, .ref (q 31)), (1, .int p1), (2, .int p2), (5, .int x5)]) hx hb dX7_setOfMonth_51 rfl hl (by decide) rfl (fun ls hl => ?_)
        obtain ⟨y_8, ey_8⟩ : ∃ z : Int32, z = (x5 + (1 : Int32)) := ⟨_, rfl⟩
        replace hw := hw y_8 ey_8
        refine lv_iinc (pc := 52) (v := y_8) (lv' := [(5, .int y_8), (3, .int r_7), (4, .int r_4), (0, .ref (q 31)), (1, .int p1), (2, .int p2)]) hx hb dX7_setOfMonth_52 hl (k := 5) rfl (by rw [ey_8]; rfl) (by decide) rfl (fun ls hl => ?_)
        refine lv_goto (pc := 55) (tgt := 13) hx hb dX7_setOfMonth_55 (by decide) ?_
        exact hw _ _ _ hP hD hS (lv_sub hl [3, 4, 5, 1, 2, 0] rfl)
      · replace hw := hw.1 c_6
        refine lv_bipush (pc := 37) (v := (-9 : Int32)) hx hb dX7_setOfMonth_37 (by decide) ?_
        exact hRetI (S := (Nat → Int32) × (Nat → Int64)) (pl_renewed, pl_found_5) hx hb hr hlocks hQ hw hP hK hD hS dX7_setOfMonth_39)
  refine lv_aload_n (pc := 0) hx hb dX7_setOfMonth_0 rfl (lv_at hl 0 rfl) ?_
  refine lv_iload_n (pc := 1) hx hb dX7_setOfMonth_1 rfl (lv_at hl 1 rfl) ?_
  refine hCallI (pc := 2) (wr := [aJ K (q 34) 878 pl_found]) (wsf := fun (u : (Nat → Int32)) => [oX7 q pl_hands, aI K (q 32) 16 pl_values, aI K (q 33) 4 u]) [0, 1, 2] [3] (va_runV (As := [.int p1]) (rest := []) ⟨hx, hb, hml, hown, hts⟩ (c_X7_stateNow l G K tb q s.heap.size pl_hands _ p1 pl_values pl_renewed hw) (cwV 1 hts gX7_setOfMonth_X7_stateNow rfl rfl rfl (by decide +kernel) ⟨Nat.le_of_ble_eq_true rfl, Nat.le_of_ble_eq_true rfl⟩) (hPreV hE hP hK hD hS hA [0, 1, 2] (by decide) rfl rfl rfl rfl (q0 := 0) (ci := 7) rfl) rfl rfl hl.1 rfl (lv_room (Nat.le_of_ble_eq_true rfl)) dX7_setOfMonth_2 ⟨Nat.zero_le _, Nat.zero_le _⟩) hP hD hS hA rfl rfl (by decide) (by decide) (fun r_1 u H locs hw hP hD hS => ?_)
  obtain ⟨pl_renewed_2, rfl⟩ : ∃ z, z = u := ⟨_, rfl⟩
  have hP : va_P G vwCl [oX7 q pl_hands, aI K (q 32) 16 pl_values, aI K (q 33) 4 pl_renewed_2, aJ K (q 34) 878 pl_found] H := hP.sub [1, 2, 3, 0] rfl
  have hD : va_D A [oX7 q pl_hands, aI K (q 32) 16 pl_values, aI K (q 33) 4 pl_renewed_2, aJ K (q 34) 878 pl_found] := hD.sub [1, 2, 3, 0] (by decide) rfl
  refine lv_istore_n (pc := 5) (lv' := [(3, .int r_1), (0, .ref (q 31)), (1, .int p1), (2, .int p2)]) hx hb dX7_setOfMonth_5 rfl hl (by decide) rfl (fun ls hl => ?_)
  refine lv_bipush (pc := 6) (v := (-9 : Int32)) hx hb dX7_setOfMonth_6 (by decide) ?_
  refine lv_istore (pc := 8) (lv' := [(4, .int (-9 : Int32)), (3, .int r_1), (0, .ref (q 31)), (1, .int p1), (2, .int p2)]) hx hb dX7_setOfMonth_8 hl (by decide) rfl (fun ls hl => ?_)
  refine lv_iconst (pc := 10) (v := (0 : Int32)) hx hb dX7_setOfMonth_10 (by decide) ?_
  refine lv_istore (pc := 11) (lv' := [(5, .int (0 : Int32)), (4, .int (-9 : Int32)), (3, .int r_1), (0, .ref (q 31)), (1, .int p1), (2, .int p2)]) hx hb dX7_setOfMonth_11 hl (by decide) rfl (fun ls hl => ?_)
  exact hw _ _ _ hP hD hS (lv_sub hl [3, 4, 5, 2, 1, 0] rfl)
def P_X7_setValue (post : Int32 → (Nat → Int32) → (Nat → Int64) → Prop) (p1 : Int32) (p2 : Int32) (p3 : Int32) (pl_values : Nat → Int32) (pl_found : Nat → Int64) : Prop :=
  ∀ y_1 : Int32, y_1 = ((p1 * (4 : Int32)) + p2) → vp_in y_1 16 ∧ ∀ y_3 : Int32, y_3 = (pl_values y_1.toNatClampNeg) → ∀ pl_values_4 : Nat → Int32, pl_values_4 = upd pl_values y_1.toNatClampNeg p3 → ((p2 = (0 : Int32) → post y_3 pl_values_4 pl_found) ∧ (¬ p2 = (0 : Int32) → ((p3 = y_3 → post y_3 pl_values_4 pl_found) ∧ (¬ p3 = y_3 → P_J7_fill_d0a16 (fun pl_found_7 => post y_3 pl_values_4 pl_found_7) (0 : Int64) 878 pl_found))))
abbrev rm_X7_setValue : Room := { frames := 1, cells := 0, slots := 0, locals := 24 }
theorem iw_X7_setValue_X7 : ∀ w ∈ wsX70, w ∈ wsX7_setValue := by decide +kernel
set_option maxHeartbeats 4000000 in
set_option maxRecDepth 100000 in
theorem c_X7_setValue (l : Launch) (G : va_G) (K : ClassId × ClassId × ClassId) (tb q : Nat → Nat) (sz : Nat) (pl_hands : Int32) (post : Int32 → (Nat → Int32) → (Nat → Int64) → Prop) (p1 : Int32) (p2 : Int32) (p3 : Int32) (pl_values : Nat → Int32) (pl_found : Nat → Int64) (hw : P_X7_setValue post p1 p2 p3 pl_values pl_found) : Met l yX7_setValue wsX7_setValue rm_X7_setValue (va_Pc [.ref (q 31), .int p1, .int p2, .int p3] (hPre G K tb [oX7 q pl_hands, aI K (q 32) 16 pl_values, aJ K (q 34) 878 pl_found] sz)) (va_Qi (fun (r : Int32) (u : (Nat → Int32) × (Nat → Int64)) => post r u.1 u.2) (fun u => hB G K (va_A [oX7 q pl_hands, aI K (q 32) 16 pl_values, aJ K (q 34) 878 pl_found] sz) [oX7 q pl_hands, aI K (q 32) 16 u.1, aJ K (q 34) 878 u.2]) (va_A [oX7 q pl_hands, aI K (q 32) 16 pl_values, aJ K (q 34) 878 pl_found] sz)) 0 0 (va_A [oX7 q pl_hands, aI K (q 32) 16 pl_values, aJ K (q 34) 878 pl_found] sz) := by
  refine hMet (fun A => va_Qi (fun (r : Int32) (u : (Nat → Int32) × (Nat → Int64)) => post r u.1 u.2) (fun u => hB G K A [oX7 q pl_hands, aI K (q 32) 16 u.1, aJ K (q 34) 878 u.2]) A) (by decide) rfl (Nat.le_of_ble_eq_true rfl) ?_
  intro p e s m av below meth c A Q ls hx hb hr hml hts hown hlocks hnm hA hP hK hD hS hE hQ hl
  have hts : ∀ w ∈ wsX7_setValue, w.before av s = true := hts
  have hown : s.vm.findClass RX7 = some m.cls := hown
  have hl : lv_has ls 6 [(0, .ref (q 31)), (1, .int p1), (2, .int p2), (3, .int p3)] := hl
  unfold P_X7_setValue at hw
  refine lv_iload_n (pc := 0) hx hb dX7_setValue_0 rfl (lv_at hl 1 rfl) ?_
  refine lv_iconst (pc := 1) (v := (4 : Int32)) hx hb dX7_setValue_1 (by decide) ?_
  refine lv_imul (pc := 2) hx hb dX7_setValue_2 ?_
  refine lv_iload_n (pc := 3) hx hb dX7_setValue_3 rfl (lv_at hl 2 rfl) ?_
  refine lv_iadd (pc := 4) hx hb dX7_setValue_4 ?_
  refine lv_topi (fun y_1 ey_1 => ?_)
  replace hw := hw y_1 ey_1
  refine lv_istore (pc := 5) (lv' := [(4, .int y_1), (0, .ref (q 31)), (1, .int p1), (2, .int p2), (3, .int p3)]) hx hb dX7_setValue_5 hl (by decide) rfl (fun ls hl => ?_)
  refine lv_aload_n (pc := 7) hx hb dX7_setValue_7 rfl (lv_at hl 1 rfl) ?_
  refine va_get (pc := 8) (D := G) (ci := 7) (v := .ref (q 32)) (C := RX7) (T := TX7) (N := 4) hx hb hts iw_X7_setValue_X7 hown hK hP 0 rfl rfl 0 (by decide) (hts _ (List.mem_of_getElem? (i := 1) rfl)) (fun _ h9 => h9) rfl dX7_setValue_8 ?_
  refine lv_iload (pc := 11) hx hb dX7_setValue_11 (lv_at hl 0 rfl) ?_
  obtain ⟨h_2, hw⟩ := hw
  refine va_iald (pc := 13) hx hb hK hP 1 0 rfl rfl h_2 dX7_setValue_13 ?_
  refine lv_topi (fun y_3 ey_3 => ?_)
  replace hw := hw y_3 ey_3
  refine lv_istore (pc := 14) (lv' := [(5, .int y_3), (4, .int y_1), (0, .ref (q 31)), (1, .int p1), (2, .int p2), (3, .int p3)]) hx hb dX7_setValue_14 hl (by decide) rfl (fun ls hl => ?_)
  refine lv_aload_n (pc := 16) hx hb dX7_setValue_16 rfl (lv_at hl 2 rfl) ?_
  refine va_get (pc := 17) (D := G) (ci := 7) (v := .ref (q 32)) (C := RX7) (T := TX7) (N := 4) hx hb hts iw_X7_setValue_X7 hown hK hP 0 rfl rfl 0 (by decide) (hts _ (List.mem_of_getElem? (i := 1) rfl)) (fun _ h9 => h9) rfl dX7_setValue_17 ?_
  refine lv_iload (pc := 20) hx hb dX7_setValue_20 (lv_at hl 1 rfl) ?_
  refine lv_iload_n (pc := 22) hx hb dX7_setValue_22 rfl (lv_at hl 5 rfl) ?_
  refine va_iast (pc := 23) hx hb hK hP hD hS 1 0 rfl rfl h_2 dX7_setValue_23 (fun H locs hP hD hS => ?_)
  obtain ⟨pl_values_4, epl_values_4⟩ : ∃ z : Nat → Int32, z = upd pl_values y_1.toNatClampNeg p3 := ⟨_, rfl⟩
  have hP : va_P G vwCl [oX7 q pl_hands, aI K (q 32) 16 pl_values_4, aJ K (q 34) 878 pl_found] H := by rw [epl_values_4]; exact hP
  have hD : va_D A [oX7 q pl_hands, aI K (q 32) 16 pl_values_4, aJ K (q 34) 878 pl_found] := by rw [epl_values_4]; exact hD
  replace hw := hw pl_values_4 epl_values_4
  refine lv_iload_n (pc := 24) hx hb dX7_setValue_24 rfl (lv_at hl 4 rfl) ?_
  refine lv_if_eq (pc := 25) (tgt := 42) hx hb dX7_setValue_25 (by decide) (fun c_5 => ?_) (fun c_5 => ?_)
  · replace hw := hw.1 c_5
    refine lv_iload (pc := 42) hx hb dX7_setValue_42 (lv_at hl 0 rfl) ?_
    exact hRetI (S := (Nat → Int32) × (Nat → Int64)) (pl_values_4, pl_found) hx hb hr hlocks hQ hw hP hK hD hS dX7_setValue_44
  · replace hw := hw.2 c_5
    refine lv_iload_n (pc := 28) hx hb dX7_setValue_28 rfl (lv_at hl 5 rfl) ?_
    refine lv_iload (pc := 29) hx hb dX7_setValue_29 (lv_at hl 0 rfl) ?_
    refine lv_icmp_eq (pc := 31) (tgt := 42) hx hb dX7_setValue_31 (by decide) (fun c_6 => ?_) (fun c_6 => ?_)
    · replace hw := hw.1 c_6
      refine lv_iload (pc := 42) hx hb dX7_setValue_42 (lv_at hl 0 rfl) ?_
      exact hRetI (S := (Nat → Int32) × (Nat → Int64)) (pl_values_4, pl_found) hx hb hr hlocks hQ hw hP hK hD hS dX7_setValue_44
    · replace hw := hw.2 c_6
      refine lv_aload_n (pc := 34) hx hb dX7_setValue_34 rfl (lv_at hl 2 rfl) ?_
      refine va_get (pc := 35) (D := G) (ci := 7) (v := .ref (q 34)) (C := RX7) (T := TX7) (N := 4) hx hb hts iw_X7_setValue_X7 hown hK hP 0 rfl rfl 2 (by decide) (hts _ (List.mem_of_getElem? (i := 2) rfl)) (fun _ h9 => h9) rfl dX7_setValue_35 ?_
      refine lv_lconst (pc := 38) (v := (0 : Int64)) hx hb dX7_setValue_38 (by decide) ?_
      refine hCallV (pc := 39) (wr := [oX7 q pl_hands, aI K (q 32) 16 pl_values_4]) (wsf := fun (u : (Nat → Int64)) => [aJ K (q 34) 878 u]) [2] [0, 1] (va_runS (As := [.ref (q 34), .long (0 : Int64)]) (rest := []) ⟨hx, hb, hml, hown, hts⟩ (c_J7_fill_d0a16 l G K tb q H.size (q 34) 878 _ (0 : Int64) pl_found hw) (va_cwS 2 hts gX7_setValue_J7_fill_d0a16 rfl rfl rfl (by decide +kernel) ⟨Nat.le_of_ble_eq_true rfl, Nat.le_of_ble_eq_true rfl⟩) (hPreS hE hP hK hD hS hA [2] (by decide) rfl rfl) rfl rfl hl.1 rfl (lv_room (Nat.le_of_ble_eq_true rfl)) dX7_setValue_39 ⟨Nat.zero_le _, Nat.zero_le _⟩) hP hD hS hA rfl rfl (by decide) (by decide) (fun u H locs hw hP hD hS => ?_)
      obtain ⟨pl_found_7, rfl⟩ : ∃ z, z = u := ⟨_, rfl⟩
      have hP : va_P G vwCl [oX7 q pl_hands, aI K (q 32) 16 pl_values_4, aJ K (q 34) 878 pl_found_7] H := hP.sub [0, 1, 2] rfl
      have hD : va_D A [oX7 q pl_hands, aI K (q 32) 16 pl_values_4, aJ K (q 34) 878 pl_found_7] := hD.sub [0, 1, 2] (by decide) rfl
      refine lv_iload (pc := 42) hx hb dX7_setValue_42 (lv_at hl 0 rfl) ?_
      exact hRetI (S := (Nat → Int32) × (Nat → Int64)) (pl_values_4, pl_found_7) hx hb hr hlocks hQ hw hP hK hD hS dX7_setValue_44
