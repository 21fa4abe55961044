def P_X6_pairOneMore (post : (Nat → Int64) → (Nat → Int64) → Prop) (p2 : Int32) (mk_sign : Nat → Int32) (mk_weight : Nat → Int32) (mk_finds : Int32) (pr_best : Nat → Int64) (pr_gain : Nat → Int64) : Prop :=
  ∀ (X2 : Int32 → (Nat → Int64) → (Nat → Int64) → Prop),
  ∀ (X74 : Int32 → (Nat → Int64) → (Nat → Int64) → Prop),
  ∀ (X81 : Int32 → Int32 → (Nat → Int64) → (Nat → Int64) → Prop),
  (∀ (x3 : Int32) (pr_best : Nat → Int64) (pr_gain : Nat → Int64), (((mk_finds ≤ x3 → ∀ y_2 : Int32, y_2 = (((1 : Int32) <<< (mk_finds &&& 31)) - (1 : Int32)) → X74 y_2 pr_best pr_gain) ∧ (¬ mk_finds ≤ x3 → P_X5_price (fun r_3 => ((r_3 = (-9 : Int32) → True) ∧ (¬ r_3 = (-9 : Int32) → (vp_in p2 8 ∧ True))) ∧ ∀ v_6 : Int64, v_6 = (if r_3 = (-9 : Int32) then (0 : Int64) else ((((1000 : Int32) - r_3).toInt64 * (43046721 : Int64)) + (((8 : Int32) - x3).toInt64 * (tPl p2.toNatClampNeg).toInt64))) → vp_in x3 8 ∧ ∀ pr_gain_8 : Nat → Int64, pr_gain_8 = vp_updL pr_gain x3.toNatClampNeg v_6 → ∀ y_9 : Int32, y_9 = (x3 + (1 : Int32)) → X2 y_9 pr_best pr_gain_8) p2 x3 mk_sign mk_weight))) → X2 x3 pr_best pr_gain) →
  (∀ (x3 : Int32) (pr_best : Nat → Int64) (pr_gain : Nat → Int64), (((x3 ≤ (0 : Int32) → post pr_best pr_gain) ∧ (¬ x3 ≤ (0 : Int32) → X81 x3 (0 : Int32) pr_best pr_gain))) → X74 x3 pr_best pr_gain) →
  (∀ (x3 : Int32) (x4 : Int32) (pr_best : Nat → Int64) (pr_gain : Nat → Int64), (((mk_finds ≤ x4 → ∀ y_12 : Int32, y_12 = (x3 + (-1 : Int32)) → X74 y_12 pr_best pr_gain) ∧ (¬ mk_finds ≤ x4 → ((((x3 >>> (x4 &&& 31)) &&& (1 : Int32)) = (1 : Int32) → vp_in x4 8 ∧ (((lg_cmp (pr_gain x4.toNatClampNeg) (0 : Int64)) ≤ (0 : Int32) → ∀ y_17 : Int32, y_17 = (x4 + (1 : Int32)) → X81 x3 y_17 pr_best pr_gain) ∧ (¬ (lg_cmp (pr_gain x4.toNatClampNeg) (0 : Int64)) ≤ (0 : Int32) → vp_in x3 256 ∧ vp_in (x3 ^^^ ((1 : Int32) <<< (x4 &&& 31))) 256 ∧ ∀ y_20 : Int64, y_20 = (if ((pr_best (x3 ^^^ ((1 : Int32) <<< (x4 &&& 31))).toNatClampNeg) + (pr_gain x4.toNatClampNeg)) < (pr_best x3.toNatClampNeg) then (pr_best x3.toNatClampNeg) else ((pr_best (x3 ^^^ ((1 : Int32) <<< (x4 &&& 31))).toNatClampNeg) + (pr_gain x4.toNatClampNeg))) → ∀ pr_best_21 : Nat → Int64, pr_best_21 = vp_updL pr_best x3.toNatClampNeg y_20 → ∀ y_22 : Int32, y_22 = (x4 + (1 : Int32)) → X81 x3 y_22 pr_best_21 pr_gain))) ∧ (¬ ((x3 >>> (x4 &&& 31)) &&& (1 : Int32)) = (1 : Int32) → ∀ y_14 : Int32, y_14 = (x4 + (1 : Int32)) → X81 x3 y_14 pr_best pr_gain))))) → X81 x3 x4 pr_best pr_gain) →
  X2 (0 : Int32) pr_best pr_gain
abbrev rm_X6_pairOneMore : Room := { frames := 2, cells := 0, slots := 0, locals := 50 }
theorem iw_X6_pairOneMore_X5 : ∀ w ∈ wsX50, w ∈ wsX6_pairOneMore := by decide +kernel
theorem iw_X6_pairOneMore_X6 : ∀ w ∈ wsX60, w ∈ wsX6_pairOneMore := by decide +kernel
set_option maxHeartbeats 4000000 in
set_option maxRecDepth 100000 in
theorem c_X6_pairOneMore (l : Launch) (G : va_G) (K : ClassId × ClassId × ClassId) (tb q : Nat → Nat) (sz : Nat) (mk_pieces : Int32) (post : (Nat → Int64) → (Nat → Int64) → Prop) (p2 : Int32) (mk_sign : Nat → Int32) (mk_weight : Nat → Int32) (mk_finds : Int32) (pr_best : Nat → Int64) (pr_gain : Nat → Int64) (hw : P_X6_pairOneMore post p2 mk_sign mk_weight mk_finds pr_best pr_gain) : Met l yX6_pairOneMore wsX6_pairOneMore rm_X6_pairOneMore (va_Pc [.ref (q 38), .ref (q 35), .int p2] (hPre G K tb [oX5 q mk_pieces mk_finds, aI K (q 36) 48 mk_sign, aI K (q 37) 16 mk_weight, oX6 q, aJ K (q 39) 256 pr_best, aJ K (q 40) 8 pr_gain] sz)) (va_Qv (fun (u : (Nat → Int64) × (Nat → Int64)) => post u.1 u.2) (fun u => hB G K (va_A [oX5 q mk_pieces mk_finds, aI K (q 36) 48 mk_sign, aI K (q 37) 16 mk_weight, oX6 q, aJ K (q 39) 256 pr_best, aJ K (q 40) 8 pr_gain] sz) [oX5 q mk_pieces mk_finds, aI K (q 36) 48 mk_sign, aI K (q 37) 16 mk_weight, oX6 q, aJ K (q 39) 256 u.1, aJ K (q 40) 8 u.2]) (va_A [oX5 q mk_pieces mk_finds, aI K (q 36) 48 mk_sign, aI K (q 37) 16 mk_weight, oX6 q, aJ K (q 39) 256 pr_best, aJ K (q 40) 8 pr_gain] sz)) 0 0 (va_A [oX5 q mk_pieces mk_finds, aI K (q 36) 48 mk_sign, aI K (q 37) 16 mk_weight, oX6 q, aJ K (q 39) 256 pr_best, aJ K (q 40) 8 pr_gain] sz) := by
  refine hMet (fun A => va_Qv (fun (u : (Nat → Int64) × (Nat → Int64)) => post u.1 u.2) (fun u => hB G K A [oX5 q mk_pieces mk_finds, aI K (q 36) 48 mk_sign, aI K (q 37) 16 mk_weight, oX6 q, aJ K (q 39) 256 u.1, aJ K (q 40) 8 u.2]) A) (by decide) rfl (Nat.le_of_ble_eq_true rfl) ?_
  intro p e s m av below meth c A Q ls hx hb hr hml hts hown hlocks hnm hA hP hK hD hS hE hQ hl
  have hts : ∀ w ∈ wsX6_pairOneMore, w.before av s = true := hts
  have hown : s.vm.findClass RX6 = some m.cls := hown
  have hl : lv_has ls 5 [(0, .ref (q 38)), (1, .ref (q 35)), (2, .int p2)] := hl
  unfold P_X6_pairOneMore at hw
  replace hw := hw (fun (x3 : Int32) (pr_best : Nat → Int64) (pr_gain : Nat → Int64) => ∀ (H : Heap) (locs : List Loc) (ls : Array Slot), va_P G vwCl [oX5 q mk_pieces mk_finds, aI K (q 36) 48 mk_sign, aI K (q 37) 16 mk_weight, oX6 q, aJ K (q 39) 256 pr_best, aJ K (q 40) 8 pr_gain] H → va_D A [oX5 q mk_pieces mk_finds, aI K (q 36) 48 mk_sign, aI K (q 37) 16 mk_weight, oX6 q, aJ K (q 39) 256 pr_best, aJ K (q 40) 8 pr_gain] → va_S A s.heap H locs → lv_has ls 5 [(0, .ref (q 38)), (1, .ref (q 35)), (2, .int p2), (3, .int x3)] → W p l e rm_X6_pairOneMore s m av below meth c H locs 0 0 Q (F0 m 2 ls []))
  replace hw := hw (fun (x3 : Int32) (pr_best : Nat → Int64) (pr_gain : Nat → Int64) => ∀ (H : Heap) (locs : List Loc) (ls : Array Slot), va_P G vwCl [oX5 q mk_pieces mk_finds, aI K (q 36) 48 mk_sign, aI K (q 37) 16 mk_weight, oX6 q, aJ K (q 39) 256 pr_best, aJ K (q 40) 8 pr_gain] H → va_D A [oX5 q mk_pieces mk_finds, aI K (q 36) 48 mk_sign, aI K (q 37) 16 mk_weight, oX6 q, aJ K (q 39) 256 pr_best, aJ K (q 40) 8 pr_gain] → va_S A s.heap H locs → lv_has ls 5 [(0, .ref (q 38)), (1, .ref (q 35)), (3, .int x3)] → W p l e rm_X6_pairOneMore s m av below meth c H locs 0 0 Q (F0 m 74 ls []))
  replace hw := hw (fun (x3 : Int32) (x4 : Int32) (pr_best : Nat → Int64) (pr_gain : Nat → Int64) => ∀ (H : Heap) (locs : List Loc) (ls : Array Slot), va_P G vwCl [oX5 q mk_pieces mk_finds, aI K (q 36) 48 mk_sign, aI K (q 37) 16 mk_weight, oX6 q, aJ K (q 39) 256 pr_best, aJ K (q 40) 8 pr_gain] H → va_D A [oX5 q mk_pieces mk_finds, aI K (q 36) 48 mk_sign, aI K (q 37) 16 mk_weight, oX6 q, aJ K (q 39) 256 pr_best, aJ K (q 40) 8 pr_gain] → va_S A s.heap H locs → lv_has ls 5 [(0, .ref (q 38)), (1, .ref (q 35)), (3, .int x3), (4, .int x4)] → W p l e rm_X6_pairOneMore s m av below meth c H locs 0 0 Q (F0 m 81 ls []))
  replace hw := hw (by
    intro x3 pr_best pr_gain hw H locs ls hP hD hS hl
    refine lv_iload_n (pc := 2) hx hb dX6_pairOneMore_2 rfl (lv_at hl 3 rfl) ?_
    refine lv_aload_n (pc := 3) hx hb dX6_pairOneMore_3 rfl (lv_at hl 1 rfl) ?_
    refine va_getN (pc := 4) (D := G) (host := RX10) (ci := 5) (v := .int mk_finds) (C := RX5) (T := TX5) (N := 4) hx hb hts iw_X6_pairOneMore_X5 hown hK hP 0 rfl rfl 3 (by decide) (hE.use 22 rfl) (fun _ h9 => h9) rfl dX6_pairOneMore_4 ?_
    refine lv_icmp_ge (pc := 7) (tgt := 65) hx hb dX6_pairOneMore_7 (by decide) (fun c_1 => ?_) (fun c_1 => ?_)
    · replace hw := hw.1 c_1
      refine lv_iconst (pc := 65) (v := (1 : Int32)) hx hb dX6_pairOneMore_65 (by decide) ?_
      refine lv_aload_n (pc := 66) hx hb dX6_pairOneMore_66 rfl (lv_at hl 1 rfl) ?_
      refine va_getN (pc := 67) (D := G) (host := RX10) (ci := 5) (v := .int mk_finds) (C := RX5) (T := TX5) (N := 4) hx hb hts iw_X6_pairOneMore_X5 hown hK hP 0 rfl rfl 3 (by decide) (hE.use 22 rfl) (fun _ h9 => h9) rfl dX6_pairOneMore_67 ?_
      refine lv_ishl (pc := 70) hx hb dX6_pairOneMore_70 ?_
      refine lv_iconst (pc := 71) (v := (1 : Int32)) hx hb dX6_pairOneMore_71 (by decide) ?_
      refine lv_isub (pc := 72) hx hb dX6_pairOneMore_72 ?_
      refine lv_topi (fun y_2 ey_2 => ?_)
      replace hw := hw y_2 ey_2
      refine lv_istore_n (pc := 73) (lv' := [(3, .int y_2), (0, .ref (q 38)), (1, .ref (q 35)), (2, .int p2)]) hx hb dX6_pairOneMore_73 rfl hl (by decide) rfl (fun ls hl => ?_)
      exact hw _ _ _ hP hD hS (lv_sub hl [1, 2, 0] rfl)
    · replace hw := hw.2 c_1
      refine lv_aload_n (pc := 10) hx hb dX6_pairOneMore_10 rfl (lv_at hl 1 rfl) ?_
      refine lv_iload_n (pc := 11) hx hb dX6_pairOneMore_11 rfl (lv_at hl 2 rfl) ?_
      refine lv_iload_n (pc := 12) hx hb dX6_pairOneMore_12 rfl (lv_at hl 3 rfl) ?_
      refine hCallI (pc := 13) (wr := [oX6 q, aJ K (q 39) 256 pr_best, aJ K (q 40) 8 pr_gain]) (wsf := fun (u : Unit) => [oX5 q mk_pieces mk_finds, aI K (q 36) 48 mk_sign, aI K (q 37) 16 mk_weight]) [0, 1, 2] [3, 4, 5] (va_runVN (As := [.int p2, .int x3]) (rest := []) ⟨hx, hb, hml, hown, hts⟩ (c_X5_price l G K tb q H.size mk_pieces mk_finds _ p2 x3 mk_sign mk_weight hw) ⟨va_cnB 2 hts gX6_pairOneMore_X5_price_n48 rfl rfl rfl (hE.nw 64 rfl) (hts _ (List.mem_of_getElem? (i := 10) rfl)) (by decide +kernel) ⟨Nat.le_of_ble_eq_true rfl, Nat.le_of_ble_eq_true rfl⟩, (hts _ (List.mem_of_getElem? (i := 9) rfl)), (hts _ (List.mem_of_getElem? (i := 11) rfl))⟩ (hPreV hE hP hK hD hS hA [0, 1, 2] (by decide) rfl rfl rfl rfl (q0 := 0) (ci := 5) rfl) rfl rfl hl.1 rfl (lv_room (Nat.le_of_ble_eq_true rfl)) dX6_pairOneMore_13 ⟨Nat.zero_le _, Nat.zero_le _⟩) hP hD hS hA rfl rfl (by decide) (by decide) (fun r_3 u H locs hw hP hD hS => ?_)
      have hP : va_P G vwCl [oX5 q mk_pieces mk_finds, aI K (q 36) 48 mk_sign, aI K (q 37) 16 mk_weight, oX6 q, aJ K (q 39) 256 pr_best, aJ K (q 40) 8 pr_gain] H := hP.sub [3, 4, 5, 0, 1, 2] rfl
      have hD : va_D A [oX5 q mk_pieces mk_finds, aI K (q 36) 48 mk_sign, aI K (q 37) 16 mk_weight, oX6 q, aJ K (q 39) 256 pr_best, aJ K (q 40) 8 pr_gain] := hD.sub [3, 4, 5, 0, 1, 2] (by decide) rfl
      refine lv_istore (pc := 16) (lv' := [(4, .int r_3), (0, .ref (q 38)), (1, .ref (q 35)), (2, .int p2), (3, .int x3)]) hx hb dX6_pairOneMore_16 hl (by decide) rfl (fun ls hl => ?_)
      refine lv_aload_n (pc := 18) hx hb dX6_pairOneMore_18 rfl (lv_at hl 1 rfl) ?_
      refine va_get (pc := 19) (D := G) (ci := 6) (v := .ref (q 40)) (C := RX6) (T := TX6) (N := 2) hx hb hts iw_X6_pairOneMore_X6 hown hK hP 3 rfl rfl 1 (by decide) (hts _ (List.mem_of_getElem? (i := 1) rfl)) (fun _ h9 => h9) rfl dX6_pairOneMore_19 ?_
      refine lv_iload_n (pc := 22) hx hb dX6_pairOneMore_22 rfl (lv_at hl 4 rfl) ?_
      refine lv_iload (pc := 23) hx hb dX6_pairOneMore_23 (lv_at hl 0 rfl) ?_
      refine lv_bipush (pc := 25) (v := (-9 : Int32)) hx hb dX6_pairOneMore_25 (by decide) ?_
      obtain ⟨hsf, hw⟩ := hw
      have K_v_6 : ∀ v_6 : Int64, v_6 = (if r_3 = (-9 : Int32) then (0 : Int64) else ((((1000 : Int32) - r_3).toInt64 * (43046721 : Int64)) + (((8 : Int32) - x3).toInt64 * (tPl p2.toNatClampNeg).toInt64))) → W p l e rm_X6_pairOneMore s m av below meth c H locs 0 0 Q (F0 m 58 ls [.long v_6, .int x3, .ref (q 40)]) := by
        intro v_6 ev_6
        replace hw := hw v_6 ev_6
        obtain ⟨h_7, hw⟩ := hw
        refine va_last (pc := 58) hx hb hK hP hD hS 5 1 rfl rfl h_7 dX6_pairOneMore_58 (fun H locs hP hD hS => ?_)
        obtain ⟨pr_gain_8, epr_gain_8⟩ : ∃ z : Nat → Int64, z = vp_updL pr_gain x3.toNatClampNeg v_6 := ⟨_, rfl⟩
        have hP : va_P G vwCl [oX5 q mk_pieces mk_finds, aI K (q 36) 48 mk_sign, aI K (q 37) 16 mk_weight, oX6 q, aJ K (q 39) 256 pr_best, aJ K (q 40) 8 pr_gain_8] H := by rw [epr_gain_8]; exact hP
        have hD : va_D A [oX5 q mk_pieces mk_finds, aI K (q 36) 48 mk_sign, aI K (q 37) 16 mk_weight, oX6 q, aJ K (q 39) 256 pr_best, aJ K (q 40) 8 pr_gain_8] := by rw [epr_gain_8]; exact hD
        replace hw := hw pr_gain_8 epr_gain_8
        obtain ⟨y_9, ey_9⟩ : ∃ z : Int32, z = (x3 + (1 : Int32)) := ⟨_, rfl⟩
        replace hw := hw y_9 ey_9
        refine lv_iinc (pc := 59) (v := y_9) (lv' := [(3, .int y_9), (4, .int r_3), (0, .ref (q 38)), (1, .ref (q 35)), (2, .int p2)]) hx hb dX6_pairOneMore_59 hl (k := 4) rfl (by rw [ey_9]; rfl) (by decide) rfl (fun ls hl => ?_)
        refine lv_goto (pc := 62) (tgt := 2) hx hb dX6_pairOneMore_62 (by decide) ?_
        exact hw _ _ _ hP hD hS (lv_sub hl [2, 3, 4, 0] rfl)
      refine lv_icmp_ne (pc := 27) (tgt := 34) hx hb dX6_pairOneMore_27 (by decide) (fun c_4 => ?_) (fun c_4 => ?_)
      · replace hsf := hsf.2 c_4
        refine lv_sipush (pc := 34) (v := (1000 : Int32)) hx hb dX6_pairOneMore_34 (by decide) ?_
        refine lv_iload (pc := 37) hx hb dX6_pairOneMore_37 (lv_at hl 0 rfl) ?_
        refine lv_isub (pc := 39) hx hb dX6_pairOneMore_39 ?_
        refine lv_i2l (pc := 40) hx hb dX6_pairOneMore_40 rfl ?_
        refine lv_ldc2 (pc := 41) (v := (43046721 : Int64)) hx hb hown (hts _ (List.mem_of_getElem? (i := 2) rfl)) dX6_pairOneMore_41 ?_
        refine lv_lmul (pc := 44) hx hb dX6_pairOneMore_44 ?_
        refine lv_bipush (pc := 45) (v := (8 : Int32)) hx hb dX6_pairOneMore_45 (by decide) ?_
        refine lv_iload_n (pc := 47) hx hb dX6_pairOneMore_47 rfl (lv_at hl 4 rfl) ?_
        refine lv_isub (pc := 48) hx hb dX6_pairOneMore_48 ?_
        refine lv_i2l (pc := 49) hx hb dX6_pairOneMore_49 rfl ?_
        refine va_gets (pc := 50) hx hb hE.2.2.2.2.2.1 hS hown (hts _ (List.mem_of_getElem? (i := 3) rfl)) (fun _ h9 => h9) dX6_pairOneMore_50 ?_
        refine lv_iload_n (pc := 53) hx hb dX6_pairOneMore_53 rfl (lv_at hl 3 rfl) ?_
        obtain ⟨h_5, hsf⟩ := hsf
        refine va_ti (pc := 54) (v := .int (tPl p2.toNatClampNeg)) hx hb hE.2.2.2.2.2.2 hS h_5 rfl dX6_pairOneMore_54 ?_
        refine lv_i2l (pc := 55) hx hb dX6_pairOneMore_55 rfl ?_
        refine lv_lmul (pc := 56) hx hb dX6_pairOneMore_56 ?_
        refine lv_ladd (pc := 57) hx hb dX6_pairOneMore_57 ?_
        exact K_v_6 _ (by rw [if_neg c_4])
      · replace hsf := hsf.1 c_4
        refine lv_lconst (pc := 30) (v := (0 : Int64)) hx hb dX6_pairOneMore_30 (by decide) ?_
        refine lv_goto (pc := 31) (tgt := 58) hx hb dX6_pairOneMore_31 (by decide) ?_
        exact K_v_6 _ (by rw [if_pos c_4]))
  replace hw := hw (by
    intro x3 pr_best pr_gain hw H locs ls hP hD hS hl
    refine lv_iload_n (pc := 74) hx hb dX6_pairOneMore_74 rfl (lv_at hl 2 rfl) ?_
    refine lv_if_le (pc := 75) (tgt := 158) hx hb dX6_pairOneMore_75 (by decide) (fun c_10 => ?_) (fun c_10 => ?_)
    · replace hw := hw.1 c_10
      exact hRetV (S := (Nat → Int64) × (Nat → Int64)) (pr_best, pr_gain) hx hb hr hlocks hQ hw hP hK hD hS dX6_pairOneMore_158
    · replace hw := hw.2 c_10
      refine lv_iconst (pc := 78) (v := (0 : Int32)) hx hb dX6_pairOneMore_78 (by decide) ?_
      refine lv_istore (pc := 79) (lv' := [(4, .int (0 : Int32)), (0, .ref (q 38)), (1, .ref (q 35)), (3, .int x3)]) hx hb dX6_pairOneMore_79 hl (by decide) rfl (fun ls hl => ?_)
      exact hw _ _ _ hP hD hS (lv_sub hl [1, 2, 3, 0] rfl))
  replace hw := hw (by
    intro x3 x4 pr_best pr_gain hw H locs ls hP hD hS hl
    refine lv_iload (pc := 81) hx hb dX6_pairOneMore_81 (lv_at hl 3 rfl) ?_
    refine lv_aload_n (pc := 83) hx hb dX6_pairOneMore_83 rfl (lv_at hl 1 rfl) ?_
    refine va_getN (pc := 84) (D := G) (host := RX10) (ci := 5) (v := .int mk_finds) (C := RX5) (T := TX5) (N := 4) hx hb hts iw_X6_pairOneMore_X5 hown hK hP 0 rfl rfl 3 (by decide) (hE.use 22 rfl) (fun _ h9 => h9) rfl dX6_pairOneMore_84 ?_
    refine lv_icmp_ge (pc := 87) (tgt := 152) hx hb dX6_pairOneMore_87 (by decide) (fun c_11 => ?_) (fun c_11 => ?_)
    · replace hw := hw.1 c_11
      obtain ⟨y_12, ey_12⟩ : ∃ z : Int32, z = (x3 + (-1 : Int32)) := ⟨_, rfl⟩
      replace hw := hw y_12 ey_12
      refine lv_iinc (pc := 152) (v := y_12) (lv' := [(3, .int y_12), (0, .ref (q 38)), (1, .ref (q 35)), (4, .int x4)]) hx hb dX6_pairOneMore_152 hl (k := 2) rfl (by rw [ey_12]; rfl) (by decide) rfl (fun ls hl => ?_)
      refine lv_goto (pc := 155) (tgt := 74) hx hb dX6_pairOneMore_155 (by decide) ?_
      exact hw _ _ _ hP hD hS (lv_sub hl [1, 2, 0] rfl)
    · replace hw := hw.2 c_11
      refine lv_iload_n (pc := 90) hx hb dX6_pairOneMore_90 rfl (lv_at hl 2 rfl) ?_
      refine lv_iload (pc := 91) hx hb dX6_pairOneMore_91 (lv_at hl 3 rfl) ?_
      refine lv_ishr (pc := 93) hx hb dX6_pairOneMore_93 ?_
      refine lv_iconst (pc := 94) (v := (1 : Int32)) hx hb dX6_pairOneMore_94 (by decide) ?_
      refine lv_iand (pc := 95) hx hb dX6_pairOneMore_95 ?_
      refine lv_iconst (pc := 96) (v := (1 : Int32)) hx hb dX6_pairOneMore_96 (by decide) ?_
      refine lv_icmp_ne (pc := 97) (tgt := 146) hx hb dX6_pairOneMore_97 (by decide) (fun c_13 => ?_) (fun c_13 => ?_)
      · replace hw := hw.2 c_13
        obtain ⟨y_14, ey_14⟩ : ∃ z : Int32, z = (x4 + (1 : Int32)) := ⟨_, rfl⟩
        replace hw := hw y_14 ey_14
        refine lv_iinc (pc := 146) (v := y_14) (lv' := [(4, .int y_14), (0, .ref (q 38)), (1, .ref (q 35)), (3, .int x3)]) hx hb dX6_pairOneMore_146 hl (k := 3) rfl (by rw [ey_14]; rfl) (by decide) rfl (fun ls hl => ?_)
        refine lv_goto (pc := 149) (tgt := 81) hx hb dX6_pairOneMore_149 (by decide) ?_
        exact hw _ _ _ hP hD hS (lv_sub hl [1, 2, 3, 0] rfl)
      · replace hw := hw.1 c_13
        refine lv_aload_n (pc := 100) hx hb dX6_pairOneMore_100 rfl (lv_at hl 0 rfl) ?_
        refine va_get (pc := 101) (D := G) (ci := 6) (v := .ref (q 40)) (C := RX6) (T := TX6) (N := 2) hx hb hts iw_X6_pairOneMore_X6 hown hK hP 3 rfl rfl 1 (by decide) (hts _ (List.mem_of_getElem? (i := 1) rfl)) (fun _ h9 => h9) rfl dX6_pairOneMore_101 ?_
        refine lv_iload (pc := 104) hx hb dX6_pairOneMore_104 (lv_at hl 3 rfl) ?_
        obtain ⟨h_15, hw⟩ := hw
        refine va_lald (pc := 106) hx hb hK hP 5 1 rfl rfl h_15 dX6_pairOneMore_106 ?_
        refine lv_lconst (pc := 107) (v := (0 : Int64)) hx hb dX6_pairOneMore_107 (by decide) ?_
        refine W.lcmp (pc := 108) hx hb dX6_pairOneMore_108 ?_
        refine lv_if_le (pc := 109) (tgt := 146) hx hb dX6_pairOneMore_109 (by decide) (fun c_16 => ?_) (fun c_16 => ?_)
        · replace hw := hw.1 c_16
          obtain ⟨y_17, ey_17⟩ : ∃ z : Int32, z = (x4 + (1 : Int32)) := ⟨_, rfl⟩
          replace hw := hw y_17 ey_17
          refine lv_iinc (pc := 146) (v := y_17) (lv' := [(4, .int y_17), (0, .ref (q 38)), (1, .ref (q 35)), (3, .int x3)]) hx hb dX6_pairOneMore_146 hl (k := 3) rfl (by rw [ey_17]; rfl) (by decide) rfl (fun ls hl => ?_)
          refine lv_goto (pc := 149) (tgt := 81) hx hb dX6_pairOneMore_149 (by decide) ?_
          exact hw _ _ _ hP hD hS (lv_sub hl [1, 2, 3, 0] rfl)
        · replace hw := hw.2 c_16
          refine lv_aload_n (pc := 112) hx hb dX6_pairOneMore_112 rfl (lv_at hl 0 rfl) ?_
          refine va_get (pc := 113) (D := G) (ci := 6) (v := .ref (q 39)) (C := RX6) (T := TX6) (N := 2) hx hb hts iw_X6_pairOneMore_X6 hown hK hP 3 rfl rfl 0 (by decide) (hts _ (List.mem_of_getElem? (i := 4) rfl)) (fun _ h9 => h9) rfl dX6_pairOneMore_113 ?_
          refine lv_iload_n (pc := 116) hx hb dX6_pairOneMore_116 rfl (lv_at hl 2 rfl) ?_
          refine lv_aload_n (pc := 117) hx hb dX6_pairOneMore_117 rfl (lv_at hl 0 rfl) ?_
          refine va_get (pc := 118) (D := G) (ci := 6) (v := .ref (q 39)) (C := RX6) (T := TX6) (N := 2) hx hb hts iw_X6_pairOneMore_X6 hown hK hP 3 rfl rfl 0 (by decide) (hts _ (List.mem_of_getElem? (i := 4) rfl)) (fun _ h9 => h9) rfl dX6_pairOneMore_118 ?_
          refine lv_iload_n (pc := 121) hx hb dX6_pairOneMore_121 rfl (lv_at hl 2 rfl) ?_
          obtain ⟨h_18, hw⟩ := hw
          refine va_lald (pc := 122) hx hb hK hP 4 1 rfl rfl h_18 dX6_pairOneMore_122 ?_
          refine lv_aload_n (pc := 123) hx hb dX6_pairOneMore_123 rfl (lv_at hl 0 rfl) ?_
          refine va_get (pc := 124) (D := G) (ci := 6) (v := .ref (q 39)) (C := RX6) (T := TX6) (N := 2) hx hb hts iw_X6_pairOneMore_X6 hown hK hP 3 rfl rfl 0 (by decide) (hts _ (List.mem_of_getElem? (i := 4) rfl)) (fun _ h9 => h9) rfl dX6_pairOneMore_124 ?_
          refine lv_iload_n (pc := 127) hx hb dX6_pairOneMore_127 rfl (lv_at hl 2 rfl) ?_
          refine lv_iconst (pc := 128) (v := (1 : Int32)) hx hb dX6_pairOneMore_128 (by decide) ?_
          refine lv_iload (pc := 129) hx hb dX6_pairOneMore_129 (lv_at hl 3 rfl) ?_
          refine lv_ishl (pc := 131) hx hb dX6_pairOneMore_131 ?_
          refine lv_ixor (pc := 132) hx hb dX6_pairOneMore_132 ?_
          obtain ⟨h_19, hw⟩ := hw
          refine va_lald (pc := 133) hx hb hK hP 4 1 rfl rfl h_19 dX6_pairOneMore_133 ?_
          refine lv_aload_n (pc := 134) hx hb dX6_pairOneMore_134 rfl (lv_at hl 0 rfl) ?_
          refine va_get (pc := 135) (D := G) (ci := 6) (v := .ref (q 40)) (C := RX6) (T := TX6) (N := 2) hx hb hts iw_X6_pairOneMore_X6 hown hK hP 3 rfl rfl 1 (by decide) (hts _ (List.mem_of_getElem? (i := 1) rfl)) (fun _ h9 => h9) rfl dX6_pairOneMore_135 ?_
          refine lv_iload (pc := 138) hx hb dX6_pairOneMore_138 (lv_at hl 3 rfl) ?_
          refine va_lald (pc := 140) hx hb hK hP 5 1 rfl rfl h_15 dX6_pairOneMore_140 ?_
          refine lv_ladd (pc := 141) hx hb dX6_pairOneMore_141 ?_
          refine va_mmax_long (pc := 142) hx hb (hml.trans hl.1.symm) hown (hts _ (List.mem_of_getElem? (i := 5) rfl)) (hts _ (List.mem_of_getElem? (i := 6) rfl)) (hts _ (List.mem_of_getElem? (i := 7) rfl)) (hts _ (List.mem_of_getElem? (i := 8) rfl)) (Nat.le_of_ble_eq_true rfl) (Nat.le_of_ble_eq_true rfl) (Nat.zero_le _) (Nat.zero_le _) dX6_pairOneMore_142 ?_
          refine lv_topl (fun y_20 ey_20 => ?_)
          replace hw := hw y_20 ey_20
          refine va_last (pc := 145) hx hb hK hP hD hS 4 1 rfl rfl h_18 dX6_pairOneMore_145 (fun H locs hP hD hS => ?_)
          obtain ⟨pr_best_21, epr_best_21⟩ : ∃ z : Nat → Int64, z = vp_updL pr_best x3.toNatClampNeg y_20 := ⟨_, rfl⟩
          have hP : va_P G vwCl [oX5 q mk_pieces mk_finds, aI K (q 36) 48 mk_sign, aI K (q 37) 16 mk_weight, oX6 q, aJ K (q 39) 256 pr_best_21, aJ K (q 40) 8 pr_gain] H := by rw [epr_best_21]; exact hP
          have hD : va_D A [oX5 q mk_pieces mk_finds, aI K (q 36) 48 mk_sign, aI K (q 37) 16 mk_weight, oX6 q, aJ K (q 39) 256 pr_best_21, aJ K (q 40) 8 pr_gain] := by rw [epr_best_21]; exact hD
          replace hw := hw pr_best_21 epr_best_21
          obtain ⟨y_22, ey_22⟩ : ∃ z : Int32, z = (x4 + (1 : Int32)) := ⟨_, rfl⟩
          replace hw := hw y_22 ey_22
          refine lv_iinc (pc := 146) (v := y_22) (lv' := [(4, .int y_22), (0, .ref (q 38)), (1, .ref (q 35)), (3, .int x3)]) hx hb dX6_pairOneMore_146 hl (k := 3) rfl (by rw [ey_22]; rfl) (by decide) rfl (fun ls hl => ?_)
          refine lv_goto (pc := 149) (tgt := 81) hx hb dX6_pairOneMore_149 (by decide) ?_
          exact hw _ _ _ hP hD hS (lv_sub hl [1, 2, 3, 0] rfl))
  refine lv_iconst (pc := 0) (v := (0 : Int32)) hx hb dX6_pairOneMore_0 (by decide) ?_
  refine lv_istore_n (pc := 1) (lv' := [(3, .int (0 : Int32)), (0, .ref (q 38)), (1, .ref (q 35)), (2, .int p2)]) hx hb dX6_pairOneMore_1 rfl hl (by decide) rfl (fun ls hl => ?_)
  exact hw _ _ _ hP hD hS (lv_sub hl [1, 2, 3, 0] rfl)
def P_X6_pairAllBut (post : (Nat → Int64) → (Nat → Int64) → Prop) (p2 : Int32) (mk_sign : Nat → Int32) (mk_weight : Nat → Int32) (mk_pieces : Int32) (mk_finds : Int32) (pr_best : Nat → Int64) (pr_gain : Nat → Int64) : Prop :=
  ∀ (X10 : Int32 → (Nat → Int64) → (Nat → Int64) → Prop),
  (∀ (x3 : Int32) (pr_best : Nat → Int64) (pr_gain : Nat → Int64), (((mk_pieces ≤ x3 → post pr_best pr_gain) ∧ (¬ mk_pieces ≤ x3 → ((x3 = p2 → ∀ y_4 : Int32, y_4 = (x3 + (1 : Int32)) → X10 y_4 pr_best pr_gain) ∧ (¬ x3 = p2 → P_X6_pairOneMore (fun pr_best_5 pr_gain_6 => ∀ y_7 : Int32, y_7 = (x3 + (1 : Int32)) → X10 y_7 pr_best_5 pr_gain_6) x3 mk_sign mk_weight mk_finds pr_best pr_gain))))) → X10 x3 pr_best pr_gain) →
  P_J7_fill_d0a16 (fun pr_best_1 => X10 (0 : Int32) pr_best_1 pr_gain) (0 : Int64) 256 pr_best
abbrev rm_X6_pairAllBut : Room := { frames := 3, cells := 0, slots := 0, locals := 74 }
theorem iw_X6_pairAllBut_X5 : ∀ w ∈ wsX50, w ∈ wsX6_pairAllBut := by decide +kernel
theorem iw_X6_pairAllBut_X6 : ∀ w ∈ wsX60, w ∈ wsX6_pairAllBut := by decide +kernel
set_option maxHeartbeats 4000000 in
set_option maxRecDepth 100000 in
theorem c_X6_pairAllBut (l : Launch) (G : va_G) (K : ClassId × ClassId × ClassId) (tb q : Nat → Nat) (sz : Nat) (post : (Nat → Int64) → (Nat → Int64) → Prop) (p2 : Int32) (mk_sign : Nat → Int32) (mk_weight : Nat → Int32) (mk_pieces : Int32) (mk_finds : Int32) (pr_best : Nat → Int64) (pr_gain : Nat → Int64) (hw : P_X6_pairAllBut post p2 mk_sign mk_weight mk_pieces mk_finds pr_best pr_gain) : Met l yX6_pairAllBut wsX6_pairAllBut rm_X6_pairAllBut (va_Pc [.ref (q 38), .ref (q 35), .int p2] (hPre G K tb [oX5 q mk_pieces mk_finds, aI K (q 36) 48 mk_sign, aI K (q 37) 16 mk_weight, oX6 q, aJ K (q 39) 256 pr_best, aJ K (q 40) 8 pr_gain] sz)) (va_Qv (fun (u : (Nat → Int64) × (Nat → Int64)) => post u.1 u.2) (fun u => hB G K (va_A [oX5 q mk_pieces mk_finds, aI K (q 36) 48 mk_sign, aI K (q 37) 16 mk_weight, oX6 q, aJ K (q 39) 256 pr_best, aJ K (q 40) 8 pr_gain] sz) [oX5 q mk_pieces mk_finds, aI K (q 36) 48 mk_sign, aI K (q 37) 16 mk_weight, oX6 q, aJ K (q 39) 256 u.1, aJ K (q 40) 8 u.2]) (va_A [oX5 q mk_pieces mk_finds, aI K (q 36) 48 mk_sign, aI K (q 37) 16 mk_weight, oX6 q, aJ K (q 39) 256 pr_best, aJ K (q 40) 8 pr_gain] sz)) 0 0 (va_A [oX5 q mk_pieces mk_finds, aI K (q 36) 48 mk_sign, aI K (q 37) 16 mk_weight, oX6 q, aJ K (q 39) 256 pr_best, aJ K (q 40) 8 pr_gain] sz) := by
  refine hMet (fun A => va_Qv (fun (u : (Nat → Int64) × (Nat → Int64)) => post u.1 u.2) (fun u => hB G K A [oX5 q mk_pieces mk_finds, aI K (q 36) 48 mk_sign, aI K (q 37) 16 mk_weight, oX6 q, aJ K (q 39) 256 u.1, aJ K (q 40) 8 u.2]) A) (by decide) rfl (Nat.le_of_ble_eq_true rfl) ?_
  intro p e s m av below meth c A Q ls hx hb hr hml hts hown hlocks hnm hA hP hK hD hS hE hQ hl
  have hts : ∀ w ∈ wsX6_pairAllBut, w.before av s = true := hts
  have hown : s.vm.findClass RX6 = some m.cls := hown
  have hl : lv_has ls 4 [(0, .ref (q 38)), (1, .ref (q 35)), (2, .int p2)] := hl
  unfold P_X6_pairAllBut at hw
  replace hw := hw (fun (x3 : Int32) (pr_best : Nat → Int64) (pr_gain : Nat → Int64) => ∀ (H : Heap) (locs : List Loc) (ls : Array Slot), va_P G vwCl [oX5 q mk_pieces mk_finds, aI K (q 36) 48 mk_sign, aI K (q 37) 16 mk_weight, oX6 q, aJ K (q 39) 256 pr_best, aJ K (q 40) 8 pr_gain] H → va_D A [oX5 q mk_pieces mk_finds, aI K (q 36) 48 mk_sign, aI K (q 37) 16 mk_weight, oX6 q, aJ K (q 39) 256 pr_best, aJ K (q 40) 8 pr_gain] → va_S A s.heap H locs → lv_has ls 4 [(0, .ref (q 38)), (1, .ref (q 35)), (2, .int p2), (3, .int x3)] → W p l e rm_X6_pairAllBut s m av below meth c H locs 0 0 Q (F0 m 10 ls []))
  replace hw := hw (by
    intro x3 pr_best pr_gain hw H locs ls hP hD hS hl
    refine lv_iload_n (pc := 10) hx hb dX6_pairAllBut_10 rfl (lv_at hl 3 rfl) ?_
    refine lv_aload_n (pc := 11) hx hb dX6_pairAllBut_11 rfl (lv_at hl 1 rfl) ?_
    refine va_getN (pc := 12) (D := G) (host := RX10) (ci := 5) (v := .int mk_pieces) (C := RX5) (T := TX5) (N := 4) hx hb hts iw_X6_pairAllBut_X5 hown hK hP 0 rfl rfl 2 (by decide) (hE.use 20 rfl) (fun _ h9 => h9) rfl dX6_pairAllBut_12 ?_
    refine lv_icmp_ge (pc := 15) (tgt := 35) hx hb dX6_pairAllBut_15 (by decide) (fun c_2 => ?_) (fun c_2 => ?_)
    · replace hw := hw.1 c_2
      exact hRetV (S := (Nat → Int64) × (Nat → Int64)) (pr_best, pr_gain) hx hb hr hlocks hQ hw hP hK hD hS dX6_pairAllBut_35
    · replace hw := hw.2 c_2
      refine lv_iload_n (pc := 18) hx hb dX6_pairAllBut_18 rfl (lv_at hl 3 rfl) ?_
      refine lv_iload_n (pc := 19) hx hb dX6_pairAllBut_19 rfl (lv_at hl 2 rfl) ?_
      refine lv_icmp_eq (pc := 20) (tgt := 29) hx hb dX6_pairAllBut_20 (by decide) (fun c_3 => ?_) (fun c_3 => ?_)
      · replace hw := hw.1 c_3
        obtain ⟨y_4, ey_4⟩ : ∃ z : Int32, z = (x3 + (1 : Int32)) := ⟨_, rfl⟩
        replace hw := hw y_4 ey_4
        refine lv_iinc (pc := 29) (v := y_4) (lv' := [(3, .int y_4), (0, .ref (q 38)), (1, .ref (q 35)), (2, .int p2)]) hx hb dX6_pairAllBut_29 hl (k := 3) rfl (by rw [ey_4]; rfl) (by decide) rfl (fun ls hl => ?_)
        refine lv_goto (pc := 32) (tgt := 10) hx hb dX6_pairAllBut_32 (by decide) ?_
        exact hw _ _ _ hP hD hS (lv_sub hl [1, 2, 3, 0] rfl)
      · replace hw := hw.2 c_3
        refine lv_aload_n (pc := 23) hx hb dX6_pairAllBut_23 rfl (lv_at hl 0 rfl) ?_
        refine lv_aload_n (pc := 24) hx hb dX6_pairAllBut_24 rfl (lv_at hl 1 rfl) ?_
        refine lv_iload_n (pc := 25) hx hb dX6_pairAllBut_25 rfl (lv_at hl 3 rfl) ?_
        refine hCallV (pc := 26) (wr := []) (wsf := fun (u : (Nat → Int64) × (Nat → Int64)) => [oX5 q mk_pieces mk_finds, aI K (q 36) 48 mk_sign, aI K (q 37) 16 mk_weight, oX6 q, aJ K (q 39) 256 u.1, aJ K (q 40) 8 u.2]) [0, 1, 2, 3, 4, 5] [] (va_runV (As := [.ref (q 35), .int x3]) (rest := []) ⟨hx, hb, hml, hown, hts⟩ (c_X6_pairOneMore l G K tb q H.size mk_pieces _ x3 mk_sign mk_weight mk_finds pr_best pr_gain hw) (cwV 2 hts gX6_pairAllBut_X6_pairOneMore rfl rfl rfl (by decide +kernel) ⟨Nat.le_of_ble_eq_true rfl, Nat.le_of_ble_eq_true rfl⟩) (hPreV hE hP hK hD hS hA [0, 1, 2, 3, 4, 5] (by decide) rfl rfl rfl rfl (q0 := 3) (ci := 6) rfl) rfl rfl hl.1 rfl (lv_room (Nat.le_of_ble_eq_true rfl)) dX6_pairAllBut_26 ⟨Nat.zero_le _, Nat.zero_le _⟩) hP hD hS hA rfl rfl (by decide) (by decide) (fun u H locs hw hP hD hS => ?_)
        obtain ⟨pr_best_5, pr_gain_6⟩ := u
        have hP : va_P G vwCl [oX5 q mk_pieces mk_finds, aI K (q 36) 48 mk_sign, aI K (q 37) 16 mk_weight, oX6 q, aJ K (q 39) 256 pr_best_5, aJ K (q 40) 8 pr_gain_6] H := hP.sub [0, 1, 2, 3, 4, 5] rfl
        have hD : va_D A [oX5 q mk_pieces mk_finds, aI K (q 36) 48 mk_sign, aI K (q 37) 16 mk_weight, oX6 q, aJ K (q 39) 256 pr_best_5, aJ K (q 40) 8 pr_gain_6] := hD.sub [0, 1, 2, 3, 4, 5] (by decide) rfl
        obtain ⟨y_7, ey_7⟩ : ∃ z : Int32, z = (x3 + (1 : Int32)) := ⟨_, rfl⟩
        replace hw := hw y_7 ey_7
        refine lv_iinc (pc := 29) (v := y_7) (lv' := [(3, .int y_7), (0, .ref (q 38)), (1, .ref (q 35)), (2, .int p2)]) hx hb dX6_pairAllBut_29 hl (k := 3) rfl (by rw [ey_7]; rfl) (by decide) rfl (fun ls hl => ?_)
        refine lv_goto (pc := 32) (tgt := 10) hx hb dX6_pairAllBut_32 (by decide) ?_
        exact hw _ _ _ hP hD hS (lv_sub hl [1, 2, 3, 0] rfl))
  refine lv_aload_n (pc := 0) hx hb dX6_pairAllBut_0 rfl (lv_at hl 0 rfl) ?_
  refine va_get (pc := 1) (D := G) (ci := 6) (v := .ref (q 39)) (C := RX6) (T := TX6) (N := 2) hx hb hts iw_X6_pairAllBut_X6 hown hK hP 3 rfl rfl 0 (by decide) (hts _ (List.mem_of_getElem? (i := 1) rfl)) (fun _ h9 => h9) rfl dX6_pairAllBut_1 ?_
  refine lv_lconst (pc := 4) (v := (0 : Int64)) hx hb dX6_pairAllBut_4 (by decide) ?_
  refine hCallV (pc := 5) (wr := [oX5 q mk_pieces mk_finds, aI K (q 36) 48 mk_sign, aI K (q 37) 16 mk_weight, oX6 q, aJ K (q 40) 8 pr_gain]) (wsf := fun (u : (Nat → Int64)) => [aJ K (q 39) 256 u]) [4] [0, 1, 2, 3, 5] (va_runS (As := [.ref (q 39), .long (0 : Int64)]) (rest := []) ⟨hx, hb, hml, hown, hts⟩ (c_J7_fill_d0a16 l G K tb q s.heap.size (q 39) 256 _ (0 : Int64) pr_best hw) (va_cwS 2 hts gX6_pairAllBut_J7_fill_d0a16 rfl rfl rfl (by decide +kernel) ⟨Nat.le_of_ble_eq_true rfl, Nat.le_of_ble_eq_true rfl⟩) (hPreS hE hP hK hD hS hA [4] (by decide) rfl rfl) rfl rfl hl.1 rfl (lv_room (Nat.le_of_ble_eq_true rfl)) dX6_pairAllBut_5 ⟨Nat.zero_le _, Nat.zero_le _⟩) hP hD hS hA rfl rfl (by decide) (by decide) (fun u H locs hw hP hD hS => ?_)
  obtain ⟨pr_best_1, rfl⟩ : ∃ z, z = u := ⟨_, rfl⟩
  have hP : va_P G vwCl [oX5 q mk_pieces mk_finds, aI K (q 36) 48 mk_sign, aI K (q 37) 16 mk_weight, oX6 q, aJ K (q 39) 256 pr_best_1, aJ K (q 40) 8 pr_gain] H := hP.sub [0, 1, 2, 3, 5, 4] rfl
  have hD : va_D A [oX5 q mk_pieces mk_finds, aI K (q 36) 48 mk_sign, aI K (q 37) 16 mk_weight, oX6 q, aJ K (q 39) 256 pr_best_1, aJ K (q 40) 8 pr_gain] := hD.sub [0, 1, 2, 3, 5, 4] (by decide) rfl
  refine lv_iconst (pc := 8) (v := (0 : Int32)) hx hb dX6_pairAllBut_8 (by decide) ?_
  refine lv_istore_n (pc := 9) (lv' := [(3, .int (0 : Int32)), (0, .ref (q 38)), (1, .ref (q 35)), (2, .int p2)]) hx hb dX6_pairAllBut_9 rfl hl (by decide) rfl (fun ls hl => ?_)
  exact hw _ _ _ hP hD hS (lv_sub hl [1, 2, 3, 0] rfl)
def P_X6_bestOf (post : Int64 → (Nat → Int64) → (Nat → Int64) → Prop) (mk_sign : Nat → Int32) (mk_weight : Nat → Int32) (mk_pieces : Int32) (mk_finds : Int32) (pr_best : Nat → Int64) (pr_gain : Nat → Int64) : Prop :=
  P_X6_pairAllBut (fun pr_best_1 pr_gain_2 => vp_in (((1 : Int32) <<< (mk_finds &&& 31)) - (1 : Int32)) 256 ∧ post (pr_best_1 (((1 : Int32) <<< (mk_finds &&& 31)) - (1 : Int32)).toNatClampNeg) pr_best_1 pr_gain_2) (-9 : Int32) mk_sign mk_weight mk_pieces mk_finds pr_best pr_gain
abbrev rm_X6_bestOf : Room := { frames := 4, cells := 0, slots := 0, locals := 97 }
theorem iw_X6_bestOf_X5 : ∀ w ∈ wsX50, w ∈ wsX6_bestOf := by decide +kernel
theorem iw_X6_bestOf_X6 : ∀ w ∈ wsX60, w ∈ wsX6_bestOf := by decide +kernel
set_option maxHeartbeats 4000000 in
set_option maxRecDepth 100000 in
theorem c_X6_bestOf (l : Launch) (G : va_G) (K : ClassId × ClassId × ClassId) (tb q : Nat → Nat) (sz : Nat) (post : Int64 → (Nat → Int64) → (Nat → Int64) → Prop) (mk_sign : Nat → Int32) (mk_weight : Nat → Int32) (mk_pieces : Int32) (mk_finds : Int32) (pr_best : Nat → Int64) (pr_gain : Nat → Int64) (hw : P_X6_bestOf post mk_sign mk_weight mk_pieces mk_finds pr_best pr_gain) : Met l yX6_bestOf wsX6_bestOf rm_X6_bestOf (va_Pc [.ref (q 38), .ref (q 35)] (hPre G K tb [oX5 q mk_pieces mk_finds, aI K (q 36) 48 mk_sign, aI K (q 37) 16 mk_weight, oX6 q, aJ K (q 39) 256 pr_best, aJ K (q 40) 8 pr_gain] sz)) (va_Ql (fun (r : Int64) (u : (Nat → Int64) × (Nat → Int64)) => post r u.1 u.2) (fun u => hB G K (va_A [oX5 q mk_pieces mk_finds, aI K (q 36) 48 mk_sign, aI K (q 37) 16 mk_weight, oX6 q, aJ K (q 39) 256 pr_best, aJ K (q 40) 8 pr_gain] sz) [oX5 q mk_pieces mk_finds, aI K (q 36) 48 mk_sign, aI K (q 37) 16 mk_weight, oX6 q, aJ K (q 39) 256 u.1, aJ K (q 40) 8 u.2]) (va_A [oX5 q mk_pieces mk_finds, aI K (q 36) 48 mk_sign, aI K (q 37) 16 mk_weight, oX6 q, aJ K (q 39) 256 pr_best, aJ K (q 40) 8 pr_gain] sz)) 0 0 (va_A [oX5 q mk_pieces mk_finds, aI K (q 36) 48 mk_sign, aI K (q 37) 16 mk_weight, oX6 q, aJ K (q 39) 256 pr_best, aJ K (q 40) 8 pr_gain] sz) := by
  refine hMet (fun A => va_Ql (fun (r : Int64) (u : (Nat → Int64) × (Nat → Int64)) => post r u.1 u.2) (fun u => hB G K A [oX5 q mk_pieces mk_finds, aI K (q 36) 48 mk_sign, aI K (q 37) 16 mk_weight, oX6 q, aJ K (q 39) 256 u.1, aJ K (q 40) 8 u.2]) A) (by decide) rfl (Nat.le_of_ble_eq_true rfl) ?_
  intro p e s m av below meth c A Q ls hx hb hr hml hts hown hlocks hnm hA hP hK hD hS hE hQ hl
  have hts : ∀ w ∈ wsX6_bestOf, w.before av s = true := hts
  have hown : s.vm.findClass RX6 = some m.cls := hown
  have hl : lv_has ls 2 [(0, .ref (q 38)), (1, .ref (q 35))] := hl
  unfold P_X6_bestOf at hw
  refine lv_aload_n (pc := 0) hx hb dX6_bestOf_0 rfl (lv_at hl 0 rfl) ?_
  refine lv_aload_n (pc := 1) hx hb dX6_bestOf_1 rfl (lv_at hl 1 rfl) ?_
  refine lv_bipush (pc := 2) (v := (-9 : Int32)) hx hb dX6_bestOf_2 (by decide) ?_
  refine hCallV (pc := 4) (wr := []) (wsf := fun (u : (Nat → Int64) × (Nat → Int64)) => [oX5 q mk_pieces mk_finds, aI K (q 36) 48 mk_sign, aI K (q 37) 16 mk_weight, oX6 q, aJ K (q 39) 256 u.1, aJ K (q 40) 8 u.2]) [0, 1, 2, 3, 4, 5] [] (va_runV (As := [.ref (q 35), .int (-9 : Int32)]) (rest := []) ⟨hx, hb, hml, hown, hts⟩ (c_X6_pairAllBut l G K tb q s.heap.size _ (-9 : Int32) mk_sign mk_weight mk_pieces mk_finds pr_best pr_gain hw) (cwV 2 hts gX6_bestOf_X6_pairAllBut rfl rfl rfl (by decide +kernel) ⟨Nat.le_of_ble_eq_true rfl, Nat.le_of_ble_eq_true rfl⟩) (hPreV hE hP hK hD hS hA [0, 1, 2, 3, 4, 5] (by decide) rfl rfl rfl rfl (q0 := 3) (ci := 6) rfl) rfl rfl hl.1 rfl (lv_room (Nat.le_of_ble_eq_true rfl)) dX6_bestOf_4 ⟨Nat.zero_le _, Nat.zero_le _⟩) hP hD hS hA rfl rfl (by decide) (by decide) (fun u H locs hw hP hD hS => ?_)
  obtain ⟨pr_best_1, pr_gain_2⟩ := u
  have hP : va_P G vwCl [oX5 q mk_pieces mk_finds, aI K (q 36) 48 mk_sign, aI K (q 37) 16 mk_weight, oX6 q, aJ K (q 39) 256 pr_best_1, aJ K (q 40) 8 pr_gain_2] H := hP.sub [0, 1, 2, 3, 4, 5] rfl
  have hD : va_D A [oX5 q mk_pieces mk_finds, aI K (q 36) 48 mk_sign, aI K (q 37) 16 mk_weight, oX6 q, aJ K (q 39) 256 pr_best_1, aJ K (q 40) 8 pr_gain_2] := hD.sub [0, 1, 2, 3, 4, 5] (by decide) rfl
  refine lv_aload_n (pc := 7) hx hb dX6_bestOf_7 rfl (lv_at hl 0 rfl) ?_
  refine va_get (pc := 8) (D := G) (ci := 6) (v := .ref (q 39)) (C := RX6) (T := TX6) (N := 2) hx hb hts iw_X6_bestOf_X6 hown hK hP 3 rfl rfl 0 (by decide) (hts _ (List.mem_of_getElem? (i := 1) rfl)) (fun _ h9 => h9) rfl dX6_bestOf_8 ?_
  refine lv_iconst (pc := 11) (v := (1 : Int32)) hx hb dX6_bestOf_11 (by decide) ?_
  refine lv_aload_n (pc := 12) hx hb dX6_bestOf_12 rfl (lv_at hl 1 rfl) ?_
  refine va_getN (pc := 13) (D := G) (host := RX10) (ci := 5) (v := .int mk_finds) (C := RX5) (T := TX5) (N := 4) hx hb hts iw_X6_bestOf_X5 hown hK hP 0 rfl rfl 3 (by decide) (hE.use 22 rfl) (fun _ h9 => h9) rfl dX6_bestOf_13 ?_
  refine lv_ishl (pc := 16) hx hb dX6_bestOf_16 ?_
  refine lv_iconst (pc := 17) (v := (1 : Int32)) hx hb dX6_bestOf_17 (by decide) ?_
  refine lv_isub (pc := 18) hx hb dX6_bestOf_18 ?_
  obtain ⟨h_3, hw⟩ := hw
  refine va_lald (pc := 19) hx hb hK hP 4 1 rfl rfl h_3 dX6_bestOf_19 ?_
  exact hRetL (S := (Nat → Int64) × (Nat → Int64)) (pr_best_1, pr_gain_2) hx hb hr hlocks hQ hw hP hK hD hS dX6_bestOf_20
def P_X6_pairsIn (post : Int32 → Prop) (p0 : Int64) : Prop :=
  post ((((p0 / (43046721 : Int64)) + (1000 : Int64)) - (1 : Int64)) / (1000 : Int64)).toInt32
abbrev rm_X6_pairsIn : Room := { frames := 0, cells := 0, slots := 0, locals := 0 }
set_option maxHeartbeats 4000000 in
set_option maxRecDepth 100000 in
theorem c_X6_pairsIn (l : Launch) (G : va_G) (K : ClassId × ClassId × ClassId) (tb q : Nat → Nat) (sz : Nat) (post : Int32 → Prop) (p0 : Int64) (hw : P_X6_pairsIn post p0) : Met l yX6_pairsIn wsX6_pairsIn rm_X6_pairsIn (va_Pc [.long p0] (hPre G K tb [] sz)) (va_Qi (fun (r : Int32) (u : Unit) => post r) (fun u => hB G K (va_A [] sz) []) (va_A [] sz)) 0 0 (va_A [] sz) := by
  refine hMet (fun A => va_Qi (fun (r : Int32) (u : Unit) => post r) (fun u => hB G K A []) A) (by decide) rfl (Nat.le_of_ble_eq_true rfl) ?_
  intro p e s m av below meth c A Q ls hx hb hr hml hts hown hlocks hnm hA hP hK hD hS hE hQ hl
  have hts : ∀ w ∈ wsX6_pairsIn, w.before av s = true := hts
  have hown : s.vm.findClass RX6 = some m.cls := hown
  have hl : lv_has ls 2 [(0, .long p0)] := hl
  unfold P_X6_pairsIn at hw
  refine lv_lload_n (pc := 0) hx hb dX6_pairsIn_0 rfl (lv_at hl 0 rfl) ?_
  refine lv_ldc2 (pc := 1) (v := (43046721 : Int64)) hx hb hown (hts _ (List.mem_of_getElem? (i := 1) rfl)) dX6_pairsIn_1 ?_
  refine lv_ldiv (pc := 4) hx hb dX6_pairsIn_4 (by decide) ?_
  refine lv_ldc2 (pc := 5) (v := (1000 : Int64)) hx hb hown (hts _ (List.mem_of_getElem? (i := 2) rfl)) dX6_pairsIn_5 ?_
  refine lv_ladd (pc := 8) hx hb dX6_pairsIn_8 ?_
  refine lv_lconst (pc := 9) (v := (1 : Int64)) hx hb dX6_pairsIn_9 (by decide) ?_
  refine lv_lsub (pc := 10) hx hb dX6_pairsIn_10 ?_
  refine lv_ldc2 (pc := 11) (v := (1000 : Int64)) hx hb hown (hts _ (List.mem_of_getElem? (i := 2) rfl)) dX6_pairsIn_11 ?_
  refine lv_ldiv (pc := 14) hx hb dX6_pairsIn_14 (by decide) ?_
  refine lv_l2i (pc := 15) hx hb dX6_pairsIn_15 rfl ?_
  exact hRetI (S := Unit) () hx hb hr hlocks hQ hw hP hK hD hS dX6_pairsIn_16
def P_X6_bestPrice (post : Int32 → (Nat → Int64) → (Nat → Int64) → Prop) (mk_sign : Nat → Int32) (mk_weight : Nat → Int32) (mk_pieces : Int32) (mk_finds : Int32) (pr_best : Nat → Int64) (pr_gain : Nat → Int64) : Prop :=
  P_X6_bestOf (fun r_1 pr_best_2 pr_gain_3 => P_X6_pairsIn (fun r_4 => post (((1000 : Int32) * r_4) - (r_1 / (43046721 : Int64)).toInt32) pr_best_2 pr_gain_3) r_1) mk_sign mk_weight mk_pieces mk_finds pr_best pr_gain
abbrev rm_X6_bestPrice : Room := { frames := 5, cells := 0, slots := 0, locals := 118 }
set_option maxHeartbeats 4000000 in
set_option maxRecDepth 100000 in
theorem c_X6_bestPrice (l : Launch) (G : va_G) (K : ClassId × ClassId × ClassId) (tb q : Nat → Nat) (sz : Nat) (post : Int32 → (Nat → Int64) → (Nat → Int64) → Prop) (mk_sign : Nat → Int32) (mk_weight : Nat → Int32) (mk_pieces : Int32) (mk_finds : Int32) (pr_best : Nat → Int64) (pr_gain : Nat → Int64) (hw : P_X6_bestPrice post mk_sign mk_weight mk_pieces mk_finds pr_best pr_gain) : Met l yX6_bestPrice wsX6_bestPrice rm_X6_bestPrice (va_Pc [.ref (q 38), .ref (q 35)] (hPre G K tb [oX5 q mk_pieces mk_finds, aI K (q 36) 48 mk_sign, aI K (q 37) 16 mk_weight, oX6 q, aJ K (q 39) 256 pr_best, aJ K (q 40) 8 pr_gain] sz)) (va_Qi (fun (r : Int32) (u : (Nat → Int64) × (Nat → Int64)) => post r u.1 u.2) (fun u => hB G K (va_A [oX5 q mk_pieces mk_finds, aI K (q 36) 48 mk_sign, aI K (q 37) 16 mk_weight, oX6 q, aJ K (q 39) 256 pr_best, aJ K (q 40) 8 pr_gain] sz) [oX5 q mk_pieces mk_finds, aI K (q 36) 48 mk_sign, aI K (q 37) 16 mk_weight, oX6 q, aJ K (q 39) 256 u.1, aJ K (q 40) 8 u.2]) (va_A [oX5 q mk_pieces mk_finds, aI K (q 36) 48 mk_sign, aI K (q 37) 16 mk_weight, oX6 q, aJ K (q 39) 256 pr_best, aJ K (q 40) 8 pr_gain] sz)) 0 0 (va_A [oX5 q mk_pieces mk_finds, aI K (q 36) 48 mk_sign, aI K (q 37) 16 mk_weight, oX6 q, aJ K (q 39) 256 pr_best, aJ K (q 40) 8 pr_gain] sz) := by
  refine hMet (fun A => va_Qi (fun (r : Int32) (u : (Nat → Int64) × (Nat → Int64)) => post r u.1 u.2) (fun u => hB G K A [oX5 q mk_pieces mk_finds, aI K (q 36) 48 mk_sign, aI K (q 37) 16 mk_weight, oX6 q, aJ K (q 39) 256 u.1, aJ K (q 40) 8 u.2]) A) (by decide) rfl (Nat.le_of_ble_eq_true rfl) ?_
  intro p e s m av below meth c A Q ls hx hb hr hml hts hown hlocks hnm hA hP hK hD hS hE hQ hl
  have hts : ∀ w ∈ wsX6_bestPrice, w.before av s = true := hts
  have hown : s.vm.findClass RX6 = some m.cls := hown
  have hl : lv_has ls 4 [(0, .ref (q 38)), (1, .ref (q 35))] := hl
  unfold P_X6_bestPrice at hw
  refine lv_aload_n (pc := 0) hx hb dX6_bestPrice_0 rfl (lv_at hl 0 rfl) ?_
  refine lv_aload_n (pc := 1) hx hb dX6_bestPrice_1 rfl (lv_at hl 1 rfl) ?_
  refine hCallL (pc := 2) (wr := []) (wsf := fun (u : (Nat → Int64) × (Nat → Int64)) => [oX5 q mk_pieces mk_finds, aI K (q 36) 48 mk_sign, aI K (q 37) 16 mk_weight, oX6 q, aJ K (q 39) 256 u.1, aJ K (q 40) 8 u.2]) [0, 1, 2, 3, 4, 5] [] (va_runV (As := [.ref (q 35)]) (rest := []) ⟨hx, hb, hml, hown, hts⟩ (c_X6_bestOf l G K tb q s.heap.size _ mk_sign mk_weight mk_pieces mk_finds pr_best pr_gain hw) (cwV 1 hts gX6_bestPrice_X6_bestOf rfl rfl rfl (by decide +kernel) ⟨Nat.le_of_ble_eq_true rfl, Nat.le_of_ble_eq_true rfl⟩) (hPreV hE hP hK hD hS hA [0, 1, 2, 3, 4, 5] (by decide) rfl rfl rfl rfl (q0 := 3) (ci := 6) rfl) rfl rfl hl.1 rfl (lv_room (Nat.le_of_ble_eq_true rfl)) dX6_bestPrice_2 ⟨Nat.zero_le _, Nat.zero_le _⟩) hP hD hS hA rfl rfl (by decide) (by decide) (fun r_1 u H locs hw hP hD hS => ?_)
  obtain ⟨pr_best_2, pr_gain_3⟩ := u
  have hP : va_P G vwCl [oX5 q mk_pieces mk_finds, aI K (q 36) 48 mk_sign, aI K (q 37) 16 mk_weight, oX6 q, aJ K (q 39) 256 pr_best_2, aJ K (q 40) 8 pr_gain_3] H := hP.sub [0, 1, 2, 3, 4, 5] rfl
  have hD : va_D A [oX5 q mk_pieces mk_finds, aI K (q 36) 48 mk_sign, aI K (q 37) 16 mk_weight, oX6 q, aJ K (q 39) 256 pr_best_2, aJ K (q 40) 8 pr_gain_3] := hD.sub [0, 1, 2, 3, 4, 5] (by decide) rfl
  refine lv_lstore_n (pc := 5) (lv' := [(2, .long r_1), (0, .ref (q 38)), (1, .ref (q 35))]) hx hb dX6_bestPrice_5 rfl hl (by decide) rfl (fun ls hl => ?_)
  refine lv_sipush (pc := 6) (v := (1000 : Int32)) hx hb dX6_bestPrice_6 (by decide) ?_
  refine lv_lload_n (pc := 9) hx hb dX6_bestPrice_9 rfl (lv_at hl 0 rfl) ?_
  refine hCallI (pc := 10) (wr := [oX5 q mk_pieces mk_finds, aI K (q 36) 48 mk_sign, aI K (q 37) 16 mk_weight, oX6 q, aJ K (q 39) 256 pr_best_2, aJ K (q 40) 8 pr_gain_3]) (wsf := fun (u : Unit) => []) [] [0, 1, 2, 3, 4, 5] (va_runS (As := [.long r_1]) (rest := [.int (1000 : Int32)]) ⟨hx, hb, hml, hown, hts⟩ (c_X6_pairsIn l G K tb q H.size _ r_1 hw) (va_cwS 1 hts gX6_bestPrice_X6_pairsIn rfl rfl rfl (by decide +kernel) ⟨Nat.le_of_ble_eq_true rfl, Nat.le_of_ble_eq_true rfl⟩) (hPreS hE hP hK hD hS hA [] (by decide) rfl rfl) rfl rfl hl.1 rfl (lv_room (Nat.le_of_ble_eq_true rfl)) dX6_bestPrice_10 ⟨Nat.zero_le _, Nat.zero_le _⟩) hP hD hS hA rfl rfl (by decide) (by decide) (fun r_4 u H locs hw hP hD hS => ?_)
  have hP : va_P G vwCl [oX5 q mk_pieces mk_finds, aI K (q 36) 48 mk_sign, aI K (q 37) 16 mk_weight, oX6 q, aJ K (q 39) 256 pr_best_2, aJ K (q 40) 8 pr_gain_3] H := hP.sub [0, 1, 2, 3, 4, 5] rfl
  have hD : va_D A [oX5 q mk_pieces mk_finds, aI K (q 36) 48 mk_sign, aI K (q 37) 16 mk_weight, oX6 q, aJ K (q 39) 256 pr_best_2, aJ K (q 40) 8 pr_gain_3] := hD.sub [0, 1, 2, 3, 4, 5] (by decide) rfl
  refine lv_imul (pc := 13) hx hb dX6_bestPrice_13 ?_
  refine lv_lload_n (pc := 14) hx hb dX6_bestPrice_14 rfl (lv_at hl 0 rfl) ?_
  refine lv_ldc2 (pc := 15) (v := (43046721 : Int64)) hx hb hown (hts _ (List.mem_of_getElem? (i := 1) rfl)) dX6_bestPrice_15 ?_
  refine lv_ldiv (pc := 18) hx hb dX6_bestPrice_18 (by decide) ?_
  refine lv_l2i (pc := 19) hx hb dX6_bestPrice_19 rfl ?_
  refine lv_isub (pc := 20) hx hb dX6_bestPrice_20 ?_
  exact hRetI (S := (Nat → Int64) × (Nat → Int64)) (pr_best_2, pr_gain_3) hx hb hr hlocks hQ hw hP hK hD hS dX6_bestPrice_21
def P_X6_choicesOf (post : Int32 → (Nat → Int64) → (Nat → Int64) → Prop) (p2 : Int32) (mk_sign : Nat → Int32) (mk_weight : Nat → Int32) (mk_pieces : Int32) (mk_finds : Int32) (pr_best : Nat → Int64) (pr_gain : Nat → Int64) : Prop :=
  ∀ (X33 : Int32 → Int64 → Int32 → Int32 → (Nat → Int64) → (Nat → Int64) → Prop),
  (∀ (x3 : Int32) (x4 : Int64) (x6 : Int32) (x7 : Int32) (pr_best : Nat → Int64) (pr_gain : Nat → Int64), (((mk_finds ≤ x7 → post x6 pr_best pr_gain) ∧ (¬ mk_finds ≤ x7 → P_X5_price (fun r_7 => ((r_7 = (-9 : Int32) → True) ∧ (¬ r_7 = (-9 : Int32) → (vp_in (x3 ^^^ ((1 : Int32) <<< (x7 &&& 31))) 256 ∧ True))) ∧ ∀ v_10 : Int64, v_10 = (if r_7 = (-9 : Int32) then (-1 : Int64) else ((((pr_best (x3 ^^^ ((1 : Int32) <<< (x7 &&& 31))).toNatClampNeg) / (43046721 : Int64)) + (1000 : Int64)) - r_7.toInt64)) → (((lg_cmp v_10 x4) ≤ (0 : Int32) → (((lg_cmp v_10 x4) = (0 : Int32) → ∀ y_14 : Int32, y_14 = (x6 + (1 : Int32)) → ∀ y_15 : Int32, y_15 = (x7 + (1 : Int32)) → X33 x3 x4 y_14 y_15 pr_best pr_gain) ∧ (¬ (lg_cmp v_10 x4) = (0 : Int32) → ∀ y_13 : Int32, y_13 = (x7 + (1 : Int32)) → X33 x3 x4 x6 y_13 pr_best pr_gain))) ∧ (¬ (lg_cmp v_10 x4) ≤ (0 : Int32) → ∀ y_16 : Int32, y_16 = (x7 + (1 : Int32)) → X33 x3 v_10 (1 : Int32) y_16 pr_best pr_gain))) p2 x7 mk_sign mk_weight))) → X33 x3 x4 x6 x7 pr_best pr_gain) →
  P_X6_pairAllBut (fun pr_best_1 pr_gain_2 => ∀ y_3 : Int32, y_3 = (((1 : Int32) <<< (mk_finds &&& 31)) - (1 : Int32)) → vp_in y_3 256 ∧ ∀ y_5 : Int64, y_5 = ((pr_best_1 y_3.toNatClampNeg) / (43046721 : Int64)) → X33 y_3 y_5 (1 : Int32) (0 : Int32) pr_best_1 pr_gain_2) p2 mk_sign mk_weight mk_pieces mk_finds pr_best pr_gain
abbrev rm_X6_choicesOf : Room := { frames := 4, cells := 0, slots := 0, locals := 97 }
theorem iw_X6_choicesOf_X5 : ∀ w ∈ wsX50, w ∈ wsX6_choicesOf := by decide +kernel
theorem iw_X6_choicesOf_X6 : ∀ w ∈ wsX60, w ∈ wsX6_choicesOf := by decide +kernel
set_option maxHeartbeats 4000000 in
set_option maxRecDepth 100000 in
theorem c_X6_choicesOf (l : Launch) (G : va_G) (K : ClassId × ClassId × ClassId) (tb q : Nat → Nat) (sz : Nat) (post : Int32 → (Nat → Int64) → (Nat → Int64) → Prop) (p2 : Int32) (mk_sign : Nat → Int32) (mk_weight : Nat → Int32) (mk_pieces : Int32) (mk_finds : Int32) (pr_best : Nat → Int64) (pr_gain : Nat → Int64) (hw : P_X6_choicesOf post p2 mk_sign mk_weight mk_pieces mk_finds pr_best pr_gain) : Met l yX6_choicesOf wsX6_choicesOf rm_X6_choicesOf (va_Pc [.ref (q 38), .ref (q 35), .int p2] (hPre G K tb [oX5 q mk_pieces mk_finds, aI K (q 36) 48 mk_sign, aI K (q 37) 16 mk_weight, oX6 q, aJ K (q 39) 256 pr_best, aJ K (q 40) 8 pr_gain] sz)) (va_Qi (fun (r : Int32) (u : (Nat → Int64) × (Nat → Int64)) => post r u.1 u.2) (fun u => hB G K (va_A [oX5 q mk_pieces mk_finds, aI K (q 36) 48 mk_sign, aI K (q 37) 16 mk_weight, oX6 q, aJ K (q 39) 256 pr_best, aJ K (q 40) 8 pr_gain] sz) [oX5 q mk_pieces mk_finds, aI K (q 36) 48 mk_sign, aI K (q 37) 16 mk_weight, oX6 q, aJ K (q 39) 256 u.1, aJ K (q 40) 8 u.2]) (va_A [oX5 q mk_pieces mk_finds, aI K (q 36) 48 mk_sign, aI K (q 37) 16 mk_weight, oX6 q, aJ K (q 39) 256 pr_best, aJ K (q 40) 8 pr_gain] sz)) 0 0 (va_A [oX5 q mk_pieces mk_finds, aI K (q 36) 48 mk_sign, aI K (q 37) 16 mk_weight, oX6 q, aJ K (q 39) 256 pr_best, aJ K (q 40) 8 pr_gain] sz) := by
  refine hMet (fun A => va_Qi (fun (r : Int32) (u : (Nat → Int64) × (Nat → Int64)) => post r u.1 u.2) (fun u => hB G K A [oX5 q mk_pieces mk_finds, aI K (q 36) 48 mk_sign, aI K (q 37) 16 mk_weight, oX6 q, aJ K (q 39) 256 u.1, aJ K (q 40) 8 u.2]) A) (by decide) rfl (Nat.le_of_ble_eq_true rfl) ?_
  intro p e s m av below meth c A Q ls hx hb hr hml hts hown hlocks hnm hA hP hK hD hS hE hQ hl
  have hts : ∀ w ∈ wsX6_choicesOf, w.before av s = true := hts
  have hown : s.vm.findClass RX6 = some m.cls := hown
  have hl : lv_has ls 11 [(0, .ref (q 38)), (1, .ref (q 35)), (2, .int p2)] := hl
  unfold P_X6_choicesOf at hw
  replace hw := hw (fun (x3 : Int32) (x4 : Int64) (x6 : Int32) (x7 : Int32) (pr_best : Nat → Int64) (pr_gain : Nat → Int64) => ∀ (H : Heap) (locs : List Loc) (ls : Array Slot), va_P G vwCl [oX5 q mk_pieces mk_finds, aI K (q 36) 48 mk_sign, aI K (q 37) 16 mk_weight, oX6 q, aJ K (q 39) 256 pr_best, aJ K (q 40) 8 pr_gain] H → va_D A [oX5 q mk_pieces mk_finds, aI K (q 36) 48 mk_sign, aI K (q 37) 16 mk_weight, oX6 q, aJ K (q 39) 256 pr_best, aJ K (q 40) 8 pr_gain] → va_S A s.heap H locs → lv_has ls 11 [(0, .ref (q 38)), (1, .ref (q 35)), (2, .int p2), (3, .int x3), (4, .long x4), (6, .int x6), (7, .int x7)] → W p l e rm_X6_choicesOf s m av below meth c H locs 0 0 Q (F0 m 33 ls []))
  replace hw := hw (by
    intro x3 x4 x6 x7 pr_best pr_gain hw H locs ls hP hD hS hl
    refine lv_iload (pc := 33) hx hb dX6_choicesOf_33 (lv_at hl 6 rfl) ?_
    refine lv_aload_n (pc := 35) hx hb dX6_choicesOf_35 rfl (lv_at hl 1 rfl) ?_
    refine va_getN (pc := 36) (D := G) (host := RX10) (ci := 5) (v := .int mk_finds) (C := RX5) (T := TX5) (N := 4) hx hb hts iw_X6_choicesOf_X5 hown hK hP 0 rfl rfl 3 (by decide) (hE.use 22 rfl) (fun _ h9 => h9) rfl dX6_choicesOf_36 ?_
    refine lv_icmp_ge (pc := 39) (tgt := 124) hx hb dX6_choicesOf_39 (by decide) (fun c_6 => ?_) (fun c_6 => ?_)
    · replace hw := hw.1 c_6
      refine lv_iload (pc := 124) hx hb dX6_choicesOf_124 (lv_at hl 5 rfl) ?_
      exact hRetI (S := (Nat → Int64) × (Nat → Int64)) (pr_best, pr_gain) hx hb hr hlocks hQ hw hP hK hD hS dX6_choicesOf_126
    · replace hw := hw.2 c_6
      refine lv_aload_n (pc := 42) hx hb dX6_choicesOf_42 rfl (lv_at hl 1 rfl) ?_
      refine lv_iload_n (pc := 43) hx hb dX6_choicesOf_43 rfl (lv_at hl 2 rfl) ?_
      refine lv_iload (pc := 44) hx hb dX6_choicesOf_44 (lv_at hl 6 rfl) ?_
      refine hCallI (pc := 46) (wr := [oX6 q, aJ K (q 39) 256 pr_best, aJ K (q 40) 8 pr_gain]) (wsf := fun (u : Unit) => [oX5 q mk_pieces mk_finds, aI K (q 36) 48 mk_sign, aI K (q 37) 16 mk_weight]) [0, 1, 2] [3, 4, 5] (va_runVN (As := [.int p2, .int x7]) (rest := []) ⟨hx, hb, hml, hown, hts⟩ (c_X5_price l G K tb q H.size mk_pieces mk_finds _ p2 x7 mk_sign mk_weight hw) ⟨va_cnB 2 hts gX6_choicesOf_X5_price_n48 rfl rfl rfl (hE.nw 64 rfl) (hts _ (List.mem_of_getElem? (i := 25) rfl)) (by decide +kernel) ⟨Nat.le_of_ble_eq_true rfl, Nat.le_of_ble_eq_true rfl⟩, (hts _ (List.mem_of_getElem? (i := 24) rfl)), (hts _ (List.mem_of_getElem? (i := 26) rfl))⟩ (hPreV hE hP hK hD hS hA [0, 1, 2] (by decide) rfl rfl rfl rfl (q0 := 0) (ci := 5) rfl) rfl rfl hl.1 rfl (lv_room (Nat.le_of_ble_eq_true rfl)) dX6_choicesOf_46 ⟨Nat.zero_le _, Nat.zero_le _⟩) hP hD hS hA rfl rfl (by decide) (by decide) (fun r_7 u H locs hw hP hD hS => ?_)
      have hP : va_P G vwCl [oX5 q mk_pieces mk_finds, aI K (q 36) 48 mk_sign, aI K (q 37) 16 mk_weight, oX6 q, aJ K (q 39) 256 pr_best, aJ K (q 40) 8 pr_gain] H := hP.sub [3, 4, 5, 0, 1, 2] rfl
      have hD : va_D A [oX5 q mk_pieces mk_finds, aI K (q 36) 48 mk_sign, aI K (q 37) 16 mk_weight, oX6 q, aJ K (q 39) 256 pr_best, aJ K (q 40) 8 pr_gain] := hD.sub [3, 4, 5, 0, 1, 2] (by decide) rfl
      refine lv_istore (pc := 49) (lv' := [(8, .int r_7), (0, .ref (q 38)), (1, .ref (q 35)), (2, .int p2), (3, .int x3), (4, .long x4), (6, .int x6), (7, .int x7)]) hx hb dX6_choicesOf_49 hl (by decide) rfl (fun ls hl => ?_)
      refine lv_iload (pc := 51) hx hb dX6_choicesOf_51 (lv_at hl 0 rfl) ?_
      refine lv_bipush (pc := 53) (v := (-9 : Int32)) hx hb dX6_choicesOf_53 (by decide) ?_
      obtain ⟨hsf, hw⟩ := hw
      have K_v_10 : ∀ v_10 : Int64, v_10 = (if r_7 = (-9 : Int32) then (-1 : Int64) else ((((pr_best (x3 ^^^ ((1 : Int32) <<< (x7 &&& 31))).toNatClampNeg) / (43046721 : Int64)) + (1000 : Int64)) - r_7.toInt64)) → W p l e rm_X6_choicesOf s m av below meth c H locs 0 0 Q (F0 m 87 ls [.long v_10]) := by
        intro v_10 ev_10
        replace hw := hw v_10 ev_10
        refine lv_lstore (pc := 87) (lv' := [(9, .long v_10), (8, .int r_7), (0, .ref (q 38)), (1, .ref (q 35)), (2, .int p2), (3, .int x3), (4, .long x4), (6, .int x6), (7, .int x7)]) hx hb dX6_choicesOf_87 hl (by decide) rfl (fun ls hl => ?_)
        refine lv_lload (pc := 89) hx hb dX6_choicesOf_89 (lv_at hl 0 rfl) ?_
        refine lv_lload (pc := 91) hx hb dX6_choicesOf_91 (lv_at hl 6 rfl) ?_
        refine W.lcmp (pc := 93) hx hb dX6_choicesOf_93 ?_
        refine lv_if_le (pc := 94) (tgt := 107) hx hb dX6_choicesOf_94 (by decide) (fun c_11 => ?_) (fun c_11 => ?_)
        · replace hw := hw.1 c_11
          refine lv_lload (pc := 107) hx hb dX6_choicesOf_107 (lv_at hl 0 rfl) ?_
          refine lv_lload (pc := 109) hx hb dX6_choicesOf_109 (lv_at hl 6 rfl) ?_
          refine W.lcmp (pc := 111) hx hb dX6_choicesOf_111 ?_
          refine lv_if_ne (pc := 112) (tgt := 118) hx hb dX6_choicesOf_112 (by decide) (fun c_12 => ?_) (fun c_12 => ?_)
          · replace hw := hw.2 c_12
            obtain ⟨y_13, ey_13⟩ : ∃ z : Int32, z = (x7 + (1 : Int32)) := ⟨_, rfl⟩
            replace hw := hw y_13 ey_13
            refine lv_iinc (pc := 118) (v := y_13) (lv' := [(7, .int y_13), (9, .long v_10), (8, .int r_7), (0, .ref (q 38)), (1, .ref (q 35)), (2, .int p2), (3, .int x3), (4, .long x4), (6, .int x6)]) hx hb dX6_choicesOf_118 hl (k := 8) rfl (by rw [ey_13]; rfl) (by decide) rfl (fun ls hl => ?_)
            refine lv_goto (pc := 121) (tgt := 33) hx hb dX6_choicesOf_121 (by decide) ?_
            exact hw _ _ _ hP hD hS (lv_sub hl [3, 4, 5, 6, 7, 8, 0] rfl)
          · replace hw := hw.1 c_12
            obtain ⟨y_14, ey_14⟩ : ∃ z : Int32, z = (x6 + (1 : Int32)) := ⟨_, rfl⟩
            replace hw := hw y_14 ey_14
            refine lv_iinc (pc := 115) (v := y_14) (lv' := [(6, .int y_14), (9, .long v_10), (8, .int r_7), (0, .ref (q 38)), (1, .ref (q 35)), (2, .int p2), (3, .int x3), (4, .long x4), (7, .int x7)]) hx hb dX6_choicesOf_115 hl (k := 7) rfl (by rw [ey_14]; rfl) (by decide) rfl (fun ls hl => ?_)
            obtain ⟨y_15, ey_15⟩ : ∃ z : Int32, z = (x7 + (1 : Int32)) := ⟨_, rfl⟩
            replace hw := hw y_15 ey_15
            refine lv_iinc (pc := 118) (v := y_15) (lv' := [(7, .int y_15), (6, .int y_14), (9, .long v_10), (8, .int r_7), (0, .ref (q 38)), (1, .ref (q 35)), (2, .int p2), (3, .int x3), (4, .long x4)]) hx hb dX6_choicesOf_118 hl (k := 8) rfl (by rw [ey_15]; rfl) (by decide) rfl (fun ls hl => ?_)
            refine lv_goto (pc := 121) (tgt := 33) hx hb dX6_choicesOf_121 (by decide) ?_
            exact hw _ _ _ hP hD hS (lv_sub hl [4, 5, 6, 7, 8, 1, 0] rfl)
        · replace hw := hw.2 c_11
          refine lv_lload (pc := 97) hx hb dX6_choicesOf_97 (lv_at hl 0 rfl) ?_
          refine lv_lstore (pc := 99) (lv' := [(4, .long v_10), (9, .long v_10), (8, .int r_7), (0, .ref (q 38)), (1, .ref (q 35)), (2, .int p2), (3, .int x3), (6, .int x6), (7, .int x7)]) hx hb dX6_choicesOf_99 hl (by decide) rfl (fun ls hl => ?_)
          refine lv_iconst (pc := 101) (v := (1 : Int32)) hx hb dX6_choicesOf_101 (by decide) ?_
          refine lv_istore (pc := 102) (lv' := [(6, .int (1 : Int32)), (4, .long v_10), (9, .long v_10), (8, .int r_7), (0, .ref (q 38)), (1, .ref (q 35)), (2, .int p2), (3, .int x3), (7, .int x7)]) hx hb dX6_choicesOf_102 hl (by decide) rfl (fun ls hl => ?_)
          refine lv_goto (pc := 104) (tgt := 118) hx hb dX6_choicesOf_104 (by decide) ?_
          obtain ⟨y_16, ey_16⟩ : ∃ z : Int32, z = (x7 + (1 : Int32)) := ⟨_, rfl⟩
          replace hw := hw y_16 ey_16
          refine lv_iinc (pc := 118) (v := y_16) (lv' := [(7, .int y_16), (6, .int (1 : Int32)), (4, .long v_10), (9, .long v_10), (8, .int r_7), (0, .ref (q 38)), (1, .ref (q 35)), (2, .int p2), (3, .int x3)]) hx hb dX6_choicesOf_118 hl (k := 8) rfl (by rw [ey_16]; rfl) (by decide) rfl (fun ls hl => ?_)
          refine lv_goto (pc := 121) (tgt := 33) hx hb dX6_choicesOf_121 (by decide) ?_
          exact hw _ _ _ hP hD hS (lv_sub hl [5, 6, 7, 8, 2, 1, 0] rfl)
      refine lv_icmp_ne (pc := 55) (tgt := 64) hx hb dX6_choicesOf_55 (by decide) (fun c_8 => ?_) (fun c_8 => ?_)
      · replace hsf := hsf.2 c_8
        refine lv_aload_n (pc := 64) hx hb dX6_choicesOf_64 rfl (lv_at hl 1 rfl) ?_
        refine va_get (pc := 65) (D := G) (ci := 6) (v := .ref (q 39)) (C := RX6) (T := TX6) (N := 2) hx hb hts iw_X6_choicesOf_X6 hown hK hP 3 rfl rfl 0 (by decide) (hts _ (List.mem_of_getElem? (i := 1) rfl)) (fun _ h9 => h9) rfl dX6_choicesOf_65 ?_
        refine lv_iload_n (pc := 68) hx hb dX6_choicesOf_68 rfl (lv_at hl 4 rfl) ?_
        refine lv_iconst (pc := 69) (v := (1 : Int32)) hx hb dX6_choicesOf_69 (by decide) ?_
        refine lv_iload (pc := 70) hx hb dX6_choicesOf_70 (lv_at hl 7 rfl) ?_
        refine lv_ishl (pc := 72) hx hb dX6_choicesOf_72 ?_
        refine lv_ixor (pc := 73) hx hb dX6_choicesOf_73 ?_
        obtain ⟨h_9, hsf⟩ := hsf
        refine va_lald (pc := 74) hx hb hK hP 4 1 rfl rfl h_9 dX6_choicesOf_74 ?_
        refine lv_ldc2 (pc := 75) (v := (43046721 : Int64)) hx hb hown (hts _ (List.mem_of_getElem? (i := 2) rfl)) dX6_choicesOf_75 ?_
        refine lv_ldiv (pc := 78) hx hb dX6_choicesOf_78 (by decide) ?_
        refine lv_ldc2 (pc := 79) (v := (1000 : Int64)) hx hb hown (hts _ (List.mem_of_getElem? (i := 4) rfl)) dX6_choicesOf_79 ?_
        refine lv_ladd (pc := 82) hx hb dX6_choicesOf_82 ?_
        refine lv_iload (pc := 83) hx hb dX6_choicesOf_83 (lv_at hl 0 rfl) ?_
        refine lv_i2l (pc := 85) hx hb dX6_choicesOf_85 rfl ?_
        refine lv_lsub (pc := 86) hx hb dX6_choicesOf_86 ?_
        exact K_v_10 _ (by rw [if_neg c_8])
      · replace hsf := hsf.1 c_8
        refine lv_ldc2 (pc := 58) (v := (-1 : Int64)) hx hb hown (hts _ (List.mem_of_getElem? (i := 3) rfl)) dX6_choicesOf_58 ?_
        refine lv_goto (pc := 61) (tgt := 87) hx hb dX6_choicesOf_61 (by decide) ?_
        exact K_v_10 _ (by rw [if_pos c_8]))
  refine lv_aload_n (pc := 0) hx hb dX6_choicesOf_0 rfl (lv_at hl 0 rfl) ?_
  refine lv_aload_n (pc := 1) hx hb dX6_choicesOf_1 rfl (lv_at hl 1 rfl) ?_
  refine lv_iload_n (pc := 2) hx hb dX6_choicesOf_2 rfl (lv_at hl 2 rfl) ?_
  refine hCallV (pc := 3) (wr := []) (wsf := fun (u : (Nat → Int64) × (Nat → Int64)) => [oX5 q mk_pieces mk_finds, aI K (q 36) 48 mk_sign, aI K (q 37) 16 mk_weight, oX6 q, aJ K (q 39) 256 u.1, aJ K (q 40) 8 u.2]) [0, 1, 2, 3, 4, 5] [] (va_runV (As := [.ref (q 35), .int p2]) (rest := []) ⟨hx, hb, hml, hown, hts⟩ (c_X6_pairAllBut l G K tb q s.heap.size _ p2 mk_sign mk_weight mk_pieces mk_finds pr_best pr_gain hw) (cwV 2 hts gX6_choicesOf_X6_pairAllBut rfl rfl rfl (by decide +kernel) ⟨Nat.le_of_ble_eq_true rfl, Nat.le_of_ble_eq_true rfl⟩) (hPreV hE hP hK hD hS hA [0, 1, 2, 3, 4, 5] (by decide) rfl rfl rfl rfl (q0 := 3) (ci := 6) rfl) rfl rfl hl.1 rfl (lv_room (Nat.le_of_ble_eq_true rfl)) dX6_choicesOf_3 ⟨Nat.zero_le _, Nat.zero_le _⟩) hP hD hS hA rfl rfl (by decide) (by decide) (fun u H locs hw hP hD hS => ?_)
  obtain ⟨pr_best_1, pr_gain_2⟩ := u
  have hP : va_P G vwCl [oX5 q mk_pieces mk_finds, aI K (q 36) 48 mk_sign, aI K (q 37) 16 mk_weight, oX6 q, aJ K (q 39) 256 pr_best_1, aJ K (q 40) 8 pr_gain_2] H := hP.sub [0, 1, 2, 3, 4, 5] rfl
  have hD : va_D A [oX5 q mk_pieces mk_finds, aI K (q 36) 48 mk_sign, aI K (q 37) 16 mk_weight, oX6 q, aJ K (q 39) 256 pr_best_1, aJ K (q 40) 8 pr_gain_2] := hD.sub [0, 1, 2, 3, 4, 5] (by decide) rfl
  refine lv_iconst (pc := 6) (v := (1 : Int32)) hx hb dX6_choicesOf_6 (by decide) ?_
  refine lv_aload_n (pc := 7) hx hb dX6_choicesOf_7 rfl (lv_at hl 1 rfl) ?_
  refine va_getN (pc := 8) (D := G) (host := RX10) (ci := 5) (v := .int mk_finds) (C := RX5) (T := TX5) (N := 4) hx hb hts iw_X6_choicesOf_X5 hown hK hP 0 rfl rfl 3 (by decide) (hE.use 22 rfl) (fun _ h9 => h9) rfl dX6_choicesOf_8 ?_
  refine lv_ishl (pc := 11) hx hb dX6_choicesOf_11 ?_
  refine lv_iconst (pc := 12) (v := (1 : Int32)) hx hb dX6_choicesOf_12 (by decide) ?_
  refine lv_isub (pc := 13) hx hb dX6_choicesOf_13 ?_
  refine lv_topi (fun y_3 ey_3 => ?_)
  replace hw := hw y_3 ey_3
  refine lv_istore_n (pc := 14) (lv' := [(3, .int y_3), (0, .ref (q 38)), (1, .ref (q 35)), (2, .int p2)]) hx hb dX6_choicesOf_14 rfl hl (by decide) rfl (fun ls hl => ?_)
  refine lv_aload_n (pc := 15) hx hb dX6_choicesOf_15 rfl (lv_at hl 1 rfl) ?_
  refine va_get (pc := 16) (D := G) (ci := 6) (v := .ref (q 39)) (C := RX6) (T := TX6) (N := 2) hx hb hts iw_X6_choicesOf_X6 hown hK hP 3 rfl rfl 0 (by decide) (hts _ (List.mem_of_getElem? (i := 1) rfl)) (fun _ h9 => h9) rfl dX6_choicesOf_16 ?_
  refine lv_iload_n (pc := 19) hx hb dX6_choicesOf_19 rfl (lv_at hl 0 rfl) ?_
  obtain ⟨h_4, hw⟩ := hw
  refine va_lald (pc := 20) hx hb hK hP 4 1 rfl rfl h_4 dX6_choicesOf_20 ?_
  refine lv_ldc2 (pc := 21) (v := (43046721 : Int64)) hx hb hown (hts _ (List.mem_of_getElem? (i := 2) rfl)) dX6_choicesOf_21 ?_
  refine lv_ldiv (pc := 24) hx hb dX6_choicesOf_24 (by decide) ?_
  refine lv_topl (fun y_5 ey_5 => ?_)
  replace hw := hw y_5 ey_5
  refine lv_lstore (pc := 25) (lv' := [(4, .long y_5), (3, .int y_3), (0, .ref (q 38)), (1, .ref (q 35)), (2, .int p2)]) hx hb dX6_choicesOf_25 hl (by decide) rfl (fun ls hl => ?_)
  refine lv_iconst (pc := 27) (v := (1 : Int32)) hx hb dX6_choicesOf_27 (by decide) ?_
  refine lv_istore (pc := 28) (lv' := [(6, .int (1 : Int32)), (4, .long y_5), (3, .int y_3), (0, .ref (q 38)), (1, .ref (q 35)), (2, .int p2)]) hx hb dX6_choicesOf_28 hl (by decide) rfl (fun ls hl => ?_)
  refine lv_iconst (pc := 30) (v := (0 : Int32)) hx hb dX6_choicesOf_30 (by decide) ?_
  refine lv_istore (pc := 31) (lv' := [(7, .int (0 : Int32)), (6, .int (1 : Int32)), (4, .long y_5), (3, .int y_3), (0, .ref (q 38)), (1, .ref (q 35)), (2, .int p2)]) hx hb dX6_choicesOf_31 hl (by decide) rfl (fun ls hl => ?_)
  exact hw _ _ _ hP hD hS (lv_sub hl [4, 5, 6, 3, 2, 1, 0] rfl)
def P_X6_findOf (post : Int32 → (Nat → Int64) → (Nat → Int64) → Prop) (p2 : Int32) (mk_sign : Nat → Int32) (mk_weight : Nat → Int32) (mk_pieces : Int32) (mk_finds : Int32) (pr_best : Nat → Int64) (pr_gain : Nat → Int64) : Prop :=
  P_X6_bestOf (fun r_1 pr_best_2 pr_gain_3 => vp_in p2 8 ∧ ∀ y_5 : Int32, y_5 = (if (1 : Int32) < (tPl p2.toNatClampNeg) then (tPl p2.toNatClampNeg) else (1 : Int32)) → ¬ y_5 = 0 ∧ ∀ y_7 : Int32, y_7 = (((r_1 - r_1 / (43046721 : Int64) * (43046721 : Int64)).toInt32 / y_5) - ((r_1 - r_1 / (43046721 : Int64) * (43046721 : Int64)).toInt32 / y_5) / (9 : Int32) * (9 : Int32)) → ∀ v_9 : Int32, v_9 = (if y_7 = (0 : Int32) then (-9 : Int32) else ((8 : Int32) - y_7)) → post v_9 pr_best_2 pr_gain_3) mk_sign mk_weight mk_pieces mk_finds pr_best pr_gain
abbrev rm_X6_findOf : Room := { frames := 5, cells := 0, slots := 0, locals := 118 }
set_option maxHeartbeats 4000000 in
set_option maxRecDepth 100000 in
theorem c_X6_findOf (l : Launch) (G : va_G) (K : ClassId × ClassId × ClassId) (tb q : Nat → Nat) (sz : Nat) (post : Int32 → (Nat → Int64) → (Nat → Int64) → Prop) (p2 : Int32) (mk_sign : Nat → Int32) (mk_weight : Nat → Int32) (mk_pieces : Int32) (mk_finds : Int32) (pr_best : Nat → Int64) (pr_gain : Nat → Int64) (hw : P_X6_findOf post p2 mk_sign mk_weight mk_pieces mk_finds pr_best pr_gain) : Met l yX6_findOf wsX6_findOf rm_X6_findOf (va_Pc [.ref (q 38), .ref (q 35), .int p2] (hPre G K tb [oX5 q mk_pieces mk_finds, aI K (q 36) 48 mk_sign, aI K (q 37) 16 mk_weight, oX6 q, aJ K (q 39) 256 pr_best, aJ K (q 40) 8 pr_gain] sz)) (va_Qi (fun (r : Int32) (u : (Nat → Int64) × (Nat → Int64)) => post r u.1 u.2) (fun u => hB G K (va_A [oX5 q mk_pieces mk_finds, aI K (q 36) 48 mk_sign, aI K (q 37) 16 mk_weight, oX6 q, aJ K (q 39) 256 pr_best, aJ K (q 40) 8 pr_gain] sz) [oX5 q mk_pieces mk_finds, aI K (q 36) 48 mk_sign, aI K (q 37) 16 mk_weight, oX6 q, aJ K (q 39) 256 u.1, aJ K (q 40) 8 u.2]) (va_A [oX5 q mk_pieces mk_finds, aI K (q 36) 48 mk_sign, aI K (q 37) 16 mk_weight, oX6 q, aJ K (q 39) 256 pr_best, aJ K (q 40) 8 pr_gain] sz)) 0 0 (va_A [oX5 q mk_pieces mk_finds, aI K (q 36) 48 mk_sign, aI K (q 37) 16 mk_weight, oX6 q, aJ K (q 39) 256 pr_best, aJ K (q 40) 8 pr_gain] sz) := by
  refine hMet (fun A => va_Qi (fun (r : Int32) (u : (Nat → Int64) × (Nat → Int64)) => post r u.1 u.2) (fun u => hB G K A [oX5 q mk_pieces mk_finds, aI K (q 36) 48 mk_sign, aI K (q 37) 16 mk_weight, oX6 q, aJ K (q 39) 256 u.1, aJ K (q 40) 8 u.2]) A) (by decide) rfl (Nat.le_of_ble_eq_true rfl) ?_
  intro p e s m av below meth c A Q ls hx hb hr hml hts hown hlocks hnm hA hP hK hD hS hE hQ hl
  have hts : ∀ w ∈ wsX6_findOf, w.before av s = true := hts
  have hown : s.vm.findClass RX6 = some m.cls := hown
  have hl : lv_has ls 4 [(0, .ref (q 38)), (1, .ref (q 35)), (2, .int p2)] := hl
  unfold P_X6_findOf at hw
  refine lv_aload_n (pc := 0) hx hb dX6_findOf_0 rfl (lv_at hl 0 rfl) ?_
  refine lv_aload_n (pc := 1) hx hb dX6_findOf_1 rfl (lv_at hl 1 rfl) ?_
  refine hCallL (pc := 2) (wr := []) (wsf := fun (u : (Nat → Int64) × (Nat → Int64)) => [oX5 q mk_pieces mk_finds, aI K (q 36) 48 mk_sign, aI K (q 37) 16 mk_weight, oX6 q, aJ K (q 39) 256 u.1, aJ K (q 40) 8 u.2]) [0, 1, 2, 3, 4, 5] [] (va_runV (As := [.ref (q 35)]) (rest := []) ⟨hx, hb, hml, hown, hts⟩ (c_X6_bestOf l G K tb q s.heap.size _ mk_sign mk_weight mk_pieces mk_finds pr_best pr_gain hw) (cwV 1 hts gX6_findOf_X6_bestOf rfl rfl rfl (by decide +kernel) ⟨Nat.le_of_ble_eq_true rfl, Nat.le_of_ble_eq_true rfl⟩) (hPreV hE hP hK hD hS hA [0, 1, 2, 3, 4, 5] (by decide) rfl rfl rfl rfl (q0 := 3) (ci := 6) rfl) rfl rfl hl.1 rfl (lv_room (Nat.le_of_ble_eq_true rfl)) dX6_findOf_2 ⟨Nat.zero_le _, Nat.zero_le _⟩) hP hD hS hA rfl rfl (by decide) (by decide) (fun r_1 u H locs hw hP hD hS => ?_)
  obtain ⟨pr_best_2, pr_gain_3⟩ := u
  have hP : va_P G vwCl [oX5 q mk_pieces mk_finds, aI K (q 36) 48 mk_sign, aI K (q 37) 16 mk_weight, oX6 q, aJ K (q 39) 256 pr_best_2, aJ K (q 40) 8 pr_gain_3] H := hP.sub [0, 1, 2, 3, 4, 5] rfl
  have hD : va_D A [oX5 q mk_pieces mk_finds, aI K (q 36) 48 mk_sign, aI K (q 37) 16 mk_weight, oX6 q, aJ K (q 39) 256 pr_best_2, aJ K (q 40) 8 pr_gain_3] := hD.sub [0, 1, 2, 3, 4, 5] (by decide) rfl
  refine lv_ldc2 (pc := 5) (v := (43046721 : Int64)) hx hb hown (hts _ (List.mem_of_getElem? (i := 1) rfl)) dX6_findOf_5 ?_
  refine lv_lrem (pc := 8) hx hb dX6_findOf_8 (by decide) ?_
  refine lv_l2i (pc := 9) hx hb dX6_findOf_9 rfl ?_
  refine lv_iconst (pc := 10) (v := (1 : Int32)) hx hb dX6_findOf_10 (by decide) ?_
  refine va_gets (pc := 11) hx hb hE.2.2.2.2.2.1 hS hown (hts _ (List.mem_of_getElem? (i := 2) rfl)) (fun _ h9 => h9) dX6_findOf_11 ?_
  refine lv_iload_n (pc := 14) hx hb dX6_findOf_14 rfl (lv_at hl 2 rfl) ?_
  obtain ⟨h_4, hw⟩ := hw
  refine va_ti (pc := 15) (v := .int (tPl p2.toNatClampNeg)) hx hb hE.2.2.2.2.2.2 hS h_4 rfl dX6_findOf_15 ?_
  refine va_mmax (pc := 16) hx hb (hml.trans hl.1.symm) hown (hts _ (List.mem_of_getElem? (i := 3) rfl)) (hts _ (List.mem_of_getElem? (i := 4) rfl)) (hts _ (List.mem_of_getElem? (i := 5) rfl)) (hts _ (List.mem_of_getElem? (i := 6) rfl)) (Nat.le_of_ble_eq_true rfl) (Nat.le_of_ble_eq_true rfl) (Nat.zero_le _) (Nat.zero_le _) dX6_findOf_16 ?_
  refine lv_topi (fun y_5 ey_5 => ?_)
  replace hw := hw y_5 ey_5
  obtain ⟨h_6, hw⟩ := hw
  refine lv_idiv (pc := 19) hx hb dX6_findOf_19 h_6 ?_
  refine lv_bipush (pc := 20) (v := (9 : Int32)) hx hb dX6_findOf_20 (by decide) ?_
  refine lv_irem (pc := 22) hx hb dX6_findOf_22 (by decide) ?_
  refine lv_topi (fun y_7 ey_7 => ?_)
  replace hw := hw y_7 ey_7
  refine lv_istore_n (pc := 23) (lv' := [(3, .int y_7), (0, .ref (q 38)), (1, .ref (q 35)), (2, .int p2)]) hx hb dX6_findOf_23 rfl hl (by decide) rfl (fun ls hl => ?_)
  refine lv_iload_n (pc := 24) hx hb dX6_findOf_24 rfl (lv_at hl 0 rfl) ?_
  have K_v_9 : ∀ v_9 : Int32, v_9 = (if y_7 = (0 : Int32) then (-9 : Int32) else ((8 : Int32) - y_7)) → W p l e rm_X6_findOf s m av below meth c H locs 0 0 Q (F0 m 37 ls [.int v_9]) := by
    intro v_9 ev_9
    replace hw := hw v_9 ev_9
    exact hRetI (S := (Nat → Int64) × (Nat → Int64)) (pr_best_2, pr_gain_3) hx hb hr hlocks hQ hw hP hK hD hS dX6_findOf_37
  refine lv_if_ne (pc := 25) (tgt := 33) hx hb dX6_findOf_25 (by decide) (fun c_8 => ?_) (fun c_8 => ?_)
  · skip
    refine lv_bipush (pc := 33) (v := (8 : Int32)) hx hb dX6_findOf_33 (by decide) ?_
    refine lv_iload_n (pc := 35) hx hb dX6_findOf_35 rfl (lv_at hl 0 rfl) ?_
    refine lv_isub (pc := 36) hx hb dX6_findOf_36 ?_
    exact K_v_9 _ (by rw [if_neg c_8])
  · skip
    refine lv_bipush (pc := 28) (v := (-9 : Int32)) hx hb dX6_findOf_28 (by decide) ?_
    refine lv_goto (pc := 30) (tgt := 37) hx hb dX6_findOf_30 (by decide) ?_
    exact K_v_9 _ (by rw [if_pos c_8])
def P_X6_mostPairs (post : Int32 → (Nat → Int64) → (Nat → Int64) → Prop) (mk_sign : Nat → Int32) (mk_weight : Nat → Int32) (mk_pieces : Int32) (mk_finds : Int32) (pr_best : Nat → Int64) (pr_gain : Nat → Int64) : Prop :=
  P_X6_bestOf (fun r_1 pr_best_2 pr_gain_3 => P_X6_pairsIn (fun r_4 => post r_4 pr_best_2 pr_gain_3) r_1) mk_sign mk_weight mk_pieces mk_finds pr_best pr_gain
abbrev rm_X6_mostPairs : Room := { frames := 5, cells := 0, slots := 0, locals := 118 }
set_option maxHeartbeats 4000000 in
set_option maxRecDepth 100000 in
theorem c_X6_mostPairs (l : Launch) (G : va_G) (K : ClassId × ClassId × ClassId) (tb q : Nat → Nat) (sz : Nat) (post : Int32 → (Nat → Int64) → (Nat → Int64) → Prop) (mk_sign : Nat → Int32) (mk_weight : Nat → Int32) (mk_pieces : Int32) (mk_finds : Int32) (pr_best : Nat → Int64) (pr_gain : Nat → Int64) (hw : P_X6_mostPairs post mk_sign mk_weight mk_pieces mk_finds pr_best pr_gain) : Met l yX6_mostPairs wsX6_mostPairs rm_X6_mostPairs (va_Pc [.ref (q 38), .ref (q 35)] (hPre G K tb [oX5 q mk_pieces mk_finds, aI K (q 36) 48 mk_sign, aI K (q 37) 16 mk_weight, oX6 q, aJ K (q 39) 256 pr_best, aJ K (q 40) 8 pr_gain] sz)) (va_Qi (fun (r : Int32) (u : (Nat → Int64) × (Nat → Int64)) => post r u.1 u.2) (fun u => hB G K (va_A [oX5 q mk_pieces mk_finds, aI K (q 36) 48 mk_sign, aI K (q 37) 16 mk_weight, oX6 q, aJ K (q 39) 256 pr_best, aJ K (q 40) 8 pr_gain] sz) [oX5 q mk_pieces mk_finds, aI K (q 36) 48 mk_sign, aI K (q 37) 16 mk_weight, oX6 q, aJ K (q 39) 256 u.1, aJ K (q 40) 8 u.2]) (va_A [oX5 q mk_pieces mk_finds, aI K (q 36) 48 mk_sign, aI K (q 37) 16 mk_weight, oX6 q, aJ K (q 39) 256 pr_best, aJ K (q 40) 8 pr_gain] sz)) 0 0 (va_A [oX5 q mk_pieces mk_finds, aI K (q 36) 48 mk_sign, aI K (q 37) 16 mk_weight, oX6 q, aJ K (q 39) 256 pr_best, aJ K (q 40) 8 pr_gain] sz) := by
  refine hMet (fun A => va_Qi (fun (r : Int32) (u : (Nat → Int64) × (Nat → Int64)) => post r u.1 u.2) (fun u => hB G K A [oX5 q mk_pieces mk_finds, aI K (q 36) 48 mk_sign, aI K (q 37) 16 mk_weight, oX6 q, aJ K (q 39) 256 u.1, aJ K (q 40) 8 u.2]) A) (by decide) rfl (Nat.le_of_ble_eq_true rfl) ?_
  intro p e s m av below meth c A Q ls hx hb hr hml hts hown hlocks hnm hA hP hK hD hS hE hQ hl
  have hts : ∀ w ∈ wsX6_mostPairs, w.before av s = true := hts
  have hown : s.vm.findClass RX6 = some m.cls := hown
  have hl : lv_has ls 2 [(0, .ref (q 38)), (1, .ref (q 35))] := hl
  unfold P_X6_mostPairs at hw
  refine lv_aload_n (pc := 0) hx hb dX6_mostPairs_0 rfl (lv_at hl 0 rfl) ?_
  refine lv_aload_n (pc := 1) hx hb dX6_mostPairs_1 rfl (lv_at hl 1 rfl) ?_
  refine hCallL (pc := 2) (wr := []) (wsf := fun (u : (Nat → Int64) × (Nat → Int64)) => [oX5 q mk_pieces mk_finds, aI K (q 36) 48 mk_sign, aI K (q 37) 16 mk_weight, oX6 q, aJ K (q 39) 256 u.1, aJ K (q 40) 8 u.2]) [0, 1, 2, 3, 4, 5] [] (va_runV (As := [.ref (q 35)]) (rest := []) ⟨hx, hb, hml, hown, hts⟩ (c_X6_bestOf l G K tb q s.heap.size _ mk_sign mk_weight mk_pieces mk_finds pr_best pr_gain hw) (cwV 1 hts gX6_mostPairs_X6_bestOf rfl rfl rfl (by decide +kernel) ⟨Nat.le_of_ble_eq_true rfl, Nat.le_of_ble_eq_true rfl⟩) (hPreV hE hP hK hD hS hA [0, 1, 2, 3, 4, 5] (by decide) rfl rfl rfl rfl (q0 := 3) (ci := 6) rfl) rfl rfl hl.1 rfl (lv_room (Nat.le_of_ble_eq_true rfl)) dX6_mostPairs_2 ⟨Nat.zero_le _, Nat.zero_le _⟩) hP hD hS hA rfl rfl (by decide) (by decide) (fun r_1 u H locs hw hP hD hS => ?_)
  obtain ⟨pr_best_2, pr_gain_3⟩ := u
  have hP : va_P G vwCl [oX5 q mk_pieces mk_finds, aI K (q 36) 48 mk_sign, aI K (q 37) 16 mk_weight, oX6 q, aJ K (q 39) 256 pr_best_2, aJ K (q 40) 8 pr_gain_3] H := hP.sub [0, 1, 2, 3, 4, 5] rfl
  have hD : va_D A [oX5 q mk_pieces mk_finds, aI K (q 36) 48 mk_sign, aI K (q 37) 16 mk_weight, oX6 q, aJ K (q 39) 256 pr_best_2, aJ K (q 40) 8 pr_gain_3] := hD.sub [0, 1, 2, 3, 4, 5] (by decide) rfl
  refine hCallI (pc := 5) (wr := [oX5 q mk_pieces mk_finds, aI K (q 36) 48 mk_sign, aI K (q 37) 16 mk_weight, oX6 q, aJ K (q 39) 256 pr_best_2, aJ K (q 40) 8 pr_gain_3]) (wsf := fun (u : Unit) => []) [] [0, 1, 2, 3, 4, 5] (va_runS (As := [.long r_1]) (rest := []) ⟨hx, hb, hml, hown, hts⟩ (c_X6_pairsIn l G K tb q H.size _ r_1 hw) (va_cwS 1 hts gX6_mostPairs_X6_pairsIn rfl rfl rfl (by decide +kernel) ⟨Nat.le_of_ble_eq_true rfl, Nat.le_of_ble_eq_true rfl⟩) (hPreS hE hP hK hD hS hA [] (by decide) rfl rfl) rfl rfl hl.1 rfl (lv_room (Nat.le_of_ble_eq_true rfl)) dX6_mostPairs_5 ⟨Nat.zero_le _, Nat.zero_le _⟩) hP hD hS hA rfl rfl (by decide) (by decide) (fun r_4 u H locs hw hP hD hS => ?_)
  have hP : va_P G vwCl [oX5 q mk_pieces mk_finds, aI K (q 36) 48 mk_sign, aI K (q 37) 16 mk_weight, oX6 q, aJ K (q 39) 256 pr_best_2, aJ K (q 40) 8 pr_gain_3] H := hP.sub [0, 1, 2, 3, 4, 5] rfl
  have hD : va_D A [oX5 q mk_pieces mk_finds, aI K (q 36) 48 mk_sign, aI K (q 37) 16 mk_weight, oX6 q, aJ K (q 39) 256 pr_best_2, aJ K (q 40) 8 pr_gain_3] := hD.sub [0, 1, 2, 3, 4, 5] (by decide) rfl
  exact hRetI (S := (Nat → Int64) × (Nat → Int64)) (pr_best_2, pr_gain_3) hx hb hr hlocks hQ hw hP hK hD hS dX6_mostPairs_8
