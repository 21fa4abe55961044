def P_X2_insert (post : (Nat → Int32) → Int32 → Prop) (p2 : Int32) (ev_day : Nat → Int32) (ca_served : Nat → Int32) (ca_size : Int32) : Prop :=
  ∀ (X11 : Int32 → Int32 → (Nat → Int32) → Int32 → Prop),
  (∀ (x3 : Int32) (x4 : Int32) (ca_served : Nat → Int32) (ca_size : Int32), (((x4 ≤ (0 : Int32) → vp_in x3 12 ∧ ∀ ca_served_3 : Nat → Int32, ca_served_3 = upd ca_served x3.toNatClampNeg p2 → ∀ y_4 : Int32, y_4 = (ca_size + (1 : Int32)) → post ca_served_3 y_4) ∧ (¬ x4 ≤ (0 : Int32) → vp_in (x4 - (1 : Int32)) 12 ∧ vp_in (ca_served (x4 - (1 : Int32)).toNatClampNeg) 12 ∧ vp_in p2 12 ∧ (((ev_day (ca_served (x4 - (1 : Int32)).toNatClampNeg).toNatClampNeg) ≤ (ev_day p2.toNatClampNeg) → vp_in x3 12 ∧ ∀ ca_served_10 : Nat → Int32, ca_served_10 = upd ca_served x3.toNatClampNeg p2 → ∀ y_11 : Int32, y_11 = (ca_size + (1 : Int32)) → post ca_served_10 y_11) ∧ (¬ (ev_day (ca_served (x4 - (1 : Int32)).toNatClampNeg).toNatClampNeg) ≤ (ev_day p2.toNatClampNeg) → vp_in x4 12 ∧ ∀ ca_served_13 : Nat → Int32, ca_served_13 = upd ca_served x4.toNatClampNeg (ca_served (x4 - (1 : Int32)).toNatClampNeg) → ∀ y_14 : Int32, y_14 = (x4 - (1 : Int32)) → ∀ y_15 : Int32, y_15 = (x4 + (-1 : Int32)) → X11 y_14 y_15 ca_served_13 ca_size))))) → X11 x3 x4 ca_served ca_size) →
  X11 ca_size ca_size ca_served ca_size
abbrev rm_X2_insert : Room := { frames := 0, cells := 0, slots := 0, locals := 0 }
theorem iw_X2_insert_X2 : ∀ w ∈ wsX20, w ∈ wsX2_insert := by decide +kernel
theorem iw_X2_insert_X3 : ∀ w ∈ wsX30, w ∈ wsX2_insert := by decide +kernel
set_option maxHeartbeats 4000000 in
set_option maxRecDepth 100000 in
theorem c_X2_insert (l : Launch) (G : va_G) (K : ClassId × ClassId × ClassId) (tb q : Nat → Nat) (sz : Nat) (ev_size : Int32) (post : (Nat → Int32) → Int32 → Prop) (p2 : Int32) (ev_day : Nat → Int32) (ca_served : Nat → Int32) (ca_size : Int32) (hw : P_X2_insert post p2 ev_day ca_served ca_size) : Met l yX2_insert wsX2_insert rm_X2_insert (va_Pc [.ref (q 18), .ref (q 12), .int p2] (hPre G K tb [oX3 q ev_size, aI K (q 13) 12 ev_day, oX2 q ca_size, aI K (q 21) 12 ca_served] sz)) (va_Qv (fun (u : (Nat → Int32) × Int32) => post u.1 u.2) (fun u => hB G K (va_A [oX3 q ev_size, aI K (q 13) 12 ev_day, oX2 q ca_size, aI K (q 21) 12 ca_served] sz) [oX3 q ev_size, aI K (q 13) 12 ev_day, oX2 q u.2, aI K (q 21) 12 u.1]) (va_A [oX3 q ev_size, aI K (q 13) 12 ev_day, oX2 q ca_size, aI K (q 21) 12 ca_served] sz)) 0 0 (va_A [oX3 q ev_size, aI K (q 13) 12 ev_day, oX2 q ca_size, aI K (q 21) 12 ca_served] sz) := by
  refine hMet (fun A => va_Qv (fun (u : (Nat → Int32) × Int32) => post u.1 u.2) (fun u => hB G K A [oX3 q ev_size, aI K (q 13) 12 ev_day, oX2 q u.2, aI K (q 21) 12 u.1]) A) (by decide) rfl (Nat.le_of_ble_eq_true rfl) ?_
  intro p e s m av below meth c A Q ls hx hb hr hml hts hown hlocks hnm hA hP hK hD hS hE hQ hl
  have hts : ∀ w ∈ wsX2_insert, w.before av s = true := hts
  have hown : s.vm.findClass RX2 = some m.cls := hown
  have hl : lv_has ls 5 [(0, .ref (q 18)), (1, .ref (q 12)), (2, .int p2)] := hl
  unfold P_X2_insert at hw
  replace hw := hw (fun (x3 : Int32) (x4 : Int32) (ca_served : Nat → Int32) (ca_size : Int32) => ∀ (H : Heap) (locs : List Loc) (ls : Array Slot), va_P G vwCl [oX3 q ev_size, aI K (q 13) 12 ev_day, oX2 q ca_size, aI K (q 21) 12 ca_served] H → va_D A [oX3 q ev_size, aI K (q 13) 12 ev_day, oX2 q ca_size, aI K (q 21) 12 ca_served] → va_S A s.heap H locs → lv_has ls 5 [(0, .ref (q 18)), (1, .ref (q 12)), (2, .int p2), (3, .int x3), (4, .int x4)] → W p l e rm_X2_insert s m av below meth c H locs 0 0 Q (F0 m 11 ls []))
  replace hw := hw (by
    intro x3 x4 ca_served ca_size hw H locs ls hP hD hS hl
    refine lv_iload (pc := 11) hx hb dX2_insert_11 (lv_at hl 4 rfl) ?_
    refine lv_if_le (pc := 13) (tgt := 66) hx hb dX2_insert_13 (by decide) (fun c_1 => ?_) (fun c_1 => ?_)
    · replace hw := hw.1 c_1
      refine lv_aload_n (pc := 66) hx hb dX2_insert_66 rfl (lv_at hl 0 rfl) ?_
      refine va_get (pc := 67) (D := G) (ci := 2) (v := .ref (q 21)) (C := RX2) (T := TX2) (N := 13) hx hb hts iw_X2_insert_X2 hown hK hP 2 rfl rfl 2 (by decide) (hts _ (List.mem_of_getElem? (i := 2) rfl)) (fun _ h9 => h9) rfl dX2_insert_67 ?_
      refine lv_iload_n (pc := 70) hx hb dX2_insert_70 rfl (lv_at hl 3 rfl) ?_
      refine lv_iload_n (pc := 71) hx hb dX2_insert_71 rfl (lv_at hl 2 rfl) ?_
      obtain ⟨h_2, hw⟩ := hw
      refine va_iast (pc := 72) hx hb hK hP hD hS 3 0 rfl rfl h_2 dX2_insert_72 (fun H locs hP hD hS => ?_)
      obtain ⟨ca_served_3, eca_served_3⟩ : ∃ z : Nat → Int32, z = upd ca_served x3.toNatClampNeg p2 := ⟨_, rfl⟩
      have hP : va_P G vwCl [oX3 q ev_size, aI K (q 13) 12 ev_day, oX2 q ca_size, aI K (q 21) 12 ca_served_3] H := by rw [eca_served_3]; exact hP
      have hD : va_D A [oX3 q ev_size, aI K (q 13) 12 ev_day, oX2 q ca_size, aI K (q 21) 12 ca_served_3] := by rw [eca_served_3]; exact hD
      replace hw := hw ca_served_3 eca_served_3
      refine lv_aload_n (pc := 73) hx hb dX2_insert_73 rfl (lv_at hl 0 rfl) ?_
      refine lv_dup (pc := 74) hx hb dX2_insert_74 rfl ?_
      refine va_get (pc := 75) (D := G) (ci := 2) (v := .int ca_size) (C := RX2) (T := TX2) (N := 13) hx hb hts iw_X2_insert_X2 hown hK hP 2 rfl rfl 4 (by decide) (hts _ (List.mem_of_getElem? (i := 1) rfl)) (fun _ h9 => h9) rfl dX2_insert_75 ?_
      refine lv_iconst (pc := 78) (v := (1 : Int32)) hx hb dX2_insert_78 (by decide) ?_
      refine lv_iadd (pc := 79) hx hb dX2_insert_79 ?_
      refine lv_topi (fun y_4 ey_4 => ?_)
      replace hw := hw y_4 ey_4
      refine va_put (pc := 80) (D := G) (ci := 2) (v := .int y_4) (ty := .int) (C := RX2) (T := TX2) (N := 13) hx hb hts iw_X2_insert_X2 tyX2 tyX2_ok nmX2 hown hK hP hD hS 2 rfl rfl 4 (by decide) (hts _ (List.mem_of_getElem? (i := 1) rfl)) (fun _ h9 => h9) rfl (by decide +kernel) rfl rfl (Nat.le_of_ble_eq_true rfl) dX2_insert_80 (fun H locs hP hD hS => ?_)
      have hP : va_P G vwCl [oX3 q ev_size, aI K (q 13) 12 ev_day, oX2 q y_4, aI K (q 21) 12 ca_served_3] H := hP
      have hD : va_D A [oX3 q ev_size, aI K (q 13) 12 ev_day, oX2 q y_4, aI K (q 21) 12 ca_served_3] := hD
      exact hRetV (S := (Nat → Int32) × Int32) (ca_served_3, y_4) hx hb hr hlocks hQ hw hP hK hD hS dX2_insert_83
    · replace hw := hw.2 c_1
      refine lv_aload_n (pc := 16) hx hb dX2_insert_16 rfl (lv_at hl 1 rfl) ?_
      refine va_getN (pc := 17) (D := G) (host := RX10) (ci := 3) (v := .ref (q 13)) (C := RX3) (T := TX3) (N := 6) hx hb hts iw_X2_insert_X3 hown hK hP 0 rfl rfl 0 (by decide) (hE.use 7 rfl) (fun _ h9 => h9) rfl dX2_insert_17 ?_
      refine lv_aload_n (pc := 20) hx hb dX2_insert_20 rfl (lv_at hl 0 rfl) ?_
      refine va_get (pc := 21) (D := G) (ci := 2) (v := .ref (q 21)) (C := RX2) (T := TX2) (N := 13) hx hb hts iw_X2_insert_X2 hown hK hP 2 rfl rfl 2 (by decide) (hts _ (List.mem_of_getElem? (i := 2) rfl)) (fun _ h9 => h9) rfl dX2_insert_21 ?_
      refine lv_iload (pc := 24) hx hb dX2_insert_24 (lv_at hl 4 rfl) ?_
      refine lv_iconst (pc := 26) (v := (1 : Int32)) hx hb dX2_insert_26 (by decide) ?_
      refine lv_isub (pc := 27) hx hb dX2_insert_27 ?_
      obtain ⟨h_5, hw⟩ := hw
      refine va_iald (pc := 28) hx hb hK hP 3 0 rfl rfl h_5 dX2_insert_28 ?_
      obtain ⟨h_6, hw⟩ := hw
      refine va_iald (pc := 29) hx hb hK hP 1 0 rfl rfl h_6 dX2_insert_29 ?_
      refine lv_aload_n (pc := 30) hx hb dX2_insert_30 rfl (lv_at hl 1 rfl) ?_
      refine va_getN (pc := 31) (D := G) (host := RX10) (ci := 3) (v := .ref (q 13)) (C := RX3) (T := TX3) (N := 6) hx hb hts iw_X2_insert_X3 hown hK hP 0 rfl rfl 0 (by decide) (hE.use 7 rfl) (fun _ h9 => h9) rfl dX2_insert_31 ?_
      refine lv_iload_n (pc := 34) hx hb dX2_insert_34 rfl (lv_at hl 2 rfl) ?_
      obtain ⟨h_7, hw⟩ := hw
      refine va_iald (pc := 35) hx hb hK hP 1 0 rfl rfl h_7 dX2_insert_35 ?_
      refine lv_icmp_le (pc := 36) (tgt := 66) hx hb dX2_insert_36 (by decide) (fun c_8 => ?_) (fun c_8 => ?_)
      · replace hw := hw.1 c_8
        refine lv_aload_n (pc := 66) hx hb dX2_insert_66 rfl (lv_at hl 0 rfl) ?_
        refine va_get (pc := 67) (D := G) (ci := 2) (v := .ref (q 21)) (C := RX2) (T := TX2) (N := 13) hx hb hts iw_X2_insert_X2 hown hK hP 2 rfl rfl 2 (by decide) (hts _ (List.mem_of_getElem? (i := 2) rfl)) (fun _ h9 => h9) rfl dX2_insert_67 ?_
        refine lv_iload_n (pc := 70) hx hb dX2_insert_70 rfl (lv_at hl 3 rfl) ?_
        refine lv_iload_n (pc := 71) hx hb dX2_insert_71 rfl (lv_at hl 2 rfl) ?_
        obtain ⟨h_9, hw⟩ := hw
        refine va_iast (pc := 72) hx hb hK hP hD hS 3 0 rfl rfl h_9 dX2_insert_72 (fun H locs hP hD hS => ?_)
        obtain ⟨ca_served_10, eca_served_10⟩ : ∃ z : Nat → Int32, z = upd ca_served x3.toNatClampNeg p2 := ⟨_, rfl⟩
        have hP : va_P G vwCl [oX3 q ev_size, aI K (q 13) 12 ev_day, oX2 q ca_size, aI K (q 21) 12 ca_served_10] H := by rw [eca_served_10]; exact hP
        have hD : va_D A [oX3 q ev_size, aI K (q 13) 12 ev_day, oX2 q ca_size, aI K (q 21) 12 ca_served_10] := by rw [eca_served_10]; exact hD
        replace hw := hw ca_served_10 eca_served_10
        refine lv_aload_n (pc := 73) hx hb dX2_insert_73 rfl (lv_at hl 0 rfl) ?_
        refine lv_dup (pc := 74) hx hb dX2_insert_74 rfl ?_
        refine va_get (pc := 75) (D := G) (ci := 2) (v := .int ca_size) (C := RX2) (T := TX2) (N := 13) hx hb hts iw_X2_insert_X2 hown hK hP 2 rfl rfl 4 (by decide) (hts _ (List.mem_of_getElem? (i := 1) rfl)) (fun _ h9 => h9) rfl dX2_insert_75 ?_
        refine lv_iconst (pc := 78) (v := (1 : Int32)) hx hb dX2_insert_78 (by decide) ?_
        refine lv_iadd (pc := 79) hx hb dX2_insert_79 ?_
        refine lv_topi (fun y_11 ey_11 => ?_)
        replace hw := hw y_11 ey_11
        refine va_put (pc := 80) (D := G) (ci := 2) (v := .int y_11) (ty := .int) (C := RX2) (T := TX2) (N := 13) hx hb hts iw_X2_insert_X2 tyX2 tyX2_ok nmX2 hown hK hP hD hS 2 rfl rfl 4 (by decide) (hts _ (List.mem_of_getElem? (i := 1) rfl)) (fun _ h9 => h9) rfl (by decide +kernel) rfl rfl (Nat.le_of_ble_eq_true rfl) dX2_insert_80 (fun H locs hP hD hS => ?_)
        have hP : va_P G vwCl [oX3 q ev_size, aI K (q 13) 12 ev_day, oX2 q y_11, aI K (q 21) 12 ca_served_10] H := hP
        have hD : va_D A [oX3 q ev_size, aI K (q 13) 12 ev_day, oX2 q y_11, aI K (q 21) 12 ca_served_10] := hD
        exact hRetV (S := (Nat → Int32) × Int32) (ca_served_10, y_11) hx hb hr hlocks hQ hw hP hK hD hS dX2_insert_83
      · replace hw := hw.2 c_8
        refine lv_aload_n (pc := 39) hx hb dX2_insert_39 rfl (lv_at hl 0 rfl) ?_
        refine va_get (pc := 40) (D := G) (ci := 2) (v := .ref (q 21)) (C := RX2) (T := TX2) (N := 13) hx hb hts iw_X2_insert_X2 hown hK hP 2 rfl rfl 2 (by decide) (hts _ (List.mem_of_getElem? (i := 2) rfl)) (fun _ h9 => h9) rfl dX2_insert_40 ?_
        refine lv_iload (pc := 43) hx hb dX2_insert_43 (lv_at hl 4 rfl) ?_
        refine lv_aload_n (pc := 45) hx hb dX2_insert_45 rfl (lv_at hl 0 rfl) ?_
        refine va_get (pc := 46) (D := G) (ci := 2) (v := .ref (q 21)) (C := RX2) (T := TX2) (N := 13) hx hb hts iw_X2_insert_X2 hown hK hP 2 rfl rfl 2 (by decide) (hts _ (List.mem_of_getElem? (i := 2) rfl)) (fun _ h9 => h9) rfl dX2_insert_46 ?_
        refine lv_iload (pc := 49) hx hb dX2_insert_49 (lv_at hl 4 rfl) ?_
        refine lv_iconst (pc := 51) (v := (1 : Int32)) hx hb dX2_insert_51 (by decide) ?_
        refine lv_isub (pc := 52) hx hb dX2_insert_52 ?_
        refine va_iald (pc := 53) hx hb hK hP 3 0 rfl rfl h_5 dX2_insert_53 ?_
        obtain ⟨h_12, hw⟩ := hw
        refine va_iast (pc := 54) hx hb hK hP hD hS 3 0 rfl rfl h_12 dX2_insert_54 (fun H locs hP hD hS => ?_)
        obtain ⟨ca_served_13, eca_served_13⟩ : ∃ z : Nat → Int32, z = upd ca_served x4.toNatClampNeg (ca_served (x4 - (1 : Int32)).toNatClampNeg) := ⟨_, rfl⟩
        have hP : va_P G vwCl [oX3 q ev_size, aI K (q 13) 12 ev_day, oX2 q ca_size, aI K (q 21) 12 ca_served_13] H := by rw [eca_served_13]; exact hP
        have hD : va_D A [oX3 q ev_size, aI K (q 13) 12 ev_day, oX2 q ca_size, aI K (q 21) 12 ca_served_13] := by rw [eca_served_13]; exact hD
        replace hw := hw ca_served_13 eca_served_13
        refine lv_iload (pc := 55) hx hb dX2_insert_55 (lv_at hl 4 rfl) ?_
        refine lv_iconst (pc := 57) (v := (1 : Int32)) hx hb dX2_insert_57 (by decide) ?_
        refine lv_isub (pc := 58) hx hb dX2_insert_58 ?_
        refine lv_topi (fun y_14 ey_14 => ?_)
        replace hw := hw y_14 ey_14
        refine lv_istore_n (pc := 59) (lv' := [(3, .int y_14), (0, .ref (q 18)), (1, .ref (q 12)), (2, .int p2), (4, .int x4)]) hx hb dX2_insert_59 rfl hl (by decide) rfl (fun ls hl => ?_)
        obtain ⟨y_15, ey_15⟩ : ∃ z : Int32, z = (x4 + (-1 : Int32)) := ⟨_, rfl⟩
        replace hw := hw y_15 ey_15
        refine lv_iinc (pc := 60) (v := y_15) (lv' := [(4, .int y_15), (3, .int y_14), (0, .ref (q 18)), (1, .ref (q 12)), (2, .int p2)]) hx hb dX2_insert_60 hl (k := 4) rfl (by rw [ey_15]; rfl) (by decide) rfl (fun ls hl => ?_)
        refine lv_goto (pc := 63) (tgt := 11) hx hb dX2_insert_63 (by decide) ?_
        exact hw _ _ _ hP hD hS (lv_sub hl [2, 3, 4, 1, 0] rfl))
  refine lv_aload_n (pc := 0) hx hb dX2_insert_0 rfl (lv_at hl 0 rfl) ?_
  refine va_get (pc := 1) (D := G) (ci := 2) (v := .int ca_size) (C := RX2) (T := TX2) (N := 13) hx hb hts iw_X2_insert_X2 hown hK hP 2 rfl rfl 4 (by decide) (hts _ (List.mem_of_getElem? (i := 1) rfl)) (fun _ h9 => h9) rfl dX2_insert_1 ?_
  refine lv_istore_n (pc := 4) (lv' := [(3, .int ca_size), (0, .ref (q 18)), (1, .ref (q 12)), (2, .int p2)]) hx hb dX2_insert_4 rfl hl (by decide) rfl (fun ls hl => ?_)
  refine lv_aload_n (pc := 5) hx hb dX2_insert_5 rfl (lv_at hl 1 rfl) ?_
  refine va_get (pc := 6) (D := G) (ci := 2) (v := .int ca_size) (C := RX2) (T := TX2) (N := 13) hx hb hts iw_X2_insert_X2 hown hK hP 2 rfl rfl 4 (by decide) (hts _ (List.mem_of_getElem? (i := 1) rfl)) (fun _ h9 => h9) rfl dX2_insert_6 ?_
  refine lv_istore (pc := 9) (lv' := [(4, .int ca_size), (3, .int ca_size), (0, .ref (q 18)), (1, .ref (q 12)), (2, .int p2)]) hx hb dX2_insert_9 hl (by decide) rfl (fun ls hl => ?_)
  exact hw _ _ _ hP hD hS (lv_sub hl [2, 3, 4, 1, 0] rfl)
def P_X2_gather (post : (Nat → Int32) → (Nat → Int32) → Int32 → Prop) (p2 : Int32) (p3 : Int32) (ev_day : Nat → Int32) (ev_kind : Nat → Int32) (ev_on : Nat → Int32) (ev_size : Int32) (ca_served : Nat → Int32) (ca_rank : Nat → Int32) (ca_size : Int32) : Prop :=
  ∀ (X8 : Int32 → (Nat → Int32) → (Nat → Int32) → Int32 → Prop),
  ∀ (X60 : Int32 → (Nat → Int32) → (Nat → Int32) → Int32 → Prop),
  ∀ (X107 : Int32 → (Nat → Int32) → (Nat → Int32) → Int32 → Prop),
  (∀ (x4 : Int32) (ca_served : Nat → Int32) (ca_rank : Nat → Int32) (ca_size : Int32), (((ev_size ≤ x4 → X60 (0 : Int32) ca_served ca_rank ca_size) ∧ (¬ ev_size ≤ x4 → vp_in x4 12 ∧ (((ev_on x4.toNatClampNeg) = (0 : Int32) → ∀ y_4 : Int32, y_4 = (x4 + (1 : Int32)) → X8 y_4 ca_served ca_rank ca_size) ∧ (¬ (ev_on x4.toNatClampNeg) = (0 : Int32) → (((ev_kind x4.toNatClampNeg) = p2 → ((x4 = p3 → ∀ y_8 : Int32, y_8 = (x4 + (1 : Int32)) → X8 y_8 ca_served ca_rank ca_size) ∧ (¬ x4 = p3 → P_X2_insert (fun ca_served_9 ca_size_10 => ∀ y_11 : Int32, y_11 = (x4 + (1 : Int32)) → X8 y_11 ca_served_9 ca_rank ca_size_10) x4 ev_day ca_served ca_size))) ∧ (¬ (ev_kind x4.toNatClampNeg) = p2 → ∀ y_6 : Int32, y_6 = (x4 + (1 : Int32)) → X8 y_6 ca_served ca_rank ca_size))))))) → X8 x4 ca_served ca_rank ca_size) →
  (∀ (x4 : Int32) (ca_served : Nat → Int32) (ca_rank : Nat → Int32) (ca_size : Int32), (((ca_size ≤ x4 → post ca_served ca_rank ca_size) ∧ (¬ ca_size ≤ x4 → ((x4 ≤ (0 : Int32) → X107 x4 ca_served ca_rank ca_size) ∧ (¬ x4 ≤ (0 : Int32) → vp_in x4 12 ∧ vp_in (ca_served x4.toNatClampNeg) 12 ∧ vp_in (x4 - (1 : Int32)) 12 ∧ vp_in (ca_served (x4 - (1 : Int32)).toNatClampNeg) 12 ∧ (((ev_day (ca_served x4.toNatClampNeg).toNatClampNeg) = (ev_day (ca_served (x4 - (1 : Int32)).toNatClampNeg).toNatClampNeg) → ∀ v_21 : Int32, v_21 = (if x4 = (0 : Int32) then (0 : Int32) else (if (1 : Int32) = (0 : Int32) then ((ca_rank (x4 - (1 : Int32)).toNatClampNeg) + (1 : Int32)) else ((ca_rank (x4 - (1 : Int32)).toNatClampNeg) + (0 : Int32)))) → ∀ ca_rank_22 : Nat → Int32, ca_rank_22 = upd ca_rank x4.toNatClampNeg v_21 → ∀ y_23 : Int32, y_23 = (x4 + (1 : Int32)) → X60 y_23 ca_served ca_rank_22 ca_size) ∧ (¬ (ev_day (ca_served x4.toNatClampNeg).toNatClampNeg) = (ev_day (ca_served (x4 - (1 : Int32)).toNatClampNeg).toNatClampNeg) → X107 x4 ca_served ca_rank ca_size))))))) → X60 x4 ca_served ca_rank ca_size) →
  (∀ (x4 : Int32) (ca_served : Nat → Int32) (ca_rank : Nat → Int32) (ca_size : Int32), (((x4 = (0 : Int32) → True) ∧ (¬ x4 = (0 : Int32) → (vp_in (x4 - (1 : Int32)) 12 ∧ (((0 : Int32) = (0 : Int32) → True) ∧ (¬ (0 : Int32) = (0 : Int32) → True))))) ∧ ∀ v_27 : Int32, v_27 = (if x4 = (0 : Int32) then (0 : Int32) else (if (0 : Int32) = (0 : Int32) then ((ca_rank (x4 - (1 : Int32)).toNatClampNeg) + (1 : Int32)) else ((ca_rank (x4 - (1 : Int32)).toNatClampNeg) + (0 : Int32)))) → vp_in x4 12 ∧ ∀ ca_rank_29 : Nat → Int32, ca_rank_29 = upd ca_rank x4.toNatClampNeg v_27 → ∀ y_30 : Int32, y_30 = (x4 + (1 : Int32)) → X60 y_30 ca_served ca_rank_29 ca_size) → X107 x4 ca_served ca_rank ca_size) →
  X8 (0 : Int32) ca_served ca_rank (0 : Int32)
abbrev rm_X2_gather : Room := { frames := 1, cells := 0, slots := 0, locals := 24 }
theorem iw_X2_gather_X2 : ∀ w ∈ wsX20, w ∈ wsX2_gather := by decide +kernel
theorem iw_X2_gather_X3 : ∀ w ∈ wsX30, w ∈ wsX2_gather := by decide +kernel
set_option maxHeartbeats 4000000 in
set_option maxRecDepth 100000 in
theorem c_X2_gather (l : Launch) (G : va_G) (K : ClassId × ClassId × ClassId) (tb q : Nat → Nat) (sz : Nat) (post : (Nat → Int32) → (Nat → Int32) → Int32 → Prop) (p2 : Int32) (p3 : Int32) (ev_day : Nat → Int32) (ev_kind : Nat → Int32) (ev_on : Nat → Int32) (ev_size : Int32) (ca_served : Nat → Int32) (ca_rank : Nat → Int32) (ca_size : Int32) (hw : P_X2_gather post p2 p3 ev_day ev_kind ev_on ev_size ca_served ca_rank ca_size) : Met l yX2_gather wsX2_gather rm_X2_gather (va_Pc [.ref (q 18), .ref (q 12), .int p2, .int p3] (hPre G K tb [oX3 q ev_size, aI K (q 13) 12 ev_day, aI K (q 15) 12 ev_kind, aZ K (q 17) 12 ev_on, oX2 q ca_size, aI K (q 21) 12 ca_served, aI K (q 22) 12 ca_rank] sz)) (va_Qv (fun (u : (Nat → Int32) × (Nat → Int32) × Int32) => post u.1 u.2.1 u.2.2) (fun u => hB G K (va_A [oX3 q ev_size, aI K (q 13) 12 ev_day, aI K (q 15) 12 ev_kind, aZ K (q 17) 12 ev_on, oX2 q ca_size, aI K (q 21) 12 ca_served, aI K (q 22) 12 ca_rank] sz) [oX3 q ev_size, aI K (q 13) 12 ev_day, aI K (q 15) 12 ev_kind, aZ K (q 17) 12 ev_on, oX2 q u.2.2, aI K (q 21) 12 u.1, aI K (q 22) 12 u.2.1]) (va_A [oX3 q ev_size, aI K (q 13) 12 ev_day, aI K (q 15) 12 ev_kind, aZ K (q 17) 12 ev_on, oX2 q ca_size, aI K (q 21) 12 ca_served, aI K (q 22) 12 ca_rank] sz)) 0 0 (va_A [oX3 q ev_size, aI K (q 13) 12 ev_day, aI K (q 15) 12 ev_kind, aZ K (q 17) 12 ev_on, oX2 q ca_size, aI K (q 21) 12 ca_served, aI K (q 22) 12 ca_rank] sz) := by
  refine hMet (fun A => va_Qv (fun (u : (Nat → Int32) × (Nat → Int32) × Int32) => post u.1 u.2.1 u.2.2) (fun u => hB G K A [oX3 q ev_size, aI K (q 13) 12 ev_day, aI K (q 15) 12 ev_kind, aZ K (q 17) 12 ev_on, oX2 q u.2.2, aI K (q 21) 12 u.1, aI K (q 22) 12 u.2.1]) A) (by decide) rfl (Nat.le_of_ble_eq_true rfl) ?_
  intro p e s m av below meth c A Q ls hx hb hr hml hts hown hlocks hnm hA hP hK hD hS hE hQ hl
  have hts : ∀ w ∈ wsX2_gather, w.before av s = true := hts
  have hown : s.vm.findClass RX2 = some m.cls := hown
  have hl : lv_has ls 6 [(0, .ref (q 18)), (1, .ref (q 12)), (2, .int p2), (3, .int p3)] := hl
  unfold P_X2_gather at hw
  replace hw := hw (fun (x4 : Int32) (ca_served : Nat → Int32) (ca_rank : Nat → Int32) (ca_size : Int32) => ∀ (H : Heap) (locs : List Loc) (ls : Array Slot), va_P G vwCl [oX3 q ev_size, aI K (q 13) 12 ev_day, aI K (q 15) 12 ev_kind, aZ K (q 17) 12 ev_on, oX2 q ca_size, aI K (q 21) 12 ca_served, aI K (q 22) 12 ca_rank] H → va_D A [oX3 q ev_size, aI K (q 13) 12 ev_day, aI K (q 15) 12 ev_kind, aZ K (q 17) 12 ev_on, oX2 q ca_size, aI K (q 21) 12 ca_served, aI K (q 22) 12 ca_rank] → va_S A s.heap H locs → lv_has ls 6 [(0, .ref (q 18)), (1, .ref (q 12)), (2, .int p2), (3, .int p3), (4, .int x4)] → W p l e rm_X2_gather s m av below meth c H locs 0 0 Q (F0 m 8 ls []))
  replace hw := hw (fun (x4 : Int32) (ca_served : Nat → Int32) (ca_rank : Nat → Int32) (ca_size : Int32) => ∀ (H : Heap) (locs : List Loc) (ls : Array Slot), va_P G vwCl [oX3 q ev_size, aI K (q 13) 12 ev_day, aI K (q 15) 12 ev_kind, aZ K (q 17) 12 ev_on, oX2 q ca_size, aI K (q 21) 12 ca_served, aI K (q 22) 12 ca_rank] H → va_D A [oX3 q ev_size, aI K (q 13) 12 ev_day, aI K (q 15) 12 ev_kind, aZ K (q 17) 12 ev_on, oX2 q ca_size, aI K (q 21) 12 ca_served, aI K (q 22) 12 ca_rank] → va_S A s.heap H locs → lv_has ls 6 [(0, .ref (q 18)), (1, .ref (q 12)), (4, .int x4)] → W p l e rm_X2_gather s m av below meth c H locs 0 0 Q (F0 m 60 ls []))
  replace hw := hw (fun (x4 : Int32) (ca_served : Nat → Int32) (ca_rank : Nat → Int32) (ca_size : Int32) => ∀ (H : Heap) (locs : List Loc) (ls : Array Slot), va_P G vwCl [oX3 q ev_size, aI K (q 13) 12 ev_day, aI K (q 15) 12 ev_kind, aZ K (q 17) 12 ev_on, oX2 q ca_size, aI K (q 21) 12 ca_served, aI K (q 22) 12 ca_rank] H → va_D A [oX3 q ev_size, aI K (q 13) 12 ev_day, aI K (q 15) 12 ev_kind, aZ K (q 17) 12 ev_on, oX2 q ca_size, aI K (q 21) 12 ca_served, aI K (q 22) 12 ca_rank] → va_S A s.heap H locs → lv_has ls 6 [(0, .ref (q 18)), (1, .ref (q 12)), (4, .int x4)] → W p l e rm_X2_gather s m av below meth c H locs 0 0 Q (F0 m 107 ls []))
  replace hw := hw (by
    intro x4 ca_served ca_rank ca_size hw H locs ls hP hD hS hl
    refine lv_iload (pc := 8) hx hb dX2_gather_8 (lv_at hl 4 rfl) ?_
    refine lv_aload_n (pc := 10) hx hb dX2_gather_10 rfl (lv_at hl 1 rfl) ?_
    refine va_getN (pc := 11) (D := G) (host := RX10) (ci := 3) (v := .int ev_size) (C := RX3) (T := TX3) (N := 6) hx hb hts iw_X2_gather_X3 hown hK hP 0 rfl rfl 5 (by decide) (hE.use 14 rfl) (fun _ h9 => h9) rfl dX2_gather_11 ?_
    refine lv_icmp_ge (pc := 14) (tgt := 57) hx hb dX2_gather_14 (by decide) (fun c_1 => ?_) (fun c_1 => ?_)
    · replace hw := hw.1 c_1
      refine lv_iconst (pc := 57) (v := (0 : Int32)) hx hb dX2_gather_57 (by decide) ?_
      refine lv_istore (pc := 58) (lv' := [(4, .int (0 : Int32)), (0, .ref (q 18)), (1, .ref (q 12)), (2, .int p2), (3, .int p3)]) hx hb dX2_gather_58 hl (by decide) rfl (fun ls hl => ?_)
      exact hw _ _ _ hP hD hS (lv_sub hl [1, 2, 0] rfl)
    · replace hw := hw.2 c_1
      refine lv_aload_n (pc := 17) hx hb dX2_gather_17 rfl (lv_at hl 1 rfl) ?_
      refine va_getN (pc := 18) (D := G) (host := RX10) (ci := 3) (v := .ref (q 17)) (C := RX3) (T := TX3) (N := 6) hx hb hts iw_X2_gather_X3 hown hK hP 0 rfl rfl 4 (by decide) (hE.use 12 rfl) (fun _ h9 => h9) rfl dX2_gather_18 ?_
      refine lv_iload (pc := 21) hx hb dX2_gather_21 (lv_at hl 4 rfl) ?_
      obtain ⟨h_2, hw⟩ := hw
      refine va_zald (pc := 23) hx hb hK hP 3 2 rfl rfl h_2 dX2_gather_23 ?_
      refine lv_if_eq (pc := 24) (tgt := 51) hx hb dX2_gather_24 (by decide) (fun c_3 => ?_) (fun c_3 => ?_)
      · replace hw := hw.1 c_3
        obtain ⟨y_4, ey_4⟩ : ∃ z : Int32, z = (x4 + (1 : Int32)) := ⟨_, rfl⟩
        replace hw := hw y_4 ey_4
        refine lv_iinc (pc := 51) (v := y_4) (lv' := [(4, .int y_4), (0, .ref (q 18)), (1, .ref (q 12)), (2, .int p2), (3, .int p3)]) hx hb dX2_gather_51 hl (k := 4) rfl (by rw [ey_4]; rfl) (by decide) rfl (fun ls hl => ?_)
        refine lv_goto (pc := 54) (tgt := 8) hx hb dX2_gather_54 (by decide) ?_
        exact hw _ _ _ hP hD hS (lv_sub hl [1, 2, 3, 4, 0] rfl)
      · replace hw := hw.2 c_3
        refine lv_aload_n (pc := 27) hx hb dX2_gather_27 rfl (lv_at hl 1 rfl) ?_
        refine va_getN (pc := 28) (D := G) (host := RX10) (ci := 3) (v := .ref (q 15)) (C := RX3) (T := TX3) (N := 6) hx hb hts iw_X2_gather_X3 hown hK hP 0 rfl rfl 2 (by decide) (hE.use 9 rfl) (fun _ h9 => h9) rfl dX2_gather_28 ?_
        refine lv_iload (pc := 31) hx hb dX2_gather_31 (lv_at hl 4 rfl) ?_
        refine va_iald (pc := 33) hx hb hK hP 2 0 rfl rfl h_2 dX2_gather_33 ?_
        refine lv_iload_n (pc := 34) hx hb dX2_gather_34 rfl (lv_at hl 2 rfl) ?_
        refine lv_icmp_ne (pc := 35) (tgt := 51) hx hb dX2_gather_35 (by decide) (fun c_5 => ?_) (fun c_5 => ?_)
        · replace hw := hw.2 c_5
          obtain ⟨y_6, ey_6⟩ : ∃ z : Int32, z = (x4 + (1 : Int32)) := ⟨_, rfl⟩
          replace hw := hw y_6 ey_6
          refine lv_iinc (pc := 51) (v := y_6) (lv' := [(4, .int y_6), (0, .ref (q 18)), (1, .ref (q 12)), (2, .int p2), (3, .int p3)]) hx hb dX2_gather_51 hl (k := 4) rfl (by rw [ey_6]; rfl) (by decide) rfl (fun ls hl => ?_)
          refine lv_goto (pc := 54) (tgt := 8) hx hb dX2_gather_54 (by decide) ?_
          exact hw _ _ _ hP hD hS (lv_sub hl [1, 2, 3, 4, 0] rfl)
        · replace hw := hw.1 c_5
          refine lv_iload (pc := 38) hx hb dX2_gather_38 (lv_at hl 4 rfl) ?_
          refine lv_iload_n (pc := 40) hx hb dX2_gather_40 rfl (lv_at hl 3 rfl) ?_
          refine lv_icmp_eq (pc := 41) (tgt := 51) hx hb dX2_gather_41 (by decide) (fun c_7 => ?_) (fun c_7 => ?_)
          · replace hw := hw.1 c_7
            obtain ⟨y_8, ey_8⟩ : ∃ z : Int32, z = (x4 + (1 : Int32)) := ⟨_, rfl⟩
            replace hw := hw y_8 ey_8
            refine lv_iinc (pc := 51) (v := y_8) (lv' := [(4, .int y_8), (0, .ref (q 18)), (1, .ref (q 12)), (2, .int p2), (3, .int p3)]) hx hb dX2_gather_51 hl (k := 4) rfl (by rw [ey_8]; rfl) (by decide) rfl (fun ls hl => ?_)
            refine lv_goto (pc := 54) (tgt := 8) hx hb dX2_gather_54 (by decide) ?_
            exact hw _ _ _ hP hD hS (lv_sub hl [1, 2, 3, 4, 0] rfl)
          · replace hw := hw.2 c_7
            refine lv_aload_n (pc := 44) hx hb dX2_gather_44 rfl (lv_at hl 0 rfl) ?_
            refine lv_aload_n (pc := 45) hx hb dX2_gather_45 rfl (lv_at hl 1 rfl) ?_
            refine lv_iload (pc := 46) hx hb dX2_gather_46 (lv_at hl 4 rfl) ?_
            refine hCallV (pc := 48) (wr := [aI K (q 15) 12 ev_kind, aZ K (q 17) 12 ev_on, aI K (q 22) 12 ca_rank]) (wsf := fun (u : (Nat → Int32) × Int32) => [oX3 q ev_size, aI K (q 13) 12 ev_day, oX2 q u.2, aI K (q 21) 12 u.1]) [0, 1, 4, 5] [2, 3, 6] (va_runV (As := [.ref (q 12), .int x4]) (rest := []) ⟨hx, hb, hml, hown, hts⟩ (c_X2_insert l G K tb q H.size ev_size _ x4 ev_day ca_served ca_size hw) (cwV 2 hts gX2_gather_X2_insert rfl rfl rfl (by decide +kernel) ⟨Nat.le_of_ble_eq_true rfl, Nat.le_of_ble_eq_true rfl⟩) (hPreV hE hP hK hD hS hA [0, 1, 4, 5] (by decide) rfl rfl rfl rfl (q0 := 4) (ci := 2) rfl) rfl rfl hl.1 rfl (lv_room (Nat.le_of_ble_eq_true rfl)) dX2_gather_48 ⟨Nat.zero_le _, Nat.zero_le _⟩) hP hD hS hA rfl rfl (by decide) (by decide) (fun u H locs hw hP hD hS => ?_)
            obtain ⟨ca_served_9, ca_size_10⟩ := u
            have hP : va_P G vwCl [oX3 q ev_size, aI K (q 13) 12 ev_day, aI K (q 15) 12 ev_kind, aZ K (q 17) 12 ev_on, oX2 q ca_size_10, aI K (q 21) 12 ca_served_9, aI K (q 22) 12 ca_rank] H := hP.sub [3, 4, 0, 1, 5, 6, 2] rfl
            have hD : va_D A [oX3 q ev_size, aI K (q 13) 12 ev_day, aI K (q 15) 12 ev_kind, aZ K (q 17) 12 ev_on, oX2 q ca_size_10, aI K (q 21) 12 ca_served_9, aI K (q 22) 12 ca_rank] := hD.sub [3, 4, 0, 1, 5, 6, 2] (by decide) rfl
            obtain ⟨y_11, ey_11⟩ : ∃ z : Int32, z = (x4 + (1 : Int32)) := ⟨_, rfl⟩
            replace hw := hw y_11 ey_11
            refine lv_iinc (pc := 51) (v := y_11) (lv' := [(4, .int y_11), (0, .ref (q 18)), (1, .ref (q 12)), (2, .int p2), (3, .int p3)]) hx hb dX2_gather_51 hl (k := 4) rfl (by rw [ey_11]; rfl) (by decide) rfl (fun ls hl => ?_)
            refine lv_goto (pc := 54) (tgt := 8) hx hb dX2_gather_54 (by decide) ?_
            exact hw _ _ _ hP hD hS (lv_sub hl [1, 2, 3, 4, 0] rfl))
  replace hw := hw (by
    intro x4 ca_served ca_rank ca_size hw H locs ls hP hD hS hl
    refine lv_iload (pc := 60) hx hb dX2_gather_60 (lv_at hl 2 rfl) ?_
    refine lv_aload_n (pc := 62) hx hb dX2_gather_62 rfl (lv_at hl 0 rfl) ?_
    refine va_get (pc := 63) (D := G) (ci := 2) (v := .int ca_size) (C := RX2) (T := TX2) (N := 13) hx hb hts iw_X2_gather_X2 hown hK hP 4 rfl rfl 4 (by decide) (hts _ (List.mem_of_getElem? (i := 1) rfl)) (fun _ h9 => h9) rfl dX2_gather_63 ?_
    refine lv_icmp_ge (pc := 66) (tgt := 152) hx hb dX2_gather_66 (by decide) (fun c_12 => ?_) (fun c_12 => ?_)
    · replace hw := hw.1 c_12
      exact hRetV (S := (Nat → Int32) × (Nat → Int32) × Int32) (ca_served, ca_rank, ca_size) hx hb hr hlocks hQ hw hP hK hD hS dX2_gather_152
    · replace hw := hw.2 c_12
      refine lv_iload (pc := 69) hx hb dX2_gather_69 (lv_at hl 2 rfl) ?_
      refine lv_if_le (pc := 71) (tgt := 107) hx hb dX2_gather_71 (by decide) (fun c_13 => ?_) (fun c_13 => ?_)
      · replace hw := hw.1 c_13
        exact hw _ _ _ hP hD hS (lv_sub hl [0, 1, 2] rfl)
      · replace hw := hw.2 c_13
        refine lv_aload_n (pc := 74) hx hb dX2_gather_74 rfl (lv_at hl 1 rfl) ?_
        refine va_getN (pc := 75) (D := G) (host := RX10) (ci := 3) (v := .ref (q 13)) (C := RX3) (T := TX3) (N := 6) hx hb hts iw_X2_gather_X3 hown hK hP 0 rfl rfl 0 (by decide) (hE.use 7 rfl) (fun _ h9 => h9) rfl dX2_gather_75 ?_
        refine lv_aload_n (pc := 78) hx hb dX2_gather_78 rfl (lv_at hl 0 rfl) ?_
        refine va_get (pc := 79) (D := G) (ci := 2) (v := .ref (q 21)) (C := RX2) (T := TX2) (N := 13) hx hb hts iw_X2_gather_X2 hown hK hP 4 rfl rfl 2 (by decide) (hts _ (List.mem_of_getElem? (i := 2) rfl)) (fun _ h9 => h9) rfl dX2_gather_79 ?_
        refine lv_iload (pc := 82) hx hb dX2_gather_82 (lv_at hl 2 rfl) ?_
        obtain ⟨h_14, hw⟩ := hw
        refine va_iald (pc := 84) hx hb hK hP 5 0 rfl rfl h_14 dX2_gather_84 ?_
        obtain ⟨h_15, hw⟩ := hw
        refine va_iald (pc := 85) hx hb hK hP 1 0 rfl rfl h_15 dX2_gather_85 ?_
        refine lv_aload_n (pc := 86) hx hb dX2_gather_86 rfl (lv_at hl 1 rfl) ?_
        refine va_getN (pc := 87) (D := G) (host := RX10) (ci := 3) (v := .ref (q 13)) (C := RX3) (T := TX3) (N := 6) hx hb hts iw_X2_gather_X3 hown hK hP 0 rfl rfl 0 (by decide) (hE.use 7 rfl) (fun _ h9 => h9) rfl dX2_gather_87 ?_
        refine lv_aload_n (pc := 90) hx hb dX2_gather_90 rfl (lv_at hl 0 rfl) ?_
        refine va_get (pc := 91) (D := G) (ci := 2) (v := .ref (q 21)) (C := RX2) (T := TX2) (N := 13) hx hb hts iw_X2_gather_X2 hown hK hP 4 rfl rfl 2 (by decide) (hts _ (List.mem_of_getElem? (i := 2) rfl)) (fun _ h9 => h9) rfl dX2_gather_91 ?_
        refine lv_iload (pc := 94) hx hb dX2_gather_94 (lv_at hl 2 rfl) ?_
        refine lv_iconst (pc := 96) (v := (1 : Int32)) hx hb dX2_gather_96 (by decide) ?_
        refine lv_isub (pc := 97) hx hb dX2_gather_97 ?_
        obtain ⟨h_16, hw⟩ := hw
        refine va_iald (pc := 98) hx hb hK hP 5 0 rfl rfl h_16 dX2_gather_98 ?_
        obtain ⟨h_17, hw⟩ := hw
        refine va_iald (pc := 99) hx hb hK hP 1 0 rfl rfl h_17 dX2_gather_99 ?_
        refine lv_icmp_ne (pc := 100) (tgt := 107) hx hb dX2_gather_100 (by decide) (fun c_18 => ?_) (fun c_18 => ?_)
        · replace hw := hw.2 c_18
          exact hw _ _ _ hP hD hS (lv_sub hl [0, 1, 2] rfl)
        · replace hw := hw.1 c_18
          refine lv_iconst (pc := 103) (v := (1 : Int32)) hx hb dX2_gather_103 (by decide) ?_
          refine lv_goto (pc := 104) (tgt := 108) hx hb dX2_gather_104 (by decide) ?_
          refine lv_istore (pc := 108) (lv' := [(5, .int (1 : Int32)), (0, .ref (q 18)), (1, .ref (q 12)), (4, .int x4)]) hx hb dX2_gather_108 hl (by decide) rfl (fun ls hl => ?_)
          refine lv_aload_n (pc := 110) hx hb dX2_gather_110 rfl (lv_at hl 1 rfl) ?_
          refine va_get (pc := 111) (D := G) (ci := 2) (v := .ref (q 22)) (C := RX2) (T := TX2) (N := 13) hx hb hts iw_X2_gather_X2 hown hK hP 4 rfl rfl 3 (by decide) (hts _ (List.mem_of_getElem? (i := 3) rfl)) (fun _ h9 => h9) rfl dX2_gather_111 ?_
          refine lv_iload (pc := 114) hx hb dX2_gather_114 (lv_at hl 3 rfl) ?_
          refine lv_iload (pc := 116) hx hb dX2_gather_116 (lv_at hl 3 rfl) ?_
          have K_v_21 : ∀ v_21 : Int32, v_21 = (if x4 = (0 : Int32) then (0 : Int32) else (if (1 : Int32) = (0 : Int32) then ((ca_rank (x4 - (1 : Int32)).toNatClampNeg) + (1 : Int32)) else ((ca_rank (x4 - (1 : Int32)).toNatClampNeg) + (0 : Int32)))) → W p l e rm_X2_gather s m av below meth c H locs 0 0 Q (F0 m 145 ls [.int v_21, .int x4, .ref (q 22)]) := by
            intro v_21 ev_21
            replace hw := hw v_21 ev_21
            refine va_iast (pc := 145) hx hb hK hP hD hS 6 0 rfl rfl h_14 dX2_gather_145 (fun H locs hP hD hS => ?_)
            obtain ⟨ca_rank_22, eca_rank_22⟩ : ∃ z : Nat → Int32, z = upd ca_rank x4.toNatClampNeg v_21 := ⟨_, rfl⟩
            have hP : va_P G vwCl [oX3 q ev_size, aI K (q 13) 12 ev_day, aI K (q 15) 12 ev_kind, aZ K (q 17) 12 ev_on, oX2 q ca_size, aI K (q 21) 12 ca_served, aI K (q 22) 12 ca_rank_22] H := by rw [eca_rank_22]; exact hP
            have hD : va_D A [oX3 q ev_size, aI K (q 13) 12 ev_day, aI K (q 15) 12 ev_kind, aZ K (q 17) 12 ev_on, oX2 q ca_size, aI K (q 21) 12 ca_served, aI K (q 22) 12 ca_rank_22] := by rw [eca_rank_22]; exact hD
            replace hw := hw ca_rank_22 eca_rank_22
            obtain ⟨y_23, ey_23⟩ : ∃ z : Int32, z = (x4 + (1 : Int32)) := ⟨_, rfl⟩
            replace hw := hw y_23 ey_23
            refine lv_iinc (pc := 146) (v := y_23) (lv' := [(4, .int y_23), (5, .int (1 : Int32)), (0, .ref (q 18)), (1, .ref (q 12))]) hx hb dX2_gather_146 hl (k := 3) rfl (by rw [ey_23]; rfl) (by decide) rfl (fun ls hl => ?_)
            refine lv_goto (pc := 149) (tgt := 60) hx hb dX2_gather_149 (by decide) ?_
            exact hw _ _ _ hP hD hS (lv_sub hl [2, 3, 0] rfl)
          refine lv_if_ne (pc := 118) (tgt := 125) hx hb dX2_gather_118 (by decide) (fun c_19 => ?_) (fun c_19 => ?_)
          · skip
            refine lv_aload_n (pc := 125) hx hb dX2_gather_125 rfl (lv_at hl 1 rfl) ?_
            refine va_get (pc := 126) (D := G) (ci := 2) (v := .ref (q 22)) (C := RX2) (T := TX2) (N := 13) hx hb hts iw_X2_gather_X2 hown hK hP 4 rfl rfl 3 (by decide) (hts _ (List.mem_of_getElem? (i := 3) rfl)) (fun _ h9 => h9) rfl dX2_gather_126 ?_
            refine lv_iload (pc := 129) hx hb dX2_gather_129 (lv_at hl 3 rfl) ?_
            refine lv_iconst (pc := 131) (v := (1 : Int32)) hx hb dX2_gather_131 (by decide) ?_
            refine lv_isub (pc := 132) hx hb dX2_gather_132 ?_
            refine va_iald (pc := 133) hx hb hK hP 6 0 rfl rfl h_16 dX2_gather_133 ?_
            refine lv_iload (pc := 134) hx hb dX2_gather_134 (lv_at hl 0 rfl) ?_
            refine lv_if_eq (pc := 136) (tgt := 143) hx hb dX2_gather_136 (by decide) (fun c_20 => ?_) (fun c_20 => ?_)
            · skip
              refine lv_iconst (pc := 143) (v := (1 : Int32)) hx hb dX2_gather_143 (by decide) ?_
              refine lv_iadd (pc := 144) hx hb dX2_gather_144 ?_
              exact K_v_21 _ (by rw [if_neg c_19, if_pos c_20])
            · skip
              refine lv_iconst (pc := 139) (v := (0 : Int32)) hx hb dX2_gather_139 (by decide) ?_
              refine lv_goto (pc := 140) (tgt := 144) hx hb dX2_gather_140 (by decide) ?_
              refine lv_iadd (pc := 144) hx hb dX2_gather_144 ?_
              exact K_v_21 _ (by rw [if_neg c_19, if_neg c_20])
          · skip
            refine lv_iconst (pc := 121) (v := (0 : Int32)) hx hb dX2_gather_121 (by decide) ?_
            refine lv_goto (pc := 122) (tgt := 145) hx hb dX2_gather_122 (by decide) ?_
            exact K_v_21 _ (by rw [if_pos c_19]))
  replace hw := hw (by
    intro x4 ca_served ca_rank ca_size hw H locs ls hP hD hS hl
    refine lv_iconst (pc := 107) (v := (0 : Int32)) hx hb dX2_gather_107 (by decide) ?_
    refine lv_istore (pc := 108) (lv' := [(5, .int (0 : Int32)), (0, .ref (q 18)), (1, .ref (q 12)), (4, .int x4)]) hx hb dX2_gather_108 hl (by decide) rfl (fun ls hl => ?_)
    refine lv_aload_n (pc := 110) hx hb dX2_gather_110 rfl (lv_at hl 1 rfl) ?_
    refine va_get (pc := 111) (D := G) (ci := 2) (v := .ref (q 22)) (C := RX2) (T := TX2) (N := 13) hx hb hts iw_X2_gather_X2 hown hK hP 4 rfl rfl 3 (by decide) (hts _ (List.mem_of_getElem? (i := 3) rfl)) (fun _ h9 => h9) rfl dX2_gather_111 ?_
    refine lv_iload (pc := 114) hx hb dX2_gather_114 (lv_at hl 3 rfl) ?_
    refine lv_iload (pc := 116) hx hb dX2_gather_116 (lv_at hl 3 rfl) ?_
    obtain ⟨hsf, hw⟩ := hw
    have K_v_27 : ∀ v_27 : Int32, v_27 = (if x4 = (0 : Int32) then (0 : Int32) else (if (0 : Int32) = (0 : Int32) then ((ca_rank (x4 - (1 : Int32)).toNatClampNeg) + (1 : Int32)) else ((ca_rank (x4 - (1 : Int32)).toNatClampNeg) + (0 : Int32)))) → W p l e rm_X2_gather s m av below meth c H locs 0 0 Q (F0 m 145 ls [.int v_27, .int x4, .ref (q 22)]) := by
      intro v_27 ev_27
      replace hw := hw v_27 ev_27
      obtain ⟨h_28, hw⟩ := hw
      refine va_iast (pc := 145) hx hb hK hP hD hS 6 0 rfl rfl h_28 dX2_gather_145 (fun H locs hP hD hS => ?_)
      obtain ⟨ca_rank_29, eca_rank_29⟩ : ∃ z : Nat → Int32, z = upd ca_rank x4.toNatClampNeg v_27 := ⟨_, rfl⟩
      have hP : va_P G vwCl [oX3 q ev_size, aI K (q 13) 12 ev_day, aI K (q 15) 12 ev_kind, aZ K (q 17) 12 ev_on, oX2 q ca_size, aI K (q 21) 12 ca_served, aI K (q 22) 12 ca_rank_29] H := by rw [eca_rank_29]; exact hP
      have hD : va_D A [oX3 q ev_size, aI K (q 13) 12 ev_day, aI K (q 15) 12 ev_kind, aZ K (q 17) 12 ev_on, oX2 q ca_size, aI K (q 21) 12 ca_served, aI K (q 22) 12 ca_rank_29] := by rw [eca_rank_29]; exact hD
      replace hw := hw ca_rank_29 eca_rank_29
      obtain ⟨y_30, ey_30⟩ : ∃ z : Int32, z = (x4 + (1 : Int32)) := ⟨_, rfl⟩
      replace hw := hw y_30 ey_30
      refine lv_iinc (pc := 146) (v := y_30) (lv' := [(4, .int y_30), (5, .int (0 : Int32)), (0, .ref (q 18)), (1, .ref (q 12))]) hx hb dX2_gather_146 hl (k := 3) rfl (by rw [ey_30]; rfl) (by decide) rfl (fun ls hl => ?_)
      refine lv_goto (pc := 149) (tgt := 60) hx hb dX2_gather_149 (by decide) ?_
      exact hw _ _ _ hP hD hS (lv_sub hl [2, 3, 0] rfl)
    refine lv_if_ne (pc := 118) (tgt := 125) hx hb dX2_gather_118 (by decide) (fun c_24 => ?_) (fun c_24 => ?_)
    · replace hsf := hsf.2 c_24
      refine lv_aload_n (pc := 125) hx hb dX2_gather_125 rfl (lv_at hl 1 rfl) ?_
      refine va_get (pc := 126) (D := G) (ci := 2) (v := .ref (q 22)) (C := RX2) (T := TX2) (N := 13) hx hb hts iw_X2_gather_X2 hown hK hP 4 rfl rfl 3 (by decide) (hts _ (List.mem_of_getElem? (i := 3) rfl)) (fun _ h9 => h9) rfl dX2_gather_126 ?_
      refine lv_iload (pc := 129) hx hb dX2_gather_129 (lv_at hl 3 rfl) ?_
      refine lv_iconst (pc := 131) (v := (1 : Int32)) hx hb dX2_gather_131 (by decide) ?_
      refine lv_isub (pc := 132) hx hb dX2_gather_132 ?_
      obtain ⟨h_25, hsf⟩ := hsf
      refine va_iald (pc := 133) hx hb hK hP 6 0 rfl rfl h_25 dX2_gather_133 ?_
      refine lv_iload (pc := 134) hx hb dX2_gather_134 (lv_at hl 0 rfl) ?_
      refine lv_if_eq (pc := 136) (tgt := 143) hx hb dX2_gather_136 (by decide) (fun c_26 => ?_) (fun c_26 => ?_)
      · replace hsf := hsf.1 c_26
        refine lv_iconst (pc := 143) (v := (1 : Int32)) hx hb dX2_gather_143 (by decide) ?_
        refine lv_iadd (pc := 144) hx hb dX2_gather_144 ?_
        exact K_v_27 _ (by rw [if_neg c_24, if_pos c_26])
      · replace hsf := hsf.2 c_26
        refine lv_iconst (pc := 139) (v := (0 : Int32)) hx hb dX2_gather_139 (by decide) ?_
        refine lv_goto (pc := 140) (tgt := 144) hx hb dX2_gather_140 (by decide) ?_
        refine lv_iadd (pc := 144) hx hb dX2_gather_144 ?_
        exact K_v_27 _ (by rw [if_neg c_24, if_neg c_26])
    · replace hsf := hsf.1 c_24
      refine lv_iconst (pc := 121) (v := (0 : Int32)) hx hb dX2_gather_121 (by decide) ?_
      refine lv_goto (pc := 122) (tgt := 145) hx hb dX2_gather_122 (by decide) ?_
      exact K_v_27 _ (by rw [if_pos c_24]))
  refine lv_aload_n (pc := 0) hx hb dX2_gather_0 rfl (lv_at hl 0 rfl) ?_
  refine lv_iconst (pc := 1) (v := (0 : Int32)) hx hb dX2_gather_1 (by decide) ?_
  refine va_put (pc := 2) (D := G) (ci := 2) (v := .int (0 : Int32)) (ty := .int) (C := RX2) (T := TX2) (N := 13) hx hb hts iw_X2_gather_X2 tyX2 tyX2_ok nmX2 hown hK hP hD hS 4 rfl rfl 4 (by decide) (hts _ (List.mem_of_getElem? (i := 1) rfl)) (fun _ h9 => h9) rfl (by decide +kernel) rfl rfl (Nat.le_of_ble_eq_true rfl) dX2_gather_2 (fun H locs hP hD hS => ?_)
  have hP : va_P G vwCl [oX3 q ev_size, aI K (q 13) 12 ev_day, aI K (q 15) 12 ev_kind, aZ K (q 17) 12 ev_on, oX2 q (0 : Int32), aI K (q 21) 12 ca_served, aI K (q 22) 12 ca_rank] H := hP
  have hD : va_D A [oX3 q ev_size, aI K (q 13) 12 ev_day, aI K (q 15) 12 ev_kind, aZ K (q 17) 12 ev_on, oX2 q (0 : Int32), aI K (q 21) 12 ca_served, aI K (q 22) 12 ca_rank] := hD
  refine lv_iconst (pc := 5) (v := (0 : Int32)) hx hb dX2_gather_5 (by decide) ?_
  refine lv_istore (pc := 6) (lv' := [(4, .int (0 : Int32)), (0, .ref (q 18)), (1, .ref (q 12)), (2, .int p2), (3, .int p3)]) hx hb dX2_gather_6 hl (by decide) rfl (fun ls hl => ?_)
  exact hw _ _ _ hP hD hS (lv_sub hl [1, 2, 3, 4, 0] rfl)
def P_X2_shortDay (post : Int32 → Prop) (p2 : Int32) (ev_day : Nat → Int32) (ev_need : Nat → Int32) (ca_served : Nat → Int32) (ca_rank : Nat → Int32) (ca_size : Int32) : Prop :=
  ∀ (X5 : Int32 → Int32 → Prop),
  ∀ (X42 : Int32 → Int32 → Prop),
  (∀ (x3 : Int32) (x4 : Int32), (((ca_size ≤ x4 → post (-9 : Int32)) ∧ (¬ ca_size ≤ x4 → ((x4 ≤ (0 : Int32) → X42 x3 x4) ∧ (¬ x4 ≤ (0 : Int32) → vp_in x4 12 ∧ vp_in (x4 - (1 : Int32)) 12 ∧ (((ca_rank x4.toNatClampNeg) = (ca_rank (x4 - (1 : Int32)).toNatClampNeg) → ∀ v_7 : Int32, v_7 = (if (1 : Int32) = (0 : Int32) then (0 : Int32) else x3) → vp_in (ca_served x4.toNatClampNeg) 12 ∧ ∀ y_9 : Int32, y_9 = (v_7 + (ev_need (ca_served x4.toNatClampNeg).toNatClampNeg)) → ((y_9 ≤ p2 → ∀ y_11 : Int32, y_11 = (x4 + (1 : Int32)) → X5 y_9 y_11) ∧ (¬ y_9 ≤ p2 → post (ev_day (ca_served x4.toNatClampNeg).toNatClampNeg)))) ∧ (¬ (ca_rank x4.toNatClampNeg) = (ca_rank (x4 - (1 : Int32)).toNatClampNeg) → X42 x3 x4))))))) → X5 x3 x4) →
  (∀ (x3 : Int32) (x4 : Int32), (∀ v_13 : Int32, v_13 = (if (0 : Int32) = (0 : Int32) then (0 : Int32) else x3) → vp_in x4 12 ∧ vp_in (ca_served x4.toNatClampNeg) 12 ∧ ∀ y_16 : Int32, y_16 = (v_13 + (ev_need (ca_served x4.toNatClampNeg).toNatClampNeg)) → ((y_16 ≤ p2 → ∀ y_18 : Int32, y_18 = (x4 + (1 : Int32)) → X5 y_16 y_18) ∧ (¬ y_16 ≤ p2 → post (ev_day (ca_served x4.toNatClampNeg).toNatClampNeg)))) → X42 x3 x4) →
  X5 (0 : Int32) (0 : Int32)
abbrev rm_X2_shortDay : Room := { frames := 0, cells := 0, slots := 0, locals := 0 }
theorem iw_X2_shortDay_X2 : ∀ w ∈ wsX20, w ∈ wsX2_shortDay := by decide +kernel
theorem iw_X2_shortDay_X3 : ∀ w ∈ wsX30, w ∈ wsX2_shortDay := by decide +kernel
set_option maxHeartbeats 4000000 in
set_option maxRecDepth 100000 in
theorem c_X2_shortDay (l : Launch) (G : va_G) (K : ClassId × ClassId × ClassId) (tb q : Nat → Nat) (sz : Nat) (ev_size : Int32) (post : Int32 → Prop) (p2 : Int32) (ev_day : Nat → Int32) (ev_need : Nat → Int32) (ca_served : Nat → Int32) (ca_rank : Nat → Int32) (ca_size : Int32) (hw : P_X2_shortDay post p2 ev_day ev_need ca_served ca_rank ca_size) : Met l yX2_shortDay wsX2_shortDay rm_X2_shortDay (va_Pc [.ref (q 18), .ref (q 12), .int p2] (hPre G K tb [oX3 q ev_size, aI K (q 13) 12 ev_day, aI K (q 16) 12 ev_need, oX2 q ca_size, aI K (q 21) 12 ca_served, aI K (q 22) 12 ca_rank] sz)) (va_Qi (fun (r : Int32) (u : Unit) => post r) (fun u => hB G K (va_A [oX3 q ev_size, aI K (q 13) 12 ev_day, aI K (q 16) 12 ev_need, oX2 q ca_size, aI K (q 21) 12 ca_served, aI K (q 22) 12 ca_rank] sz) [oX3 q ev_size, aI K (q 13) 12 ev_day, aI K (q 16) 12 ev_need, oX2 q ca_size, aI K (q 21) 12 ca_served, aI K (q 22) 12 ca_rank]) (va_A [oX3 q ev_size, aI K (q 13) 12 ev_day, aI K (q 16) 12 ev_need, oX2 q ca_size, aI K (q 21) 12 ca_served, aI K (q 22) 12 ca_rank] sz)) 0 0 (va_A [oX3 q ev_size, aI K (q 13) 12 ev_day, aI K (q 16) 12 ev_need, oX2 q ca_size, aI K (q 21) 12 ca_served, aI K (q 22) 12 ca_rank] sz) := by
  refine hMet (fun A => va_Qi (fun (r : Int32) (u : Unit) => post r) (fun u => hB G K A [oX3 q ev_size, aI K (q 13) 12 ev_day, aI K (q 16) 12 ev_need, oX2 q ca_size, aI K (q 21) 12 ca_served, aI K (q 22) 12 ca_rank]) A) (by decide) rfl (Nat.le_of_ble_eq_true rfl) ?_
  intro p e s m av below meth c A Q ls hx hb hr hml hts hown hlocks hnm hA hP hK hD hS hE hQ hl
  have hts : ∀ w ∈ wsX2_shortDay, w.before av s = true := hts
  have hown : s.vm.findClass RX2 = some m.cls := hown
  have hl : lv_has ls 6 [(0, .ref (q 18)), (1, .ref (q 12)), (2, .int p2)] := hl
  unfold P_X2_shortDay at hw
  replace hw := hw (fun (x3 : Int32) (x4 : Int32) => ∀ (H : Heap) (locs : List Loc) (ls : Array Slot), va_P G vwCl [oX3 q ev_size, aI K (q 13) 12 ev_day, aI K (q 16) 12 ev_need, oX2 q ca_size, aI K (q 21) 12 ca_served, aI K (q 22) 12 ca_rank] H → va_D A [oX3 q ev_size, aI K (q 13) 12 ev_day, aI K (q 16) 12 ev_need, oX2 q ca_size, aI K (q 21) 12 ca_served, aI K (q 22) 12 ca_rank] → va_S A s.heap H locs → lv_has ls 6 [(0, .ref (q 18)), (1, .ref (q 12)), (2, .int p2), (3, .int x3), (4, .int x4)] → W p l e rm_X2_shortDay s m av below meth c H locs 0 0 Q (F0 m 5 ls []))
  replace hw := hw (fun (x3 : Int32) (x4 : Int32) => ∀ (H : Heap) (locs : List Loc) (ls : Array Slot), va_P G vwCl [oX3 q ev_size, aI K (q 13) 12 ev_day, aI K (q 16) 12 ev_need, oX2 q ca_size, aI K (q 21) 12 ca_served, aI K (q 22) 12 ca_rank] H → va_D A [oX3 q ev_size, aI K (q 13) 12 ev_day, aI K (q 16) 12 ev_need, oX2 q ca_size, aI K (q 21) 12 ca_served, aI K (q 22) 12 ca_rank] → va_S A s.heap H locs → lv_has ls 6 [(0, .ref (q 18)), (1, .ref (q 12)), (2, .int p2), (3, .int x3), (4, .int x4)] → W p l e rm_X2_shortDay s m av below meth c H locs 0 0 Q (F0 m 42 ls []))
  replace hw := hw (by
    intro x3 x4 hw H locs ls hP hD hS hl
    refine lv_iload (pc := 5) hx hb dX2_shortDay_5 (lv_at hl 4 rfl) ?_
    refine lv_aload_n (pc := 7) hx hb dX2_shortDay_7 rfl (lv_at hl 0 rfl) ?_
    refine va_get (pc := 8) (D := G) (ci := 2) (v := .int ca_size) (C := RX2) (T := TX2) (N := 13) hx hb hts iw_X2_shortDay_X2 hown hK hP 3 rfl rfl 4 (by decide) (hts _ (List.mem_of_getElem? (i := 1) rfl)) (fun _ h9 => h9) rfl dX2_shortDay_8 ?_
    refine lv_icmp_ge (pc := 11) (tgt := 93) hx hb dX2_shortDay_11 (by decide) (fun c_1 => ?_) (fun c_1 => ?_)
    · replace hw := hw.1 c_1
      refine lv_bipush (pc := 93) (v := (-9 : Int32)) hx hb dX2_shortDay_93 (by decide) ?_
      exact hRetI (S := Unit) () hx hb hr hlocks hQ hw hP hK hD hS dX2_shortDay_95
    · replace hw := hw.2 c_1
      refine lv_iload (pc := 14) hx hb dX2_shortDay_14 (lv_at hl 4 rfl) ?_
      refine lv_if_le (pc := 16) (tgt := 42) hx hb dX2_shortDay_16 (by decide) (fun c_2 => ?_) (fun c_2 => ?_)
      · replace hw := hw.1 c_2
        exact hw _ _ _ hP hD hS (lv_sub hl [0, 1, 2, 3, 4] rfl)
      · replace hw := hw.2 c_2
        refine lv_aload_n (pc := 19) hx hb dX2_shortDay_19 rfl (lv_at hl 0 rfl) ?_
        refine va_get (pc := 20) (D := G) (ci := 2) (v := .ref (q 22)) (C := RX2) (T := TX2) (N := 13) hx hb hts iw_X2_shortDay_X2 hown hK hP 3 rfl rfl 3 (by decide) (hts _ (List.mem_of_getElem? (i := 2) rfl)) (fun _ h9 => h9) rfl dX2_shortDay_20 ?_
        refine lv_iload (pc := 23) hx hb dX2_shortDay_23 (lv_at hl 4 rfl) ?_
        obtain ⟨h_3, hw⟩ := hw
        refine va_iald (pc := 25) hx hb hK hP 5 0 rfl rfl h_3 dX2_shortDay_25 ?_
        refine lv_aload_n (pc := 26) hx hb dX2_shortDay_26 rfl (lv_at hl 0 rfl) ?_
        refine va_get (pc := 27) (D := G) (ci := 2) (v := .ref (q 22)) (C := RX2) (T := TX2) (N := 13) hx hb hts iw_X2_shortDay_X2 hown hK hP 3 rfl rfl 3 (by decide) (hts _ (List.mem_of_getElem? (i := 2) rfl)) (fun _ h9 => h9) rfl dX2_shortDay_27 ?_
        refine lv_iload (pc := 30) hx hb dX2_shortDay_30 (lv_at hl 4 rfl) ?_
        refine lv_iconst (pc := 32) (v := (1 : Int32)) hx hb dX2_shortDay_32 (by decide) ?_
        refine lv_isub (pc := 33) hx hb dX2_shortDay_33 ?_
        obtain ⟨h_4, hw⟩ := hw
        refine va_iald (pc := 34) hx hb hK hP 5 0 rfl rfl h_4 dX2_shortDay_34 ?_
        refine lv_icmp_ne (pc := 35) (tgt := 42) hx hb dX2_shortDay_35 (by decide) (fun c_5 => ?_) (fun c_5 => ?_)
        · replace hw := hw.2 c_5
          exact hw _ _ _ hP hD hS (lv_sub hl [0, 1, 2, 3, 4] rfl)
        · replace hw := hw.1 c_5
          refine lv_iconst (pc := 38) (v := (1 : Int32)) hx hb dX2_shortDay_38 (by decide) ?_
          refine lv_goto (pc := 39) (tgt := 43) hx hb dX2_shortDay_39 (by decide) ?_
          refine lv_istore (pc := 43) (lv' := [(5, .int (1 : Int32)), (0, .ref (q 18)), (1, .ref (q 12)), (2, .int p2), (3, .int x3), (4, .int x4)]) hx hb dX2_shortDay_43 hl (by decide) rfl (fun ls hl => ?_)
          refine lv_iload (pc := 45) hx hb dX2_shortDay_45 (lv_at hl 0 rfl) ?_
          have K_v_7 : ∀ v_7 : Int32, v_7 = (if (1 : Int32) = (0 : Int32) then (0 : Int32) else x3) → W p l e rm_X2_shortDay s m av below meth c H locs 0 0 Q (F0 m 55 ls [.int v_7]) := by
            intro v_7 ev_7
            replace hw := hw v_7 ev_7
            refine lv_aload_n (pc := 55) hx hb dX2_shortDay_55 rfl (lv_at hl 2 rfl) ?_
            refine va_getN (pc := 56) (D := G) (host := RX10) (ci := 3) (v := .ref (q 16)) (C := RX3) (T := TX3) (N := 6) hx hb hts iw_X2_shortDay_X3 hown hK hP 0 rfl rfl 3 (by decide) (hE.use 11 rfl) (fun _ h9 => h9) rfl dX2_shortDay_56 ?_
            refine lv_aload_n (pc := 59) hx hb dX2_shortDay_59 rfl (lv_at hl 1 rfl) ?_
            refine va_get (pc := 60) (D := G) (ci := 2) (v := .ref (q 21)) (C := RX2) (T := TX2) (N := 13) hx hb hts iw_X2_shortDay_X2 hown hK hP 3 rfl rfl 2 (by decide) (hts _ (List.mem_of_getElem? (i := 3) rfl)) (fun _ h9 => h9) rfl dX2_shortDay_60 ?_
            refine lv_iload (pc := 63) hx hb dX2_shortDay_63 (lv_at hl 5 rfl) ?_
            refine va_iald (pc := 65) hx hb hK hP 4 0 rfl rfl h_3 dX2_shortDay_65 ?_
            obtain ⟨h_8, hw⟩ := hw
            refine va_iald (pc := 66) hx hb hK hP 2 0 rfl rfl h_8 dX2_shortDay_66 ?_
            refine lv_iadd (pc := 67) hx hb dX2_shortDay_67 ?_
            refine lv_topi (fun y_9 ey_9 => ?_)
            replace hw := hw y_9 ey_9
            refine lv_istore_n (pc := 68) (lv' := [(3, .int y_9), (5, .int (1 : Int32)), (0, .ref (q 18)), (1, .ref (q 12)), (2, .int p2), (4, .int x4)]) hx hb dX2_shortDay_68 rfl hl (by decide) rfl (fun ls hl => ?_)
            refine lv_iload_n (pc := 69) hx hb dX2_shortDay_69 rfl (lv_at hl 0 rfl) ?_
            refine lv_iload_n (pc := 70) hx hb dX2_shortDay_70 rfl (lv_at hl 4 rfl) ?_
            refine lv_icmp_le (pc := 71) (tgt := 87) hx hb dX2_shortDay_71 (by decide) (fun c_10 => ?_) (fun c_10 => ?_)
            · replace hw := hw.1 c_10
              obtain ⟨y_11, ey_11⟩ : ∃ z : Int32, z = (x4 + (1 : Int32)) := ⟨_, rfl⟩
              replace hw := hw y_11 ey_11
              refine lv_iinc (pc := 87) (v := y_11) (lv' := [(4, .int y_11), (3, .int y_9), (5, .int (1 : Int32)), (0, .ref (q 18)), (1, .ref (q 12)), (2, .int p2)]) hx hb dX2_shortDay_87 hl (k := 5) rfl (by rw [ey_11]; rfl) (by decide) rfl (fun ls hl => ?_)
              refine lv_goto (pc := 90) (tgt := 5) hx hb dX2_shortDay_90 (by decide) ?_
              exact hw _ _ _ hP hD hS (lv_sub hl [3, 4, 5, 1, 0] rfl)
            · replace hw := hw.2 c_10
              refine lv_aload_n (pc := 74) hx hb dX2_shortDay_74 rfl (lv_at hl 3 rfl) ?_
              refine va_getN (pc := 75) (D := G) (host := RX10) (ci := 3) (v := .ref (q 13)) (C := RX3) (T := TX3) (N := 6) hx hb hts iw_X2_shortDay_X3 hown hK hP 0 rfl rfl 0 (by decide) (hE.use 7 rfl) (fun _ h9 => h9) rfl dX2_shortDay_75 ?_
              refine lv_aload_n (pc := 78) hx hb dX2_shortDay_78 rfl (lv_at hl 2 rfl) ?_
              refine va_get (pc := 79) (D := G) (ci := 2) (v := .ref (q 21)) (C := RX2) (T := TX2) (N := 13) hx hb hts iw_X2_shortDay_X2 hown hK hP 3 rfl rfl 2 (by decide) (hts _ (List.mem_of_getElem? (i := 3) rfl)) (fun _ h9 => h9) rfl dX2_shortDay_79 ?_
              refine lv_iload (pc := 82) hx hb dX2_shortDay_82 (lv_at hl 5 rfl) ?_
              refine va_iald (pc := 84) hx hb hK hP 4 0 rfl rfl h_3 dX2_shortDay_84 ?_
              refine va_iald (pc := 85) hx hb hK hP 1 0 rfl rfl h_8 dX2_shortDay_85 ?_
              exact hRetI (S := Unit) () hx hb hr hlocks hQ hw hP hK hD hS dX2_shortDay_86
          refine lv_if_eq (pc := 47) (tgt := 54) hx hb dX2_shortDay_47 (by decide) (fun c_6 => ?_) (fun c_6 => ?_)
          · skip
            refine lv_iconst (pc := 54) (v := (0 : Int32)) hx hb dX2_shortDay_54 (by decide) ?_
            exact K_v_7 _ (by rw [if_pos c_6])
          · skip
            refine lv_iload_n (pc := 50) hx hb dX2_shortDay_50 rfl (lv_at hl 4 rfl) ?_
            refine lv_goto (pc := 51) (tgt := 55) hx hb dX2_shortDay_51 (by decide) ?_
            exact K_v_7 _ (by rw [if_neg c_6]))
  replace hw := hw (by
    intro x3 x4 hw H locs ls hP hD hS hl
    refine lv_iconst (pc := 42) (v := (0 : Int32)) hx hb dX2_shortDay_42 (by decide) ?_
    refine lv_istore (pc := 43) (lv' := [(5, .int (0 : Int32)), (0, .ref (q 18)), (1, .ref (q 12)), (2, .int p2), (3, .int x3), (4, .int x4)]) hx hb dX2_shortDay_43 hl (by decide) rfl (fun ls hl => ?_)
    refine lv_iload (pc := 45) hx hb dX2_shortDay_45 (lv_at hl 0 rfl) ?_
    have K_v_13 : ∀ v_13 : Int32, v_13 = (if (0 : Int32) = (0 : Int32) then (0 : Int32) else x3) → W p l e rm_X2_shortDay s m av below meth c H locs 0 0 Q (F0 m 55 ls [.int v_13]) := by
      intro v_13 ev_13
      replace hw := hw v_13 ev_13
      refine lv_aload_n (pc := 55) hx hb dX2_shortDay_55 rfl (lv_at hl 2 rfl) ?_
      refine va_getN (pc := 56) (D := G) (host := RX10) (ci := 3) (v := .ref (q 16)) (C := RX3) (T := TX3) (N := 6) hx hb hts iw_X2_shortDay_X3 hown hK hP 0 rfl rfl 3 (by decide) (hE.use 11 rfl) (fun _ h9 => h9) rfl dX2_shortDay_56 ?_
      refine lv_aload_n (pc := 59) hx hb dX2_shortDay_59 rfl (lv_at hl 1 rfl) ?_
      refine va_get (pc := 60) (D := G) (ci := 2) (v := .ref (q 21)) (C := RX2) (T := TX2) (N := 13) hx hb hts iw_X2_shortDay_X2 hown hK hP 3 rfl rfl 2 (by decide) (hts _ (List.mem_of_getElem? (i := 3) rfl)) (fun _ h9 => h9) rfl dX2_shortDay_60 ?_
      refine lv_iload (pc := 63) hx hb dX2_shortDay_63 (lv_at hl 5 rfl) ?_
      obtain ⟨h_14, hw⟩ := hw
      refine va_iald (pc := 65) hx hb hK hP 4 0 rfl rfl h_14 dX2_shortDay_65 ?_
      obtain ⟨h_15, hw⟩ := hw
      refine va_iald (pc := 66) hx hb hK hP 2 0 rfl rfl h_15 dX2_shortDay_66 ?_
      refine lv_iadd (pc := 67) hx hb dX2_shortDay_67 ?_
      refine lv_topi (fun y_16 ey_16 => ?_)
      replace hw := hw y_16 ey_16
      refine lv_istore_n (pc := 68) (lv' := [(3, .int y_16), (5, .int (0 : Int32)), (0, .ref (q 18)), (1, .ref (q 12)), (2, .int p2), (4, .int x4)]) hx hb dX2_shortDay_68 rfl hl (by decide) rfl (fun ls hl => ?_)
      refine lv_iload_n (pc := 69) hx hb dX2_shortDay_69 rfl (lv_at hl 0 rfl) ?_
      refine lv_iload_n (pc := 70) hx hb dX2_shortDay_70 rfl (lv_at hl 4 rfl) ?_
      refine lv_icmp_le (pc := 71) (tgt := 87) hx hb dX2_shortDay_71 (by decide) (fun c_17 => ?_) (fun c_17 => ?_)
      · replace hw := hw.1 c_17
        obtain ⟨y_18, ey_18⟩ : ∃ z : Int32, z = (x4 + (1 : Int32)) := ⟨_, rfl⟩
        replace hw := hw y_18 ey_18
        refine lv_iinc (pc := 87) (v := y_18) (lv' := [(4, .int y_18), (3, .int y_16), (5, .int (0 : Int32)), (0, .ref (q 18)), (1, .ref (q 12)), (2, .int p2)]) hx hb dX2_shortDay_87 hl (k := 5) rfl (by rw [ey_18]; rfl) (by decide) rfl (fun ls hl => ?_)
        refine lv_goto (pc := 90) (tgt := 5) hx hb dX2_shortDay_90 (by decide) ?_
        exact hw _ _ _ hP hD hS (lv_sub hl [3, 4, 5, 1, 0] rfl)
      · replace hw := hw.2 c_17
        refine lv_aload_n (pc := 74) hx hb dX2_shortDay_74 rfl (lv_at hl 3 rfl) ?_
        refine va_getN (pc := 75) (D := G) (host := RX10) (ci := 3) (v := .ref (q 13)) (C := RX3) (T := TX3) (N := 6) hx hb hts iw_X2_shortDay_X3 hown hK hP 0 rfl rfl 0 (by decide) (hE.use 7 rfl) (fun _ h9 => h9) rfl dX2_shortDay_75 ?_
        refine lv_aload_n (pc := 78) hx hb dX2_shortDay_78 rfl (lv_at hl 2 rfl) ?_
        refine va_get (pc := 79) (D := G) (ci := 2) (v := .ref (q 21)) (C := RX2) (T := TX2) (N := 13) hx hb hts iw_X2_shortDay_X2 hown hK hP 3 rfl rfl 2 (by decide) (hts _ (List.mem_of_getElem? (i := 3) rfl)) (fun _ h9 => h9) rfl dX2_shortDay_79 ?_
        refine lv_iload (pc := 82) hx hb dX2_shortDay_82 (lv_at hl 5 rfl) ?_
        refine va_iald (pc := 84) hx hb hK hP 4 0 rfl rfl h_14 dX2_shortDay_84 ?_
        refine va_iald (pc := 85) hx hb hK hP 1 0 rfl rfl h_15 dX2_shortDay_85 ?_
        exact hRetI (S := Unit) () hx hb hr hlocks hQ hw hP hK hD hS dX2_shortDay_86
    refine lv_if_eq (pc := 47) (tgt := 54) hx hb dX2_shortDay_47 (by decide) (fun c_12 => ?_) (fun c_12 => ?_)
    · skip
      refine lv_iconst (pc := 54) (v := (0 : Int32)) hx hb dX2_shortDay_54 (by decide) ?_
      exact K_v_13 _ (by rw [if_pos c_12])
    · skip
      refine lv_iload_n (pc := 50) hx hb dX2_shortDay_50 rfl (lv_at hl 4 rfl) ?_
      refine lv_goto (pc := 51) (tgt := 55) hx hb dX2_shortDay_51 (by decide) ?_
      exact K_v_13 _ (by rw [if_neg c_12]))
  refine lv_iconst (pc := 0) (v := (0 : Int32)) hx hb dX2_shortDay_0 (by decide) ?_
  refine lv_istore_n (pc := 1) (lv' := [(3, .int (0 : Int32)), (0, .ref (q 18)), (1, .ref (q 12)), (2, .int p2)]) hx hb dX2_shortDay_1 rfl hl (by decide) rfl (fun ls hl => ?_)
  refine lv_iconst (pc := 2) (v := (0 : Int32)) hx hb dX2_shortDay_2 (by decide) ?_
  refine lv_istore (pc := 3) (lv' := [(4, .int (0 : Int32)), (3, .int (0 : Int32)), (0, .ref (q 18)), (1, .ref (q 12)), (2, .int p2)]) hx hb dX2_shortDay_3 hl (by decide) rfl (fun ls hl => ?_)
  exact hw _ _ _ hP hD hS (lv_sub hl [2, 3, 4, 1, 0] rfl)
def P_X2_firstShortDay (post : Int32 → (Nat → Int32) → (Nat → Int32) → Int32 → Prop) (p3 : Int32) (st_booked : Nat → Int32) (ev_day : Nat → Int32) (ev_kind : Nat → Int32) (ev_need : Nat → Int32) (ev_on : Nat → Int32) (ev_size : Int32) (ca_served : Nat → Int32) (ca_rank : Nat → Int32) (ca_size : Int32) : Prop :=
  P_X2_gather (fun ca_served_1 ca_rank_2 ca_size_3 => P_X8_bookedOf (fun r_4 => P_X2_shortDay (fun r_5 => post r_5 ca_served_1 ca_rank_2 ca_size_3) r_4 ev_day ev_need ca_served_1 ca_rank_2 ca_size_3) p3 st_booked) p3 (-9 : Int32) ev_day ev_kind ev_on ev_size ca_served ca_rank ca_size
abbrev rm_X2_firstShortDay : Room := { frames := 2, cells := 0, slots := 0, locals := 49 }
set_option maxHeartbeats 4000000 in
set_option maxRecDepth 100000 in
theorem c_X2_firstShortDay (l : Launch) (G : va_G) (K : ClassId × ClassId × ClassId) (tb q : Nat → Nat) (sz : Nat) (post : Int32 → (Nat → Int32) → (Nat → Int32) → Int32 → Prop) (p3 : Int32) (st_booked : Nat → Int32) (ev_day : Nat → Int32) (ev_kind : Nat → Int32) (ev_need : Nat → Int32) (ev_on : Nat → Int32) (ev_size : Int32) (ca_served : Nat → Int32) (ca_rank : Nat → Int32) (ca_size : Int32) (hw : P_X2_firstShortDay post p3 st_booked ev_day ev_kind ev_need ev_on ev_size ca_served ca_rank ca_size) : Met l yX2_firstShortDay wsX2_firstShortDay rm_X2_firstShortDay (va_Pc [.ref (q 18), .ref (q 12), .ref (q 4), .int p3] (hPre G K tb [oX8 q, aI K (q 5) 30 st_booked, oX3 q ev_size, aI K (q 13) 12 ev_day, aI K (q 15) 12 ev_kind, aI K (q 16) 12 ev_need, aZ K (q 17) 12 ev_on, oX2 q ca_size, aI K (q 21) 12 ca_served, aI K (q 22) 12 ca_rank] sz)) (va_Qi (fun (r : Int32) (u : (Nat → Int32) × (Nat → Int32) × Int32) => post r u.1 u.2.1 u.2.2) (fun u => hB G K (va_A [oX8 q, aI K (q 5) 30 st_booked, oX3 q ev_size, aI K (q 13) 12 ev_day, aI K (q 15) 12 ev_kind, aI K (q 16) 12 ev_need, aZ K (q 17) 12 ev_on, oX2 q ca_size, aI K (q 21) 12 ca_served, aI K (q 22) 12 ca_rank] sz) [oX8 q, aI K (q 5) 30 st_booked, oX3 q ev_size, aI K (q 13) 12 ev_day, aI K (q 15) 12 ev_kind, aI K (q 16) 12 ev_need, aZ K (q 17) 12 ev_on, oX2 q u.2.2, aI K (q 21) 12 u.1, aI K (q 22) 12 u.2.1]) (va_A [oX8 q, aI K (q 5) 30 st_booked, oX3 q ev_size, aI K (q 13) 12 ev_day, aI K (q 15) 12 ev_kind, aI K (q 16) 12 ev_need, aZ K (q 17) 12 ev_on, oX2 q ca_size, aI K (q 21) 12 ca_served, aI K (q 22) 12 ca_rank] sz)) 0 0 (va_A [oX8 q, aI K (q 5) 30 st_booked, oX3 q ev_size, aI K (q 13) 12 ev_day, aI K (q 15) 12 ev_kind, aI K (q 16) 12 ev_need, aZ K (q 17) 12 ev_on, oX2 q ca_size, aI K (q 21) 12 ca_served, aI K (q 22) 12 ca_rank] sz) := by
  refine hMet (fun A => va_Qi (fun (r : Int32) (u : (Nat → Int32) × (Nat → Int32) × Int32) => post r u.1 u.2.1 u.2.2) (fun u => hB G K A [oX8 q, aI K (q 5) 30 st_booked, oX3 q ev_size, aI K (q 13) 12 ev_day, aI K (q 15) 12 ev_kind, aI K (q 16) 12 ev_need, aZ K (q 17) 12 ev_on, oX2 q u.2.2, aI K (q 21) 12 u.1, aI K (q 22) 12 u.2.1]) A) (by decide) rfl (Nat.le_of_ble_eq_true rfl) ?_
  intro p e s m av below meth c A Q ls hx hb hr hml hts hown hlocks hnm hA hP hK hD hS hE hQ hl
  have hts : ∀ w ∈ wsX2_firstShortDay, w.before av s = true := hts
  have hown : s.vm.findClass RX2 = some m.cls := hown
  have hl : lv_has ls 4 [(0, .ref (q 18)), (1, .ref (q 12)), (2, .ref (q 4)), (3, .int p3)] := hl
  unfold P_X2_firstShortDay at hw
  refine lv_aload_n (pc := 0) hx hb dX2_firstShortDay_0 rfl (lv_at hl 0 rfl) ?_
  refine lv_aload_n (pc := 1) hx hb dX2_firstShortDay_1 rfl (lv_at hl 1 rfl) ?_
  refine lv_iload_n (pc := 2) hx hb dX2_firstShortDay_2 rfl (lv_at hl 3 rfl) ?_
  refine lv_bipush (pc := 3) (v := (-9 : Int32)) hx hb dX2_firstShortDay_3 (by decide) ?_
  refine hCallV (pc := 5) (wr := [oX8 q, aI K (q 5) 30 st_booked, aI K (q 16) 12 ev_need]) (wsf := fun (u : (Nat → Int32) × (Nat → Int32) × Int32) => [oX3 q ev_size, aI K (q 13) 12 ev_day, aI K (q 15) 12 ev_kind, aZ K (q 17) 12 ev_on, oX2 q u.2.2, aI K (q 21) 12 u.1, aI K (q 22) 12 u.2.1]) [2, 3, 4, 6, 7, 8, 9] [0, 1, 5] (va_runV (As := [.ref (q 12), .int p3, .int (-9 : Int32)]) (rest := []) ⟨hx, hb, hml, hown, hts⟩ (c_X2_gather l G K tb q s.heap.size _ p3 (-9 : Int32) ev_day ev_kind ev_on ev_size ca_served ca_rank ca_size hw) (cwV 3 hts gX2_firstShortDay_X2_gather rfl rfl rfl (by decide +kernel) ⟨Nat.le_of_ble_eq_true rfl, Nat.le_of_ble_eq_true rfl⟩) (hPreV hE hP hK hD hS hA [2, 3, 4, 6, 7, 8, 9] (by decide) rfl rfl rfl rfl (q0 := 7) (ci := 2) rfl) rfl rfl hl.1 rfl (lv_room (Nat.le_of_ble_eq_true rfl)) dX2_firstShortDay_5 ⟨Nat.zero_le _, Nat.zero_le _⟩) hP hD hS hA rfl rfl (by decide) (by decide) (fun u H locs hw hP hD hS => ?_)
  obtain ⟨ca_served_1, ca_rank_2, ca_size_3⟩ := u
  have hP : va_P G vwCl [oX8 q, aI K (q 5) 30 st_booked, oX3 q ev_size, aI K (q 13) 12 ev_day, aI K (q 15) 12 ev_kind, aI K (q 16) 12 ev_need, aZ K (q 17) 12 ev_on, oX2 q ca_size_3, aI K (q 21) 12 ca_served_1, aI K (q 22) 12 ca_rank_2] H := hP.sub [0, 1, 3, 4, 5, 2, 6, 7, 8, 9] rfl
  have hD : va_D A [oX8 q, aI K (q 5) 30 st_booked, oX3 q ev_size, aI K (q 13) 12 ev_day, aI K (q 15) 12 ev_kind, aI K (q 16) 12 ev_need, aZ K (q 17) 12 ev_on, oX2 q ca_size_3, aI K (q 21) 12 ca_served_1, aI K (q 22) 12 ca_rank_2] := hD.sub [0, 1, 3, 4, 5, 2, 6, 7, 8, 9] (by decide) rfl
  refine lv_aload_n (pc := 8) hx hb dX2_firstShortDay_8 rfl (lv_at hl 0 rfl) ?_
  refine lv_aload_n (pc := 9) hx hb dX2_firstShortDay_9 rfl (lv_at hl 1 rfl) ?_
  refine lv_aload_n (pc := 10) hx hb dX2_firstShortDay_10 rfl (lv_at hl 2 rfl) ?_
  refine lv_iload_n (pc := 11) hx hb dX2_firstShortDay_11 rfl (lv_at hl 3 rfl) ?_
  refine hCallI (pc := 12) (wr := [oX3 q ev_size, aI K (q 13) 12 ev_day, aI K (q 15) 12 ev_kind, aI K (q 16) 12 ev_need, aZ K (q 17) 12 ev_on, oX2 q ca_size_3, aI K (q 21) 12 ca_served_1, aI K (q 22) 12 ca_rank_2]) (wsf := fun (u : Unit) => [oX8 q, aI K (q 5) 30 st_booked]) [0, 1] [2, 3, 4, 5, 6, 7, 8, 9] (va_runVN (As := [.int p3]) (rest := [.ref (q 12), .ref (q 18)]) ⟨hx, hb, hml, hown, hts⟩ (c_X8_bookedOf l G K tb q H.size _ p3 st_booked hw) ⟨va_cnB 1 hts gX2_firstShortDay_X8_bookedOf_n58 rfl rfl rfl (hE.nw 48 rfl) (hts _ (List.mem_of_getElem? (i := 14) rfl)) (by decide +kernel) ⟨Nat.le_of_ble_eq_true rfl, Nat.le_of_ble_eq_true rfl⟩, (hts _ (List.mem_of_getElem? (i := 13) rfl)), (hts _ (List.mem_of_getElem? (i := 15) rfl))⟩ (hPreV hE hP hK hD hS hA [0, 1] (by decide) rfl rfl rfl rfl (q0 := 0) (ci := 8) rfl) rfl rfl hl.1 rfl (lv_room (Nat.le_of_ble_eq_true rfl)) dX2_firstShortDay_12 ⟨Nat.zero_le _, Nat.zero_le _⟩) hP hD hS hA rfl rfl (by decide) (by decide) (fun r_4 u H locs hw hP hD hS => ?_)
  have hP : va_P G vwCl [oX8 q, aI K (q 5) 30 st_booked, oX3 q ev_size, aI K (q 13) 12 ev_day, aI K (q 15) 12 ev_kind, aI K (q 16) 12 ev_need, aZ K (q 17) 12 ev_on, oX2 q ca_size_3, aI K (q 21) 12 ca_served_1, aI K (q 22) 12 ca_rank_2] H := hP.sub [8, 9, 0, 1, 2, 3, 4, 5, 6, 7] rfl
  have hD : va_D A [oX8 q, aI K (q 5) 30 st_booked, oX3 q ev_size, aI K (q 13) 12 ev_day, aI K (q 15) 12 ev_kind, aI K (q 16) 12 ev_need, aZ K (q 17) 12 ev_on, oX2 q ca_size_3, aI K (q 21) 12 ca_served_1, aI K (q 22) 12 ca_rank_2] := hD.sub [8, 9, 0, 1, 2, 3, 4, 5, 6, 7] (by decide) rfl
  refine hCallI (pc := 15) (wr := [oX8 q, aI K (q 5) 30 st_booked, aI K (q 15) 12 ev_kind, aZ K (q 17) 12 ev_on]) (wsf := fun (u : Unit) => [oX3 q ev_size, aI K (q 13) 12 ev_day, aI K (q 16) 12 ev_need, oX2 q ca_size_3, aI K (q 21) 12 ca_served_1, aI K (q 22) 12 ca_rank_2]) [2, 3, 5, 7, 8, 9] [0, 1, 4, 6] (va_runV (As := [.ref (q 12), .int r_4]) (rest := []) ⟨hx, hb, hml, hown, hts⟩ (c_X2_shortDay l G K tb q H.size ev_size _ r_4 ev_day ev_need ca_served_1 ca_rank_2 ca_size_3 hw) (cwV 2 hts gX2_firstShortDay_X2_shortDay rfl rfl rfl (by decide +kernel) ⟨Nat.le_of_ble_eq_true rfl, Nat.le_of_ble_eq_true rfl⟩) (hPreV hE hP hK hD hS hA [2, 3, 5, 7, 8, 9] (by decide) rfl rfl rfl rfl (q0 := 7) (ci := 2) rfl) rfl rfl hl.1 rfl (lv_room (Nat.le_of_ble_eq_true rfl)) dX2_firstShortDay_15 ⟨Nat.zero_le _, Nat.zero_le _⟩) hP hD hS hA rfl rfl (by decide) (by decide) (fun r_5 u H locs hw hP hD hS => ?_)
  have hP : va_P G vwCl [oX8 q, aI K (q 5) 30 st_booked, oX3 q ev_size, aI K (q 13) 12 ev_day, aI K (q 15) 12 ev_kind, aI K (q 16) 12 ev_need, aZ K (q 17) 12 ev_on, oX2 q ca_size_3, aI K (q 21) 12 ca_served_1, aI K (q 22) 12 ca_rank_2] H := hP.sub [0, 1, 4, 5, 2, 6, 3, 7, 8, 9] rfl
  have hD : va_D A [oX8 q, aI K (q 5) 30 st_booked, oX3 q ev_size, aI K (q 13) 12 ev_day, aI K (q 15) 12 ev_kind, aI K (q 16) 12 ev_need, aZ K (q 17) 12 ev_on, oX2 q ca_size_3, aI K (q 21) 12 ca_served_1, aI K (q 22) 12 ca_rank_2] := hD.sub [0, 1, 4, 5, 2, 6, 3, 7, 8, 9] (by decide) rfl
  exact hRetI (S := (Nat → Int32) × (Nat → Int32) × Int32) (ca_served_1, ca_rank_2, ca_size_3) hx hb hr hlocks hQ hw hP hK hD hS dX2_firstShortDay_18
def P_X2_leastBetween (post : Int32 → Prop) (p1 : Int32) (p2 : Int32) (p3 : Int32) (ca_far : Nat → Int32) (ca_farInGoes : Nat → Int32) : Prop :=
  ∀ (X15 : Int32 → Int32 → Int32 → Prop),
  (∀ (x4 : Int32) (x5 : Int32) (x6 : Int32), ((((5 : Int32) ≤ x6 → post x4) ∧ (¬ (5 : Int32) ≤ x6 → vp_in ((x5 + (p2 * (5 : Int32))) + x6) 100 ∧ vp_in ((x6 * (5 : Int32)) + p3) 25 ∧ ∀ y_5 : Int32, y_5 = (if ((ca_farInGoes ((x5 + (p2 * (5 : Int32))) + x6).toNatClampNeg) + (ca_far ((x6 * (5 : Int32)) + p3).toNatClampNeg)) < x4 then ((ca_farInGoes ((x5 + (p2 * (5 : Int32))) + x6).toNatClampNeg) + (ca_far ((x6 * (5 : Int32)) + p3).toNatClampNeg)) else x4) → ∀ y_6 : Int32, y_6 = (x6 + (1 : Int32)) → X15 y_5 x5 y_6))) → X15 x4 x5 x6) →
  ∀ y_1 : Int32, y_1 = ((p1 - (2 : Int32)) * (25 : Int32)) → X15 (1000000 : Int32) y_1 (0 : Int32)
abbrev rm_X2_leastBetween : Room := { frames := 1, cells := 0, slots := 0, locals := 23 }
theorem iw_X2_leastBetween_X2 : ∀ w ∈ wsX20, w ∈ wsX2_leastBetween := by decide +kernel
set_option maxHeartbeats 4000000 in
set_option maxRecDepth 100000 in
theorem c_X2_leastBetween (l : Launch) (G : va_G) (K : ClassId × ClassId × ClassId) (tb q : Nat → Nat) (sz : Nat) (ca_size : Int32) (post : Int32 → Prop) (p1 : Int32) (p2 : Int32) (p3 : Int32) (ca_far : Nat → Int32) (ca_farInGoes : Nat → Int32) (hw : P_X2_leastBetween post p1 p2 p3 ca_far ca_farInGoes) : Met l yX2_leastBetween wsX2_leastBetween rm_X2_leastBetween (va_Pc [.ref (q 18), .int p1, .int p2, .int p3] (hPre G K tb [oX2 q ca_size, aI K (q 19) 25 ca_far, aI K (q 20) 100 ca_farInGoes] sz)) (va_Qi (fun (r : Int32) (u : Unit) => post r) (fun u => hB G K (va_A [oX2 q ca_size, aI K (q 19) 25 ca_far, aI K (q 20) 100 ca_farInGoes] sz) [oX2 q ca_size, aI K (q 19) 25 ca_far, aI K (q 20) 100 ca_farInGoes]) (va_A [oX2 q ca_size, aI K (q 19) 25 ca_far, aI K (q 20) 100 ca_farInGoes] sz)) 0 0 (va_A [oX2 q ca_size, aI K (q 19) 25 ca_far, aI K (q 20) 100 ca_farInGoes] sz) := by
  refine hMet (fun A => va_Qi (fun (r : Int32) (u : Unit) => post r) (fun u => hB G K A [oX2 q ca_size, aI K (q 19) 25 ca_far, aI K (q 20) 100 ca_farInGoes]) A) (by decide) rfl (Nat.le_of_ble_eq_true rfl) ?_
  intro p e s m av below meth c A Q ls hx hb hr hml hts hown hlocks hnm hA hP hK hD hS hE hQ hl
  have hts : ∀ w ∈ wsX2_leastBetween, w.before av s = true := hts
  have hown : s.vm.findClass RX2 = some m.cls := hown
  have hl : lv_has ls 7 [(0, .ref (q 18)), (1, .int p1), (2, .int p2), (3, .int p3)] := hl
  unfold P_X2_leastBetween at hw
  replace hw := hw (fun (x4 : Int32) (x5 : Int32) (x6 : Int32) => ∀ (H : Heap) (locs : List Loc) (ls : Array Slot), va_P G vwCl [oX2 q ca_size, aI K (q 19) 25 ca_far, aI K (q 20) 100 ca_farInGoes] H → va_D A [oX2 q ca_size, aI K (q 19) 25 ca_far, aI K (q 20) 100 ca_farInGoes] → va_S A s.heap H locs → lv_has ls 7 [(0, .ref (q 18)), (2, .int p2), (3, .int p3), (4, .int x4), (5, .int x5), (6, .int x6)] → W p l e rm_X2_leastBetween s m av below meth c H locs 0 0 Q (F0 m 15 ls []))
  replace hw := hw (by
    intro x4 x5 x6 hw H locs ls hP hD hS hl
    refine lv_iload (pc := 15) hx hb dX2_leastBetween_15 (lv_at hl 5 rfl) ?_
    refine lv_iconst (pc := 17) (v := (5 : Int32)) hx hb dX2_leastBetween_17 (by decide) ?_
    refine lv_icmp_ge (pc := 18) (tgt := 60) hx hb dX2_leastBetween_18 (by decide) (fun c_2 => ?_) (fun c_2 => ?_)
    · replace hw := hw.1 c_2
      refine lv_iload (pc := 60) hx hb dX2_leastBetween_60 (lv_at hl 3 rfl) ?_
      exact hRetI (S := Unit) () hx hb hr hlocks hQ hw hP hK hD hS dX2_leastBetween_62
    · replace hw := hw.2 c_2
      refine lv_iload (pc := 21) hx hb dX2_leastBetween_21 (lv_at hl 3 rfl) ?_
      refine lv_aload_n (pc := 23) hx hb dX2_leastBetween_23 rfl (lv_at hl 0 rfl) ?_
      refine va_get (pc := 24) (D := G) (ci := 2) (v := .ref (q 20)) (C := RX2) (T := TX2) (N := 13) hx hb hts iw_X2_leastBetween_X2 hown hK hP 0 rfl rfl 1 (by decide) (hts _ (List.mem_of_getElem? (i := 2) rfl)) (fun _ h9 => h9) rfl dX2_leastBetween_24 ?_
      refine lv_iload (pc := 27) hx hb dX2_leastBetween_27 (lv_at hl 4 rfl) ?_
      refine lv_iload_n (pc := 29) hx hb dX2_leastBetween_29 rfl (lv_at hl 1 rfl) ?_
      refine lv_iconst (pc := 30) (v := (5 : Int32)) hx hb dX2_leastBetween_30 (by decide) ?_
      refine lv_imul (pc := 31) hx hb dX2_leastBetween_31 ?_
      refine lv_iadd (pc := 32) hx hb dX2_leastBetween_32 ?_
      refine lv_iload (pc := 33) hx hb dX2_leastBetween_33 (lv_at hl 5 rfl) ?_
      refine lv_iadd (pc := 35) hx hb dX2_leastBetween_35 ?_
      obtain ⟨h_3, hw⟩ := hw
      refine va_iald (pc := 36) hx hb hK hP 2 0 rfl rfl h_3 dX2_leastBetween_36 ?_
      refine lv_aload_n (pc := 37) hx hb dX2_leastBetween_37 rfl (lv_at hl 0 rfl) ?_
      refine va_get (pc := 38) (D := G) (ci := 2) (v := .ref (q 19)) (C := RX2) (T := TX2) (N := 13) hx hb hts iw_X2_leastBetween_X2 hown hK hP 0 rfl rfl 0 (by decide) (hts _ (List.mem_of_getElem? (i := 3) rfl)) (fun _ h9 => h9) rfl dX2_leastBetween_38 ?_
      refine lv_iload (pc := 41) hx hb dX2_leastBetween_41 (lv_at hl 5 rfl) ?_
      refine lv_iconst (pc := 43) (v := (5 : Int32)) hx hb dX2_leastBetween_43 (by decide) ?_
      refine lv_imul (pc := 44) hx hb dX2_leastBetween_44 ?_
      refine lv_iload_n (pc := 45) hx hb dX2_leastBetween_45 rfl (lv_at hl 2 rfl) ?_
      refine lv_iadd (pc := 46) hx hb dX2_leastBetween_46 ?_
      obtain ⟨h_4, hw⟩ := hw
      refine va_iald (pc := 47) hx hb hK hP 1 0 rfl rfl h_4 dX2_leastBetween_47 ?_
      refine lv_iadd (pc := 48) hx hb dX2_leastBetween_48 ?_
      refine va_mmin (pc := 49) hx hb (hml.trans hl.1.symm) hown (hts _ (List.mem_of_getElem? (i := 4) rfl)) (hts _ (List.mem_of_getElem? (i := 5) rfl)) (hts _ (List.mem_of_getElem? (i := 6) rfl)) (hts _ (List.mem_of_getElem? (i := 7) rfl)) (Nat.le_of_ble_eq_true rfl) (Nat.le_of_ble_eq_true rfl) (Nat.zero_le _) (Nat.zero_le _) dX2_leastBetween_49 ?_
      refine lv_topi (fun y_5 ey_5 => ?_)
      replace hw := hw y_5 ey_5
      refine lv_istore (pc := 52) (lv' := [(4, .int y_5), (0, .ref (q 18)), (2, .int p2), (3, .int p3), (5, .int x5), (6, .int x6)]) hx hb dX2_leastBetween_52 hl (by decide) rfl (fun ls hl => ?_)
      obtain ⟨y_6, ey_6⟩ : ∃ z : Int32, z = (x6 + (1 : Int32)) := ⟨_, rfl⟩
      replace hw := hw y_6 ey_6
      refine lv_iinc (pc := 54) (v := y_6) (lv' := [(6, .int y_6), (4, .int y_5), (0, .ref (q 18)), (2, .int p2), (3, .int p3), (5, .int x5)]) hx hb dX2_leastBetween_54 hl (k := 5) rfl (by rw [ey_6]; rfl) (by decide) rfl (fun ls hl => ?_)
      refine lv_goto (pc := 57) (tgt := 15) hx hb dX2_leastBetween_57 (by decide) ?_
      exact hw _ _ _ hP hD hS (lv_sub hl [2, 3, 4, 1, 5, 0] rfl))
  refine lv_ldc (pc := 0) (v := (1000000 : Int32)) hx hb hown (hts _ (List.mem_of_getElem? (i := 1) rfl)) dX2_leastBetween_0 ?_
  refine lv_istore (pc := 2) (lv' := [(4, .int (1000000 : Int32)), (0, .ref (q 18)), (1, .int p1), (2, .int p2), (3, .int p3)]) hx hb dX2_leastBetween_2 hl (by decide) rfl (fun ls hl => ?_)
  refine lv_iload_n (pc := 4) hx hb dX2_leastBetween_4 rfl (lv_at hl 2 rfl) ?_
  refine lv_iconst (pc := 5) (v := (2 : Int32)) hx hb dX2_leastBetween_5 (by decide) ?_
  refine lv_isub (pc := 6) hx hb dX2_leastBetween_6 ?_
  refine lv_bipush (pc := 7) (v := (25 : Int32)) hx hb dX2_leastBetween_7 (by decide) ?_
  refine lv_imul (pc := 9) hx hb dX2_leastBetween_9 ?_
  refine lv_topi (fun y_1 ey_1 => ?_)
  replace hw := hw y_1 ey_1
  refine lv_istore (pc := 10) (lv' := [(5, .int y_1), (4, .int (1000000 : Int32)), (0, .ref (q 18)), (1, .int p1), (2, .int p2), (3, .int p3)]) hx hb dX2_leastBetween_10 hl (by decide) rfl (fun ls hl => ?_)
  refine lv_iconst (pc := 12) (v := (0 : Int32)) hx hb dX2_leastBetween_12 (by decide) ?_
  refine lv_istore (pc := 13) (lv' := [(6, .int (0 : Int32)), (5, .int y_1), (4, .int (1000000 : Int32)), (0, .ref (q 18)), (1, .int p1), (2, .int p2), (3, .int p3)]) hx hb dX2_leastBetween_13 hl (by decide) rfl (fun ls hl => ?_)
  exact hw _ _ _ hP hD hS (lv_sub hl [3, 5, 6, 2, 1, 0] rfl)
def P_X2_layWays (post : (Nat → Int32) → Prop) (ca_far : Nat → Int32) (ca_farInGoes : Nat → Int32) : Prop :=
  ∀ (X17 : Int32 → (Nat → Int32) → Prop),
  ∀ (X24 : Int32 → Int32 → (Nat → Int32) → Prop),
  (∀ (x1 : Int32) (ca_farInGoes : Nat → Int32), ((((4 : Int32) < x1 → post ca_farInGoes) ∧ (¬ (4 : Int32) < x1 → X24 x1 (0 : Int32) ca_farInGoes))) → X17 x1 ca_farInGoes) →
  (∀ (x1 : Int32) (x2 : Int32) (ca_farInGoes : Nat → Int32), ((((25 : Int32) ≤ x2 → ∀ y_4 : Int32, y_4 = (x1 + (1 : Int32)) → X17 y_4 ca_farInGoes) ∧ (¬ (25 : Int32) ≤ x2 → P_X2_leastBetween (fun r_5 => vp_in (((x1 - (1 : Int32)) * (25 : Int32)) + x2) 100 ∧ ∀ ca_farInGoes_7 : Nat → Int32, ca_farInGoes_7 = upd ca_farInGoes (((x1 - (1 : Int32)) * (25 : Int32)) + x2).toNatClampNeg r_5 → ∀ y_8 : Int32, y_8 = (x2 + (1 : Int32)) → X24 x1 y_8 ca_farInGoes_7) x1 (x2 / (5 : Int32)) (x2 - x2 / (5 : Int32) * (5 : Int32)) ca_far ca_farInGoes))) → X24 x1 x2 ca_farInGoes) →
  ∀ ca_farInGoes_1 : Nat → Int32, ca_farInGoes_1 = va_cpy ca_far ca_farInGoes (0 : Int32).toNatClampNeg (0 : Int32).toNatClampNeg (25 : Int32).toNatClampNeg → X17 (2 : Int32) ca_farInGoes_1
abbrev rm_X2_layWays : Room := { frames := 2, cells := 0, slots := 0, locals := 60 }
theorem iw_X2_layWays_X2 : ∀ w ∈ wsX20, w ∈ wsX2_layWays := by decide +kernel
set_option maxHeartbeats 4000000 in
set_option maxRecDepth 100000 in
theorem c_X2_layWays (l : Launch) (G : va_G) (K : ClassId × ClassId × ClassId) (tb q : Nat → Nat) (sz : Nat) (ca_size : Int32) (post : (Nat → Int32) → Prop) (ca_far : Nat → Int32) (ca_farInGoes : Nat → Int32) (hw : P_X2_layWays post ca_far ca_farInGoes) : Met l yX2_layWays wsX2_layWays rm_X2_layWays (va_Pc [.ref (q 18)] (hPre G K tb [oX2 q ca_size, aI K (q 19) 25 ca_far, aI K (q 20) 100 ca_farInGoes] sz)) (va_Qv (fun (u : (Nat → Int32)) => post u) (fun u => hB G K (va_A [oX2 q ca_size, aI K (q 19) 25 ca_far, aI K (q 20) 100 ca_farInGoes] sz) [oX2 q ca_size, aI K (q 19) 25 ca_far, aI K (q 20) 100 u]) (va_A [oX2 q ca_size, aI K (q 19) 25 ca_far, aI K (q 20) 100 ca_farInGoes] sz)) 0 0 (va_A [oX2 q ca_size, aI K (q 19) 25 ca_far, aI K (q 20) 100 ca_farInGoes] sz) := by
  refine hMet (fun A => va_Qv (fun (u : (Nat → Int32)) => post u) (fun u => hB G K A [oX2 q ca_size, aI K (q 19) 25 ca_far, aI K (q 20) 100 u]) A) (by decide) rfl (Nat.le_of_ble_eq_true rfl) ?_
  intro p e s m av below meth c A Q ls hx hb hr hml hts hown hlocks hnm hA hP hK hD hS hE hQ hl
  have hts : ∀ w ∈ wsX2_layWays, w.before av s = true := hts
  have hown : s.vm.findClass RX2 = some m.cls := hown
  have hl : lv_has ls 3 [(0, .ref (q 18))] := hl
  unfold P_X2_layWays at hw
  replace hw := hw (fun (x1 : Int32) (ca_farInGoes : Nat → Int32) => ∀ (H : Heap) (locs : List Loc) (ls : Array Slot), va_P G vwCl [oX2 q ca_size, aI K (q 19) 25 ca_far, aI K (q 20) 100 ca_farInGoes] H → va_D A [oX2 q ca_size, aI K (q 19) 25 ca_far, aI K (q 20) 100 ca_farInGoes] → va_S A s.heap H locs → lv_has ls 3 [(0, .ref (q 18)), (1, .int x1)] → W p l e rm_X2_layWays s m av below meth c H locs 0 0 Q (F0 m 17 ls []))
  replace hw := hw (fun (x1 : Int32) (x2 : Int32) (ca_farInGoes : Nat → Int32) => ∀ (H : Heap) (locs : List Loc) (ls : Array Slot), va_P G vwCl [oX2 q ca_size, aI K (q 19) 25 ca_far, aI K (q 20) 100 ca_farInGoes] H → va_D A [oX2 q ca_size, aI K (q 19) 25 ca_far, aI K (q 20) 100 ca_farInGoes] → va_S A s.heap H locs → lv_has ls 3 [(0, .ref (q 18)), (1, .int x1), (2, .int x2)] → W p l e rm_X2_layWays s m av below meth c H locs 0 0 Q (F0 m 24 ls []))
  replace hw := hw (by
    intro x1 ca_farInGoes hw H locs ls hP hD hS hl
    refine lv_iload_n (pc := 17) hx hb dX2_layWays_17 rfl (lv_at hl 1 rfl) ?_
    refine lv_iconst (pc := 18) (v := (4 : Int32)) hx hb dX2_layWays_18 (by decide) ?_
    refine lv_icmp_gt (pc := 19) (tgt := 66) hx hb dX2_layWays_19 (by decide) (fun c_2 => ?_) (fun c_2 => ?_)
    · replace hw := hw.1 c_2
      exact hRetV (S := (Nat → Int32)) ca_farInGoes hx hb hr hlocks hQ hw hP hK hD hS dX2_layWays_66
    · replace hw := hw.2 c_2
      refine lv_iconst (pc := 22) (v := (0 : Int32)) hx hb dX2_layWays_22 (by decide) ?_
      refine lv_istore_n (pc := 23) (lv' := [(2, .int (0 : Int32)), (0, .ref (q 18)), (1, .int x1)]) hx hb dX2_layWays_23 rfl hl (by decide) rfl (fun ls hl => ?_)
      exact hw _ _ _ hP hD hS (lv_sub hl [1, 2, 0] rfl))
  replace hw := hw (by
    intro x1 x2 ca_farInGoes hw H locs ls hP hD hS hl
    refine lv_iload_n (pc := 24) hx hb dX2_layWays_24 rfl (lv_at hl 2 rfl) ?_
    refine lv_bipush (pc := 25) (v := (25 : Int32)) hx hb dX2_layWays_25 (by decide) ?_
    refine lv_icmp_ge (pc := 27) (tgt := 60) hx hb dX2_layWays_27 (by decide) (fun c_3 => ?_) (fun c_3 => ?_)
    · replace hw := hw.1 c_3
      obtain ⟨y_4, ey_4⟩ : ∃ z : Int32, z = (x1 + (1 : Int32)) := ⟨_, rfl⟩
      replace hw := hw y_4 ey_4
      refine lv_iinc (pc := 60) (v := y_4) (lv' := [(1, .int y_4), (0, .ref (q 18)), (2, .int x2)]) hx hb dX2_layWays_60 hl (k := 1) rfl (by rw [ey_4]; rfl) (by decide) rfl (fun ls hl => ?_)
      refine lv_goto (pc := 63) (tgt := 17) hx hb dX2_layWays_63 (by decide) ?_
      exact hw _ _ _ hP hD hS (lv_sub hl [1, 0] rfl)
    · replace hw := hw.2 c_3
      refine lv_aload_n (pc := 30) hx hb dX2_layWays_30 rfl (lv_at hl 0 rfl) ?_
      refine va_get (pc := 31) (D := G) (ci := 2) (v := .ref (q 20)) (C := RX2) (T := TX2) (N := 13) hx hb hts iw_X2_layWays_X2 hown hK hP 0 rfl rfl 1 (by decide) (hts _ (List.mem_of_getElem? (i := 2) rfl)) (fun _ h9 => h9) rfl dX2_layWays_31 ?_
      refine lv_iload_n (pc := 34) hx hb dX2_layWays_34 rfl (lv_at hl 1 rfl) ?_
      refine lv_iconst (pc := 35) (v := (1 : Int32)) hx hb dX2_layWays_35 (by decide) ?_
      refine lv_isub (pc := 36) hx hb dX2_layWays_36 ?_
      refine lv_bipush (pc := 37) (v := (25 : Int32)) hx hb dX2_layWays_37 (by decide) ?_
      refine lv_imul (pc := 39) hx hb dX2_layWays_39 ?_
      refine lv_iload_n (pc := 40) hx hb dX2_layWays_40 rfl (lv_at hl 2 rfl) ?_
      refine lv_iadd (pc := 41) hx hb dX2_layWays_41 ?_
      refine lv_aload_n (pc := 42) hx hb dX2_layWays_42 rfl (lv_at hl 0 rfl) ?_
      refine lv_iload_n (pc := 43) hx hb dX2_layWays_43 rfl (lv_at hl 1 rfl) ?_
      refine lv_iload_n (pc := 44) hx hb dX2_layWays_44 rfl (lv_at hl 2 rfl) ?_
      refine lv_iconst (pc := 45) (v := (5 : Int32)) hx hb dX2_layWays_45 (by decide) ?_
      refine lv_idiv (pc := 46) hx hb dX2_layWays_46 (by decide) ?_
      refine lv_iload_n (pc := 47) hx hb dX2_layWays_47 rfl (lv_at hl 2 rfl) ?_
      refine lv_iconst (pc := 48) (v := (5 : Int32)) hx hb dX2_layWays_48 (by decide) ?_
      refine lv_irem (pc := 49) hx hb dX2_layWays_49 (by decide) ?_
      refine hCallI (pc := 50) (wr := []) (wsf := fun (u : Unit) => [oX2 q ca_size, aI K (q 19) 25 ca_far, aI K (q 20) 100 ca_farInGoes]) [0, 1, 2] [] (va_runV (As := [.int x1, .int (x2 / (5 : Int32)), .int (x2 - x2 / (5 : Int32) * (5 : Int32))]) (rest := [.int (((x1 - (1 : Int32)) * (25 : Int32)) + x2), .ref (q 20)]) ⟨hx, hb, hml, hown, hts⟩ (c_X2_leastBetween l G K tb q H.size ca_size _ x1 (x2 / (5 : Int32)) (x2 - x2 / (5 : Int32) * (5 : Int32)) ca_far ca_farInGoes hw) (cwV 3 hts gX2_layWays_X2_leastBetween rfl rfl rfl (by decide +kernel) ⟨Nat.le_of_ble_eq_true rfl, Nat.le_of_ble_eq_true rfl⟩) (hPreV hE hP hK hD hS hA [0, 1, 2] (by decide) rfl rfl rfl rfl (q0 := 0) (ci := 2) rfl) rfl rfl hl.1 rfl (lv_room (Nat.le_of_ble_eq_true rfl)) dX2_layWays_50 ⟨Nat.zero_le _, Nat.zero_le _⟩) hP hD hS hA rfl rfl (by decide) (by decide) (fun r_5 u H locs hw hP hD hS => ?_)
      have hP : va_P G vwCl [oX2 q ca_size, aI K (q 19) 25 ca_far, aI K (q 20) 100 ca_farInGoes] H := hP.sub [0, 1, 2] rfl
      have hD : va_D A [oX2 q ca_size, aI K (q 19) 25 ca_far, aI K (q 20) 100 ca_farInGoes] := hD.sub [0, 1, 2] (by decide) rfl
      obtain ⟨h_6, hw⟩ := hw
      refine va_iast (pc := 53) hx hb hK hP hD hS 2 0 rfl rfl h_6 dX2_layWays_53 (fun H locs hP hD hS => ?_)
      obtain ⟨ca_farInGoes_7, eca_farInGoes_7⟩ : ∃ z : Nat → Int32, z = upd ca_farInGoes (((x1 - (1 : Int32)) * (25 : Int32)) + x2).toNatClampNeg r_5 := ⟨_, rfl⟩
      have hP : va_P G vwCl [oX2 q ca_size, aI K (q 19) 25 ca_far, aI K (q 20) 100 ca_farInGoes_7] H := by rw [eca_farInGoes_7]; exact hP
      have hD : va_D A [oX2 q ca_size, aI K (q 19) 25 ca_far, aI K (q 20) 100 ca_farInGoes_7] := by rw [eca_farInGoes_7]; exact hD
      replace hw := hw ca_farInGoes_7 eca_farInGoes_7
      obtain ⟨y_8, ey_8⟩ : ∃ z : Int32, z = (x2 + (1 : Int32)) := ⟨_, rfl⟩
      replace hw := hw y_8 ey_8
      refine lv_iinc (pc := 54) (v := y_8) (lv' := [(2, .int y_8), (0, .ref (q 18)), (1, .int x1)]) hx hb dX2_layWays_54 hl (k := 2) rfl (by rw [ey_8]; rfl) (by decide) rfl (fun ls hl => ?_)
      refine lv_goto (pc := 57) (tgt := 24) hx hb dX2_layWays_57 (by decide) ?_
      exact hw _ _ _ hP hD hS (lv_sub hl [1, 2, 0] rfl))
  refine lv_aload_n (pc := 0) hx hb dX2_layWays_0 rfl (lv_at hl 0 rfl) ?_
  refine va_get (pc := 1) (D := G) (ci := 2) (v := .ref (q 19)) (C := RX2) (T := TX2) (N := 13) hx hb hts iw_X2_layWays_X2 hown hK hP 0 rfl rfl 0 (by decide) (hts _ (List.mem_of_getElem? (i := 1) rfl)) (fun _ h9 => h9) rfl dX2_layWays_1 ?_
  refine lv_iconst (pc := 4) (v := (0 : Int32)) hx hb dX2_layWays_4 (by decide) ?_
  refine lv_aload_n (pc := 5) hx hb dX2_layWays_5 rfl (lv_at hl 0 rfl) ?_
  refine va_get (pc := 6) (D := G) (ci := 2) (v := .ref (q 20)) (C := RX2) (T := TX2) (N := 13) hx hb hts iw_X2_layWays_X2 hown hK hP 0 rfl rfl 1 (by decide) (hts _ (List.mem_of_getElem? (i := 2) rfl)) (fun _ h9 => h9) rfl dX2_layWays_6 ?_
  refine lv_iconst (pc := 9) (v := (0 : Int32)) hx hb dX2_layWays_9 (by decide) ?_
  refine lv_bipush (pc := 10) (v := (25 : Int32)) hx hb dX2_layWays_10 (by decide) ?_
  refine va_copyi (pc := 12) hx hb (hml.trans hl.1.symm) hown (hts _ (List.mem_of_getElem? (i := 3) rfl)) (hts _ (List.mem_of_getElem? (i := 4) rfl)) (hts _ (List.mem_of_getElem? (i := 5) rfl)) (hts _ (List.mem_of_getElem? (i := 6) rfl)) hK hP hD hS 1 2 0 0 rfl rfl rfl rfl rfl (by decide) (by decide) (by decide) (by decide) (by decide) (fun _ _ => rfl) (Nat.le_of_ble_eq_true rfl) (Nat.le_of_ble_eq_true rfl) dX2_layWays_12 (fun H locs hP hD hS => ?_)
  obtain ⟨ca_farInGoes_1, eca_farInGoes_1⟩ : ∃ z : Nat → Int32, z = va_cpy ca_far ca_farInGoes (0 : Int32).toNatClampNeg (0 : Int32).toNatClampNeg (25 : Int32).toNatClampNeg := ⟨_, rfl⟩
  have hP : va_P G vwCl [oX2 q ca_size, aI K (q 19) 25 ca_far, aI K (q 20) 100 ca_farInGoes_1] H := by rw [eca_farInGoes_1]; exact hP
  have hD : va_D A [oX2 q ca_size, aI K (q 19) 25 ca_far, aI K (q 20) 100 ca_farInGoes_1] := by rw [eca_farInGoes_1]; exact hD
  replace hw := hw ca_farInGoes_1 eca_farInGoes_1
  refine lv_iconst (pc := 15) (v := (2 : Int32)) hx hb dX2_layWays_15 (by decide) ?_
  refine lv_istore_n (pc := 16) (lv' := [(1, .int (2 : Int32)), (0, .ref (q 18))]) hx hb dX2_layWays_16 rfl hl (by decide) rfl (fun ls hl => ?_)
  exact hw _ _ _ hP hD hS (lv_sub hl [1, 0] rfl)
def P_X2_way (post : Int32 → Prop) (p1 : Int32) (p2 : Int32) (p3 : Int32) (ca_farInGoes : Nat → Int32) : Prop :=
  (((1 : Int32) ≤ p1 → ∀ y_2 : Int32, y_2 = (if (4 : Int32) < p1 then (4 : Int32) else p1) → vp_in ((((y_2 - (1 : Int32)) * (25 : Int32)) + (p2 * (5 : Int32))) + p3) 100 ∧ post (ca_farInGoes ((((y_2 - (1 : Int32)) * (25 : Int32)) + (p2 * (5 : Int32))) + p3).toNatClampNeg)) ∧ (¬ (1 : Int32) ≤ p1 → post (1000000 : Int32)))
abbrev rm_X2_way : Room := { frames := 1, cells := 0, slots := 0, locals := 23 }
theorem iw_X2_way_X2 : ∀ w ∈ wsX20, w ∈ wsX2_way := by decide +kernel
set_option maxHeartbeats 4000000 in
set_option maxRecDepth 100000 in
theorem c_X2_way (l : Launch) (G : va_G) (K : ClassId × ClassId × ClassId) (tb q : Nat → Nat) (sz : Nat) (ca_size : Int32) (post : Int32 → Prop) (p1 : Int32) (p2 : Int32) (p3 : Int32) (ca_farInGoes : Nat → Int32) (hw : P_X2_way post p1 p2 p3 ca_farInGoes) : Met l yX2_way wsX2_way rm_X2_way (va_Pc [.ref (q 18), .int p1, .int p2, .int p3] (hPre G K tb [oX2 q ca_size, aI K (q 20) 100 ca_farInGoes] sz)) (va_Qi (fun (r : Int32) (u : Unit) => post r) (fun u => hB G K (va_A [oX2 q ca_size, aI K (q 20) 100 ca_farInGoes] sz) [oX2 q ca_size, aI K (q 20) 100 ca_farInGoes]) (va_A [oX2 q ca_size, aI K (q 20) 100 ca_farInGoes] sz)) 0 0 (va_A [oX2 q ca_size, aI K (q 20) 100 ca_farInGoes] sz) := by
  refine hMet (fun A => va_Qi (fun (r : Int32) (u : Unit) => post r) (fun u => hB G K A [oX2 q ca_size, aI K (q 20) 100 ca_farInGoes]) A) (by decide) rfl (Nat.le_of_ble_eq_true rfl) ?_
  intro p e s m av below meth c A Q ls hx hb hr hml hts hown hlocks hnm hA hP hK hD hS hE hQ hl
  have hts : ∀ w ∈ wsX2_way, w.before av s = true := hts
  have hown : s.vm.findClass RX2 = some m.cls := hown
  have hl : lv_has ls 4 [(0, .ref (q 18)), (1, .int p1), (2, .int p2), (3, .int p3)] := hl
  unfold P_X2_way at hw
  refine lv_iload_n (pc := 0) hx hb dX2_way_0 rfl (lv_at hl 1 rfl) ?_
  refine lv_iconst (pc := 1) (v := (1 : Int32)) hx hb dX2_way_1 (by decide) ?_
  refine lv_icmp_ge (pc := 2) (tgt := 8) hx hb dX2_way_2 (by decide) (fun c_1 => ?_) (fun c_1 => ?_)
  · replace hw := hw.1 c_1
    refine lv_aload_n (pc := 8) hx hb dX2_way_8 rfl (lv_at hl 0 rfl) ?_
    refine va_get (pc := 9) (D := G) (ci := 2) (v := .ref (q 20)) (C := RX2) (T := TX2) (N := 13) hx hb hts iw_X2_way_X2 hown hK hP 0 rfl rfl 1 (by decide) (hts _ (List.mem_of_getElem? (i := 2) rfl)) (fun _ h9 => h9) rfl dX2_way_9 ?_
    refine lv_iload_n (pc := 12) hx hb dX2_way_12 rfl (lv_at hl 1 rfl) ?_
    refine lv_iconst (pc := 13) (v := (4 : Int32)) hx hb dX2_way_13 (by decide) ?_
    refine va_mmin (pc := 14) hx hb (hml.trans hl.1.symm) hown (hts _ (List.mem_of_getElem? (i := 3) rfl)) (hts _ (List.mem_of_getElem? (i := 4) rfl)) (hts _ (List.mem_of_getElem? (i := 5) rfl)) (hts _ (List.mem_of_getElem? (i := 6) rfl)) (Nat.le_of_ble_eq_true rfl) (Nat.le_of_ble_eq_true rfl) (Nat.zero_le _) (Nat.zero_le _) dX2_way_14 ?_
    refine lv_topi (fun y_2 ey_2 => ?_)
    replace hw := hw y_2 ey_2
    refine lv_iconst (pc := 17) (v := (1 : Int32)) hx hb dX2_way_17 (by decide) ?_
    refine lv_isub (pc := 18) hx hb dX2_way_18 ?_
    refine lv_bipush (pc := 19) (v := (25 : Int32)) hx hb dX2_way_19 (by decide) ?_
    refine lv_imul (pc := 21) hx hb dX2_way_21 ?_
    refine lv_iload_n (pc := 22) hx hb dX2_way_22 rfl (lv_at hl 2 rfl) ?_
    refine lv_iconst (pc := 23) (v := (5 : Int32)) hx hb dX2_way_23 (by decide) ?_
    refine lv_imul (pc := 24) hx hb dX2_way_24 ?_
    refine lv_iadd (pc := 25) hx hb dX2_way_25 ?_
    refine lv_iload_n (pc := 26) hx hb dX2_way_26 rfl (lv_at hl 3 rfl) ?_
    refine lv_iadd (pc := 27) hx hb dX2_way_27 ?_
    obtain ⟨h_3, hw⟩ := hw
    refine va_iald (pc := 28) hx hb hK hP 1 0 rfl rfl h_3 dX2_way_28 ?_
    exact hRetI (S := Unit) () hx hb hr hlocks hQ hw hP hK hD hS dX2_way_29
  · replace hw := hw.2 c_1
    refine lv_ldc (pc := 5) (v := (1000000 : Int32)) hx hb hown (hts _ (List.mem_of_getElem? (i := 1) rfl)) dX2_way_5 ?_
    exact hRetI (S := Unit) () hx hb hr hlocks hQ hw hP hK hD hS dX2_way_7
def P_X2_setPrices (post : (Nat → Int32) → Prop) (p2 : Int32) (ev_house : Nat → Int32) (ca_farInGoes : Nat → Int32) (ca_served : Nat → Int32) (ca_rank : Nat → Int32) (ca_size : Int32) (ca_price : Nat → Int32) : Prop :=
  ∀ (X15 : Int32 → Int32 → (Nat → Int32) → Prop),
  ∀ (X57 : Int32 → Int32 → (Nat → Int32) → Prop),
  (∀ (x3 : Int32) (x4 : Int32) (ca_price : Nat → Int32), ((((5 : Int32) ≤ x4 → X57 x3 (0 : Int32) ca_price) ∧ (¬ (5 : Int32) ≤ x4 → vp_in p2 12 ∧ P_X2_way (fun r_6 => vp_in ((x4 * (12 : Int32)) + p2) 204 ∧ ∀ ca_price_8 : Nat → Int32, ca_price_8 = upd ca_price ((x4 * (12 : Int32)) + p2).toNatClampNeg r_6 → ∀ y_9 : Int32, y_9 = (x4 + (1 : Int32)) → X15 x3 y_9 ca_price_8) ((ca_rank p2.toNatClampNeg) + (1 : Int32)) x4 x3 ca_farInGoes))) → X15 x3 x4 ca_price) →
  (∀ (x3 : Int32) (x4 : Int32) (ca_price : Nat → Int32), (((ca_size ≤ x4 → post ca_price) ∧ (¬ ca_size ≤ x4 → vp_in x4 12 ∧ vp_in (ca_served x4.toNatClampNeg) 12 ∧ ∀ y_13 : Int32, y_13 = (ev_house (ca_served x4.toNatClampNeg).toNatClampNeg) → vp_in p2 12 ∧ P_X2_way (fun r_15 => vp_in ((((5 : Int32) + x4) * (12 : Int32)) + p2) 204 ∧ ∀ ca_price_17 : Nat → Int32, ca_price_17 = upd ca_price ((((5 : Int32) + x4) * (12 : Int32)) + p2).toNatClampNeg r_15 → ∀ y_18 : Int32, y_18 = (x4 + (1 : Int32)) → X57 x3 y_18 ca_price_17) ((ca_rank p2.toNatClampNeg) - (ca_rank x4.toNatClampNeg)) y_13 x3 ca_farInGoes))) → X57 x3 x4 ca_price) →
  vp_in p2 12 ∧ vp_in (ca_served p2.toNatClampNeg) 12 ∧ ∀ y_3 : Int32, y_3 = (ev_house (ca_served p2.toNatClampNeg).toNatClampNeg) → X15 y_3 (0 : Int32) ca_price
abbrev rm_X2_setPrices : Room := { frames := 2, cells := 0, slots := 0, locals := 46 }
theorem iw_X2_setPrices_X2 : ∀ w ∈ wsX20, w ∈ wsX2_setPrices := by decide +kernel
theorem iw_X2_setPrices_X3 : ∀ w ∈ wsX30, w ∈ wsX2_setPrices := by decide +kernel
set_option maxHeartbeats 4000000 in
set_option maxRecDepth 100000 in
theorem c_X2_setPrices (l : Launch) (G : va_G) (K : ClassId × ClassId × ClassId) (tb q : Nat → Nat) (sz : Nat) (ev_size : Int32) (post : (Nat → Int32) → Prop) (p2 : Int32) (ev_house : Nat → Int32) (ca_farInGoes : Nat → Int32) (ca_served : Nat → Int32) (ca_rank : Nat → Int32) (ca_size : Int32) (ca_price : Nat → Int32) (hw : P_X2_setPrices post p2 ev_house ca_farInGoes ca_served ca_rank ca_size ca_price) : Met l yX2_setPrices wsX2_setPrices rm_X2_setPrices (va_Pc [.ref (q 18), .ref (q 12), .int p2] (hPre G K tb [oX3 q ev_size, aI K (q 14) 12 ev_house, oX2 q ca_size, aI K (q 20) 100 ca_farInGoes, aI K (q 21) 12 ca_served, aI K (q 22) 12 ca_rank, aI K (q 23) 204 ca_price] sz)) (va_Qv (fun (u : (Nat → Int32)) => post u) (fun u => hB G K (va_A [oX3 q ev_size, aI K (q 14) 12 ev_house, oX2 q ca_size, aI K (q 20) 100 ca_farInGoes, aI K (q 21) 12 ca_served, aI K (q 22) 12 ca_rank, aI K (q 23) 204 ca_price] sz) [oX3 q ev_size, aI K (q 14) 12 ev_house, oX2 q ca_size, aI K (q 20) 100 ca_farInGoes, aI K (q 21) 12 ca_served, aI K (q 22) 12 ca_rank, aI K (q 23) 204 u]) (va_A [oX3 q ev_size, aI K (q 14) 12 ev_house, oX2 q ca_size, aI K (q 20) 100 ca_farInGoes, aI K (q 21) 12 ca_served, aI K (q 22) 12 ca_rank, aI K (q 23) 204 ca_price] sz)) 0 0 (va_A [oX3 q ev_size, aI K (q 14) 12 ev_house, oX2 q ca_size, aI K (q 20) 100 ca_farInGoes, aI K (q 21) 12 ca_served, aI K (q 22) 12 ca_rank, aI K (q 23) 204 ca_price] sz) := by
  refine hMet (fun A => va_Qv (fun (u : (Nat → Int32)) => post u) (fun u => hB G K A [oX3 q ev_size, aI K (q 14) 12 ev_house, oX2 q ca_size, aI K (q 20) 100 ca_farInGoes, aI K (q 21) 12 ca_served, aI K (q 22) 12 ca_rank, aI K (q 23) 204 u]) A) (by decide) rfl (Nat.le_of_ble_eq_true rfl) ?_
  intro p e s m av below meth c A Q ls hx hb hr hml hts hown hlocks hnm hA hP hK hD hS hE hQ hl
  have hts : ∀ w ∈ wsX2_setPrices, w.before av s = true := hts
  have hown : s.vm.findClass RX2 = some m.cls := hown
  have hl : lv_has ls 6 [(0, .ref (q 18)), (1, .ref (q 12)), (2, .int p2)] := hl
  unfold P_X2_setPrices at hw
  replace hw := hw (fun (x3 : Int32) (x4 : Int32) (ca_price : Nat → Int32) => ∀ (H : Heap) (locs : List Loc) (ls : Array Slot), va_P G vwCl [oX3 q ev_size, aI K (q 14) 12 ev_house, oX2 q ca_size, aI K (q 20) 100 ca_farInGoes, aI K (q 21) 12 ca_served, aI K (q 22) 12 ca_rank, aI K (q 23) 204 ca_price] H → va_D A [oX3 q ev_size, aI K (q 14) 12 ev_house, oX2 q ca_size, aI K (q 20) 100 ca_farInGoes, aI K (q 21) 12 ca_served, aI K (q 22) 12 ca_rank, aI K (q 23) 204 ca_price] → va_S A s.heap H locs → lv_has ls 6 [(0, .ref (q 18)), (1, .ref (q 12)), (2, .int p2), (3, .int x3), (4, .int x4)] → W p l e rm_X2_setPrices s m av below meth c H locs 0 0 Q (F0 m 15 ls []))
  replace hw := hw (fun (x3 : Int32) (x4 : Int32) (ca_price : Nat → Int32) => ∀ (H : Heap) (locs : List Loc) (ls : Array Slot), va_P G vwCl [oX3 q ev_size, aI K (q 14) 12 ev_house, oX2 q ca_size, aI K (q 20) 100 ca_farInGoes, aI K (q 21) 12 ca_served, aI K (q 22) 12 ca_rank, aI K (q 23) 204 ca_price] H → va_D A [oX3 q ev_size, aI K (q 14) 12 ev_house, oX2 q ca_size, aI K (q 20) 100 ca_farInGoes, aI K (q 21) 12 ca_served, aI K (q 22) 12 ca_rank, aI K (q 23) 204 ca_price] → va_S A s.heap H locs → lv_has ls 6 [(0, .ref (q 18)), (1, .ref (q 12)), (2, .int p2), (3, .int x3), (4, .int x4)] → W p l e rm_X2_setPrices s m av below meth c H locs 0 0 Q (F0 m 57 ls []))
  replace hw := hw (by
    intro x3 x4 ca_price hw H locs ls hP hD hS hl
    refine lv_iload (pc := 15) hx hb dX2_setPrices_15 (lv_at hl 4 rfl) ?_
    refine lv_iconst (pc := 17) (v := (5 : Int32)) hx hb dX2_setPrices_17 (by decide) ?_
    refine lv_icmp_ge (pc := 18) (tgt := 54) hx hb dX2_setPrices_18 (by decide) (fun c_4 => ?_) (fun c_4 => ?_)
    · replace hw := hw.1 c_4
      refine lv_iconst (pc := 54) (v := (0 : Int32)) hx hb dX2_setPrices_54 (by decide) ?_
      refine lv_istore (pc := 55) (lv' := [(4, .int (0 : Int32)), (0, .ref (q 18)), (1, .ref (q 12)), (2, .int p2), (3, .int x3)]) hx hb dX2_setPrices_55 hl (by decide) rfl (fun ls hl => ?_)
      exact hw _ _ _ hP hD hS (lv_sub hl [1, 2, 3, 4, 0] rfl)
    · replace hw := hw.2 c_4
      refine lv_aload_n (pc := 21) hx hb dX2_setPrices_21 rfl (lv_at hl 0 rfl) ?_
      refine va_get (pc := 22) (D := G) (ci := 2) (v := .ref (q 23)) (C := RX2) (T := TX2) (N := 13) hx hb hts iw_X2_setPrices_X2 hown hK hP 2 rfl rfl 5 (by decide) (hts _ (List.mem_of_getElem? (i := 2) rfl)) (fun _ h9 => h9) rfl dX2_setPrices_22 ?_
      refine lv_iload (pc := 25) hx hb dX2_setPrices_25 (lv_at hl 4 rfl) ?_
      refine lv_bipush (pc := 27) (v := (12 : Int32)) hx hb dX2_setPrices_27 (by decide) ?_
      refine lv_imul (pc := 29) hx hb dX2_setPrices_29 ?_
      refine lv_iload_n (pc := 30) hx hb dX2_setPrices_30 rfl (lv_at hl 2 rfl) ?_
      refine lv_iadd (pc := 31) hx hb dX2_setPrices_31 ?_
      refine lv_aload_n (pc := 32) hx hb dX2_setPrices_32 rfl (lv_at hl 0 rfl) ?_
      refine lv_aload_n (pc := 33) hx hb dX2_setPrices_33 rfl (lv_at hl 0 rfl) ?_
      refine va_get (pc := 34) (D := G) (ci := 2) (v := .ref (q 22)) (C := RX2) (T := TX2) (N := 13) hx hb hts iw_X2_setPrices_X2 hown hK hP 2 rfl rfl 3 (by decide) (hts _ (List.mem_of_getElem? (i := 3) rfl)) (fun _ h9 => h9) rfl dX2_setPrices_34 ?_
      refine lv_iload_n (pc := 37) hx hb dX2_setPrices_37 rfl (lv_at hl 2 rfl) ?_
      obtain ⟨h_5, hw⟩ := hw
      refine va_iald (pc := 38) hx hb hK hP 5 0 rfl rfl h_5 dX2_setPrices_38 ?_
      refine lv_iconst (pc := 39) (v := (1 : Int32)) hx hb dX2_setPrices_39 (by decide) ?_
      refine lv_iadd (pc := 40) hx hb dX2_setPrices_40 ?_
      refine lv_iload (pc := 41) hx hb dX2_setPrices_41 (lv_at hl 4 rfl) ?_
      refine lv_iload_n (pc := 43) hx hb dX2_setPrices_43 rfl (lv_at hl 3 rfl) ?_
      refine hCallI (pc := 44) (wr := [oX3 q ev_size, aI K (q 14) 12 ev_house, aI K (q 21) 12 ca_served, aI K (q 22) 12 ca_rank, aI K (q 23) 204 ca_price]) (wsf := fun (u : Unit) => [oX2 q ca_size, aI K (q 20) 100 ca_farInGoes]) [2, 3] [0, 1, 4, 5, 6] (va_runV (As := [.int ((ca_rank p2.toNatClampNeg) + (1 : Int32)), .int x4, .int x3]) (rest := [.int ((x4 * (12 : Int32)) + p2), .ref (q 23)]) ⟨hx, hb, hml, hown, hts⟩ (c_X2_way l G K tb q H.size ca_size _ ((ca_rank p2.toNatClampNeg) + (1 : Int32)) x4 x3 ca_farInGoes hw) (cwV 3 hts gX2_setPrices_X2_way rfl rfl rfl (by decide +kernel) ⟨Nat.le_of_ble_eq_true rfl, Nat.le_of_ble_eq_true rfl⟩) (hPreV hE hP hK hD hS hA [2, 3] (by decide) rfl rfl rfl rfl (q0 := 2) (ci := 2) rfl) rfl rfl hl.1 rfl (lv_room (Nat.le_of_ble_eq_true rfl)) dX2_setPrices_44 ⟨Nat.zero_le _, Nat.zero_le _⟩) hP hD hS hA rfl rfl (by decide) (by decide) (fun r_6 u H locs hw hP hD hS => ?_)
      have hP : va_P G vwCl [oX3 q ev_size, aI K (q 14) 12 ev_house, oX2 q ca_size, aI K (q 20) 100 ca_farInGoes, aI K (q 21) 12 ca_served, aI K (q 22) 12 ca_rank, aI K (q 23) 204 ca_price] H := hP.sub [0, 1, 5, 6, 2, 3, 4] rfl
      have hD : va_D A [oX3 q ev_size, aI K (q 14) 12 ev_house, oX2 q ca_size, aI K (q 20) 100 ca_farInGoes, aI K (q 21) 12 ca_served, aI K (q 22) 12 ca_rank, aI K (q 23) 204 ca_price] := hD.sub [0, 1, 5, 6, 2, 3, 4] (by decide) rfl
      obtain ⟨h_7, hw⟩ := hw
      refine va_iast (pc := 47) hx hb hK hP hD hS 6 0 rfl rfl h_7 dX2_setPrices_47 (fun H locs hP hD hS => ?_)
      obtain ⟨ca_price_8, eca_price_8⟩ : ∃ z : Nat → Int32, z = upd ca_price ((x4 * (12 : Int32)) + p2).toNatClampNeg r_6 := ⟨_, rfl⟩
      have hP : va_P G vwCl [oX3 q ev_size, aI K (q 14) 12 ev_house, oX2 q ca_size, aI K (q 20) 100 ca_farInGoes, aI K (q 21) 12 ca_served, aI K (q 22) 12 ca_rank, aI K (q 23) 204 ca_price_8] H := by rw [eca_price_8]; exact hP
      have hD : va_D A [oX3 q ev_size, aI K (q 14) 12 ev_house, oX2 q ca_size, aI K (q 20) 100 ca_farInGoes, aI K (q 21) 12 ca_served, aI K (q 22) 12 ca_rank, aI K (q 23) 204 ca_price_8] := by rw [eca_price_8]; exact hD
      replace hw := hw ca_price_8 eca_price_8
      obtain ⟨y_9, ey_9⟩ : ∃ z : Int32, z = (x4 + (1 : Int32)) := ⟨_, rfl⟩
      replace hw := hw y_9 ey_9
      refine lv_iinc (pc := 48) (v := y_9) (lv' := [(4, .int y_9), (0, .ref (q 18)), (1, .ref (q 12)), (2, .int p2), (3, .int x3)]) hx hb dX2_setPrices_48 hl (k := 4) rfl (by rw [ey_9]; rfl) (by decide) rfl (fun ls hl => ?_)
      refine lv_goto (pc := 51) (tgt := 15) hx hb dX2_setPrices_51 (by decide) ?_
      exact hw _ _ _ hP hD hS (lv_sub hl [1, 2, 3, 4, 0] rfl))
  replace hw := hw (by
    intro x3 x4 ca_price hw H locs ls hP hD hS hl
    refine lv_iload (pc := 57) hx hb dX2_setPrices_57 (lv_at hl 4 rfl) ?_
    refine lv_aload_n (pc := 59) hx hb dX2_setPrices_59 rfl (lv_at hl 0 rfl) ?_
    refine va_get (pc := 60) (D := G) (ci := 2) (v := .int ca_size) (C := RX2) (T := TX2) (N := 13) hx hb hts iw_X2_setPrices_X2 hown hK hP 2 rfl rfl 4 (by decide) (hts _ (List.mem_of_getElem? (i := 4) rfl)) (fun _ h9 => h9) rfl dX2_setPrices_60 ?_
    refine lv_icmp_ge (pc := 63) (tgt := 121) hx hb dX2_setPrices_63 (by decide) (fun c_10 => ?_) (fun c_10 => ?_)
    · replace hw := hw.1 c_10
      exact hRetV (S := (Nat → Int32)) ca_price hx hb hr hlocks hQ hw hP hK hD hS dX2_setPrices_121
    · replace hw := hw.2 c_10
      refine lv_aload_n (pc := 66) hx hb dX2_setPrices_66 rfl (lv_at hl 1 rfl) ?_
      refine va_getN (pc := 67) (D := G) (host := RX10) (ci := 3) (v := .ref (q 14)) (C := RX3) (T := TX3) (N := 6) hx hb hts iw_X2_setPrices_X3 hown hK hP 0 rfl rfl 1 (by decide) (hE.use 8 rfl) (fun _ h9 => h9) rfl dX2_setPrices_67 ?_
      refine lv_aload_n (pc := 70) hx hb dX2_setPrices_70 rfl (lv_at hl 0 rfl) ?_
      refine va_get (pc := 71) (D := G) (ci := 2) (v := .ref (q 21)) (C := RX2) (T := TX2) (N := 13) hx hb hts iw_X2_setPrices_X2 hown hK hP 2 rfl rfl 2 (by decide) (hts _ (List.mem_of_getElem? (i := 1) rfl)) (fun _ h9 => h9) rfl dX2_setPrices_71 ?_
      refine lv_iload (pc := 74) hx hb dX2_setPrices_74 (lv_at hl 4 rfl) ?_
      obtain ⟨h_11, hw⟩ := hw
      refine va_iald (pc := 76) hx hb hK hP 4 0 rfl rfl h_11 dX2_setPrices_76 ?_
      obtain ⟨h_12, hw⟩ := hw
      refine va_iald (pc := 77) hx hb hK hP 1 0 rfl rfl h_12 dX2_setPrices_77 ?_
      refine lv_topi (fun y_13 ey_13 => ?_)
      replace hw := hw y_13 ey_13
      refine lv_istore (pc := 78) (lv' := [(5, .int y_13), (0, .ref (q 18)), (1, .ref (q 12)), (2, .int p2), (3, .int x3), (4, .int x4)]) hx hb dX2_setPrices_78 hl (by decide) rfl (fun ls hl => ?_)
      refine lv_aload_n (pc := 80) hx hb dX2_setPrices_80 rfl (lv_at hl 1 rfl) ?_
      refine va_get (pc := 81) (D := G) (ci := 2) (v := .ref (q 23)) (C := RX2) (T := TX2) (N := 13) hx hb hts iw_X2_setPrices_X2 hown hK hP 2 rfl rfl 5 (by decide) (hts _ (List.mem_of_getElem? (i := 2) rfl)) (fun _ h9 => h9) rfl dX2_setPrices_81 ?_
      refine lv_iconst (pc := 84) (v := (5 : Int32)) hx hb dX2_setPrices_84 (by decide) ?_
      refine lv_iload (pc := 85) hx hb dX2_setPrices_85 (lv_at hl 5 rfl) ?_
      refine lv_iadd (pc := 87) hx hb dX2_setPrices_87 ?_
      refine lv_bipush (pc := 88) (v := (12 : Int32)) hx hb dX2_setPrices_88 (by decide) ?_
      refine lv_imul (pc := 90) hx hb dX2_setPrices_90 ?_
      refine lv_iload_n (pc := 91) hx hb dX2_setPrices_91 rfl (lv_at hl 3 rfl) ?_
      refine lv_iadd (pc := 92) hx hb dX2_setPrices_92 ?_
      refine lv_aload_n (pc := 93) hx hb dX2_setPrices_93 rfl (lv_at hl 1 rfl) ?_
      refine lv_aload_n (pc := 94) hx hb dX2_setPrices_94 rfl (lv_at hl 1 rfl) ?_
      refine va_get (pc := 95) (D := G) (ci := 2) (v := .ref (q 22)) (C := RX2) (T := TX2) (N := 13) hx hb hts iw_X2_setPrices_X2 hown hK hP 2 rfl rfl 3 (by decide) (hts _ (List.mem_of_getElem? (i := 3) rfl)) (fun _ h9 => h9) rfl dX2_setPrices_95 ?_
      refine lv_iload_n (pc := 98) hx hb dX2_setPrices_98 rfl (lv_at hl 3 rfl) ?_
      obtain ⟨h_14, hw⟩ := hw
      refine va_iald (pc := 99) hx hb hK hP 5 0 rfl rfl h_14 dX2_setPrices_99 ?_
      refine lv_aload_n (pc := 100) hx hb dX2_setPrices_100 rfl (lv_at hl 1 rfl) ?_
      refine va_get (pc := 101) (D := G) (ci := 2) (v := .ref (q 22)) (C := RX2) (T := TX2) (N := 13) hx hb hts iw_X2_setPrices_X2 hown hK hP 2 rfl rfl 3 (by decide) (hts _ (List.mem_of_getElem? (i := 3) rfl)) (fun _ h9 => h9) rfl dX2_setPrices_101 ?_
      refine lv_iload (pc := 104) hx hb dX2_setPrices_104 (lv_at hl 5 rfl) ?_
      refine va_iald (pc := 106) hx hb hK hP 5 0 rfl rfl h_11 dX2_setPrices_106 ?_
      refine lv_isub (pc := 107) hx hb dX2_setPrices_107 ?_
      refine lv_iload (pc := 108) hx hb dX2_setPrices_108 (lv_at hl 0 rfl) ?_
      refine lv_iload_n (pc := 110) hx hb dX2_setPrices_110 rfl (lv_at hl 4 rfl) ?_
      refine hCallI (pc := 111) (wr := [oX3 q ev_size, aI K (q 14) 12 ev_house, aI K (q 21) 12 ca_served, aI K (q 22) 12 ca_rank, aI K (q 23) 204 ca_price]) (wsf := fun (u : Unit) => [oX2 q ca_size, aI K (q 20) 100 ca_farInGoes]) [2, 3] [0, 1, 4, 5, 6] (va_runV (As := [.int ((ca_rank p2.toNatClampNeg) - (ca_rank x4.toNatClampNeg)), .int y_13, .int x3]) (rest := [.int ((((5 : Int32) + x4) * (12 : Int32)) + p2), .ref (q 23)]) ⟨hx, hb, hml, hown, hts⟩ (c_X2_way l G K tb q H.size ca_size _ ((ca_rank p2.toNatClampNeg) - (ca_rank x4.toNatClampNeg)) y_13 x3 ca_farInGoes hw) (cwV 3 hts gX2_setPrices_X2_way rfl rfl rfl (by decide +kernel) ⟨Nat.le_of_ble_eq_true rfl, Nat.le_of_ble_eq_true rfl⟩) (hPreV hE hP hK hD hS hA [2, 3] (by decide) rfl rfl rfl rfl (q0 := 2) (ci := 2) rfl) rfl rfl hl.1 rfl (lv_room (Nat.le_of_ble_eq_true rfl)) dX2_setPrices_111 ⟨Nat.zero_le _, Nat.zero_le _⟩) hP hD hS hA rfl rfl (by decide) (by decide) (fun r_15 u H locs hw hP hD hS => ?_)
      have hP : va_P G vwCl [oX3 q ev_size, aI K (q 14) 12 ev_house, oX2 q ca_size, aI K (q 20) 100 ca_farInGoes, aI K (q 21) 12 ca_served, aI K (q 22) 12 ca_rank, aI K (q 23) 204 ca_price] H := hP.sub [0, 1, 5, 6, 2, 3, 4] rfl
      have hD : va_D A [oX3 q ev_size, aI K (q 14) 12 ev_house, oX2 q ca_size, aI K (q 20) 100 ca_farInGoes, aI K (q 21) 12 ca_served, aI K (q 22) 12 ca_rank, aI K (q 23) 204 ca_price] := hD.sub [0, 1, 5, 6, 2, 3, 4] (by decide) rfl
      obtain ⟨h_16, hw⟩ := hw
      refine va_iast (pc := 114) hx hb hK hP hD hS 6 0 rfl rfl h_16 dX2_setPrices_114 (fun H locs hP hD hS => ?_)
      obtain ⟨ca_price_17, eca_price_17⟩ : ∃ z : Nat → Int32, z = upd ca_price ((((5 : Int32) + x4) * (12 : Int32)) + p2).toNatClampNeg r_15 := ⟨_, rfl⟩
      have hP : va_P G vwCl [oX3 q ev_size, aI K (q 14) 12 ev_house, oX2 q ca_size, aI K (q 20) 100 ca_farInGoes, aI K (q 21) 12 ca_served, aI K (q 22) 12 ca_rank, aI K (q 23) 204 ca_price_17] H := by rw [eca_price_17]; exact hP
      have hD : va_D A [oX3 q ev_size, aI K (q 14) 12 ev_house, oX2 q ca_size, aI K (q 20) 100 ca_farInGoes, aI K (q 21) 12 ca_served, aI K (q 22) 12 ca_rank, aI K (q 23) 204 ca_price_17] := by rw [eca_price_17]; exact hD
      replace hw := hw ca_price_17 eca_price_17
      obtain ⟨y_18, ey_18⟩ : ∃ z : Int32, z = (x4 + (1 : Int32)) := ⟨_, rfl⟩
      replace hw := hw y_18 ey_18
      refine lv_iinc (pc := 115) (v := y_18) (lv' := [(4, .int y_18), (5, .int y_13), (0, .ref (q 18)), (1, .ref (q 12)), (2, .int p2), (3, .int x3)]) hx hb dX2_setPrices_115 hl (k := 5) rfl (by rw [ey_18]; rfl) (by decide) rfl (fun ls hl => ?_)
      refine lv_goto (pc := 118) (tgt := 57) hx hb dX2_setPrices_118 (by decide) ?_
      exact hw _ _ _ hP hD hS (lv_sub hl [2, 3, 4, 5, 0] rfl))
  refine lv_aload_n (pc := 0) hx hb dX2_setPrices_0 rfl (lv_at hl 1 rfl) ?_
  refine va_getN (pc := 1) (D := G) (host := RX10) (ci := 3) (v := .ref (q 14)) (C := RX3) (T := TX3) (N := 6) hx hb hts iw_X2_setPrices_X3 hown hK hP 0 rfl rfl 1 (by decide) (hE.use 8 rfl) (fun _ h9 => h9) rfl dX2_setPrices_1 ?_
  refine lv_aload_n (pc := 4) hx hb dX2_setPrices_4 rfl (lv_at hl 0 rfl) ?_
  refine va_get (pc := 5) (D := G) (ci := 2) (v := .ref (q 21)) (C := RX2) (T := TX2) (N := 13) hx hb hts iw_X2_setPrices_X2 hown hK hP 2 rfl rfl 2 (by decide) (hts _ (List.mem_of_getElem? (i := 1) rfl)) (fun _ h9 => h9) rfl dX2_setPrices_5 ?_
  refine lv_iload_n (pc := 8) hx hb dX2_setPrices_8 rfl (lv_at hl 2 rfl) ?_
  obtain ⟨h_1, hw⟩ := hw
  refine va_iald (pc := 9) hx hb hK hP 4 0 rfl rfl h_1 dX2_setPrices_9 ?_
  obtain ⟨h_2, hw⟩ := hw
  refine va_iald (pc := 10) hx hb hK hP 1 0 rfl rfl h_2 dX2_setPrices_10 ?_
  refine lv_topi (fun y_3 ey_3 => ?_)
  replace hw := hw y_3 ey_3
  refine lv_istore_n (pc := 11) (lv' := [(3, .int y_3), (0, .ref (q 18)), (1, .ref (q 12)), (2, .int p2)]) hx hb dX2_setPrices_11 rfl hl (by decide) rfl (fun ls hl => ?_)
  refine lv_iconst (pc := 12) (v := (0 : Int32)) hx hb dX2_setPrices_12 (by decide) ?_
  refine lv_istore (pc := 13) (lv' := [(4, .int (0 : Int32)), (3, .int y_3), (0, .ref (q 18)), (1, .ref (q 12)), (2, .int p2)]) hx hb dX2_setPrices_13 hl (by decide) rfl (fun ls hl => ?_)
  exact hw _ _ _ hP hD hS (lv_sub hl [2, 3, 4, 1, 0] rfl)
def P_X2_setOut (post : (Nat → Int32) → (Nat → Int32) → (Nat → Int32) → (Nat → Int32) → Prop) (p3 : Int32) (st_booked : Nat → Int32) (ev_house : Nat → Int32) (ev_need : Nat → Int32) (ca_farInGoes : Nat → Int32) (ca_served : Nat → Int32) (ca_rank : Nat → Int32) (ca_size : Int32) (ca_price : Nat → Int32) (ca_sent : Nat → Int32) (ca_spare : Nat → Int32) (ca_unmet : Nat → Int32) : Prop :=
  ∀ (X11 : Int32 → (Nat → Int32) → (Nat → Int32) → (Nat → Int32) → (Nat → Int32) → Prop),
  ∀ (X44 : Int32 → (Nat → Int32) → (Nat → Int32) → (Nat → Int32) → (Nat → Int32) → Prop),
  (∀ (x4 : Int32) (ca_price : Nat → Int32) (ca_sent : Nat → Int32) (ca_spare : Nat → Int32) (ca_unmet : Nat → Int32), ((((5 : Int32) ≤ x4 → X44 (0 : Int32) ca_price ca_sent ca_spare ca_unmet) ∧ (¬ (5 : Int32) ≤ x4 → P_X10_cell (fun r_3 => vp_in r_3 30 ∧ vp_in x4 17 ∧ ∀ ca_spare_6 : Nat → Int32, ca_spare_6 = upd ca_spare x4.toNatClampNeg (st_booked r_3.toNatClampNeg) → ∀ y_7 : Int32, y_7 = (x4 + (1 : Int32)) → X11 y_7 ca_price ca_sent ca_spare_6 ca_unmet) x4 p3))) → X11 x4 ca_price ca_sent ca_spare ca_unmet) →
  (∀ (x4 : Int32) (ca_price : Nat → Int32) (ca_sent : Nat → Int32) (ca_spare : Nat → Int32) (ca_unmet : Nat → Int32), (((ca_size ≤ x4 → post ca_price ca_sent ca_spare ca_unmet) ∧ (¬ ca_size ≤ x4 → vp_in x4 12 ∧ vp_in (ca_served x4.toNatClampNeg) 12 ∧ ∀ y_11 : Int32, y_11 = (ev_need (ca_served x4.toNatClampNeg).toNatClampNeg) → vp_in ((5 : Int32) + x4) 17 ∧ ∀ ca_spare_13 : Nat → Int32, ca_spare_13 = upd ca_spare ((5 : Int32) + x4).toNatClampNeg y_11 → ∀ ca_unmet_14 : Nat → Int32, ca_unmet_14 = upd ca_unmet x4.toNatClampNeg y_11 → P_X2_setPrices (fun ca_price_15 => ∀ y_16 : Int32, y_16 = (x4 + (1 : Int32)) → X44 y_16 ca_price_15 ca_sent ca_spare_13 ca_unmet_14) x4 ev_house ca_farInGoes ca_served ca_rank ca_size ca_price))) → X44 x4 ca_price ca_sent ca_spare ca_unmet) →
  P_J7_fill_53178 (fun ca_sent_1 => X11 (0 : Int32) ca_price ca_sent_1 ca_spare ca_unmet) (0 : Int32) 204 ca_sent
abbrev rm_X2_setOut : Room := { frames := 3, cells := 0, slots := 0, locals := 71 }
theorem iw_X2_setOut_X2 : ∀ w ∈ wsX20, w ∈ wsX2_setOut := by decide +kernel
theorem iw_X2_setOut_X3 : ∀ w ∈ wsX30, w ∈ wsX2_setOut := by decide +kernel
theorem iw_X2_setOut_X8 : ∀ w ∈ wsX80, w ∈ wsX2_setOut := by decide +kernel
set_option maxHeartbeats 4000000 in
set_option maxRecDepth 100000 in
theorem c_X2_setOut (l : Launch) (G : va_G) (K : ClassId × ClassId × ClassId) (tb q : Nat → Nat) (sz : Nat) (ev_size : Int32) (post : (Nat → Int32) → (Nat → Int32) → (Nat → Int32) → (Nat → Int32) → Prop) (p3 : Int32) (st_booked : Nat → Int32) (ev_house : Nat → Int32) (ev_need : Nat → Int32) (ca_farInGoes : Nat → Int32) (ca_served : Nat → Int32) (ca_rank : Nat → Int32) (ca_size : Int32) (ca_price : Nat → Int32) (ca_sent : Nat → Int32) (ca_spare : Nat → Int32) (ca_unmet : Nat → Int32) (hw : P_X2_setOut post p3 st_booked ev_house ev_need ca_farInGoes ca_served ca_rank ca_size ca_price ca_sent ca_spare ca_unmet) : Met l yX2_setOut wsX2_setOut rm_X2_setOut (va_Pc [.ref (q 18), .ref (q 12), .ref (q 4), .int p3] (hPre G K tb [oX8 q, aI K (q 5) 30 st_booked, oX3 q ev_size, aI K (q 14) 12 ev_house, aI K (q 16) 12 ev_need, oX2 q ca_size, aI K (q 20) 100 ca_farInGoes, aI K (q 21) 12 ca_served, aI K (q 22) 12 ca_rank, aI K (q 23) 204 ca_price, aI K (q 24) 204 ca_sent, aI K (q 25) 17 ca_spare, aI K (q 26) 12 ca_unmet] sz)) (va_Qv (fun (u : (Nat → Int32) × (Nat → Int32) × (Nat → Int32) × (Nat → Int32)) => post u.1 u.2.1 u.2.2.1 u.2.2.2) (fun u => hB G K (va_A [oX8 q, aI K (q 5) 30 st_booked, oX3 q ev_size, aI K (q 14) 12 ev_house, aI K (q 16) 12 ev_need, oX2 q ca_size, aI K (q 20) 100 ca_farInGoes, aI K (q 21) 12 ca_served, aI K (q 22) 12 ca_rank, aI K (q 23) 204 ca_price, aI K (q 24) 204 ca_sent, aI K (q 25) 17 ca_spare, aI K (q 26) 12 ca_unmet] sz) [oX8 q, aI K (q 5) 30 st_booked, oX3 q ev_size, aI K (q 14) 12 ev_house, aI K (q 16) 12 ev_need, oX2 q ca_size, aI K (q 20) 100 ca_farInGoes, aI K (q 21) 12 ca_served, aI K (q 22) 12 ca_rank, aI K (q 23) 204 u.1, aI K (q 24) 204 u.2.1, aI K (q 25) 17 u.2.2.1, aI K (q 26) 12 u.2.2.2]) (va_A [oX8 q, aI K (q 5) 30 st_booked, oX3 q ev_size, aI K (q 14) 12 ev_house, aI K (q 16) 12 ev_need, oX2 q ca_size, aI K (q 20) 100 ca_farInGoes, aI K (q 21) 12 ca_served, aI K (q 22) 12 ca_rank, aI K (q 23) 204 ca_price, aI K (q 24) 204 ca_sent, aI K (q 25) 17 ca_spare, aI K (q 26) 12 ca_unmet] sz)) 0 0 (va_A [oX8 q, aI K (q 5) 30 st_booked, oX3 q ev_size, aI K (q 14) 12 ev_house, aI K (q 16) 12 ev_need, oX2 q ca_size, aI K (q 20) 100 ca_farInGoes, aI K (q 21) 12 ca_served, aI K (q 22) 12 ca_rank, aI K (q 23) 204 ca_price, aI K (q 24) 204 ca_sent, aI K (q 25) 17 ca_spare, aI K (q 26) 12 ca_unmet] sz) := by
  refine hMet (fun A => va_Qv (fun (u : (Nat → Int32) × (Nat → Int32) × (Nat → Int32) × (Nat → Int32)) => post u.1 u.2.1 u.2.2.1 u.2.2.2) (fun u => hB G K A [oX8 q, aI K (q 5) 30 st_booked, oX3 q ev_size, aI K (q 14) 12 ev_house, aI K (q 16) 12 ev_need, oX2 q ca_size, aI K (q 20) 100 ca_farInGoes, aI K (q 21) 12 ca_served, aI K (q 22) 12 ca_rank, aI K (q 23) 204 u.1, aI K (q 24) 204 u.2.1, aI K (q 25) 17 u.2.2.1, aI K (q 26) 12 u.2.2.2]) A) (by decide) rfl (Nat.le_of_ble_eq_true rfl) ?_
  intro p e s m av below meth c A Q ls hx hb hr hml hts hown hlocks hnm hA hP hK hD hS hE hQ hl
  have hts : ∀ w ∈ wsX2_setOut, w.before av s = true := hts
  have hown : s.vm.findClass RX2 = some m.cls := hown
  have hl : lv_has ls 6 [(0, .ref (q 18)), (1, .ref (q 12)), (2, .ref (q 4)), (3, .int p3)] := hl
  unfold P_X2_setOut at hw
  replace hw := hw (fun (x4 : Int32) (ca_price : Nat → Int32) (ca_sent : Nat → Int32) (ca_spare : Nat → Int32) (ca_unmet : Nat → Int32) => ∀ (H : Heap) (locs : List Loc) (ls : Array Slot), va_P G vwCl [oX8 q, aI K (q 5) 30 st_booked, oX3 q ev_size, aI K (q 14) 12 ev_house, aI K (q 16) 12 ev_need, oX2 q ca_size, aI K (q 20) 100 ca_farInGoes, aI K (q 21) 12 ca_served, aI K (q 22) 12 ca_rank, aI K (q 23) 204 ca_price, aI K (q 24) 204 ca_sent, aI K (q 25) 17 ca_spare, aI K (q 26) 12 ca_unmet] H → va_D A [oX8 q, aI K (q 5) 30 st_booked, oX3 q ev_size, aI K (q 14) 12 ev_house, aI K (q 16) 12 ev_need, oX2 q ca_size, aI K (q 20) 100 ca_farInGoes, aI K (q 21) 12 ca_served, aI K (q 22) 12 ca_rank, aI K (q 23) 204 ca_price, aI K (q 24) 204 ca_sent, aI K (q 25) 17 ca_spare, aI K (q 26) 12 ca_unmet] → va_S A s.heap H locs → lv_has ls 6 [(0, .ref (q 18)), (1, .ref (q 12)), (2, .ref (q 4)), (3, .int p3), (4, .int x4)] → W p l e rm_X2_setOut s m av below meth c H locs 0 0 Q (F0 m 11 ls []))
  replace hw := hw (fun (x4 : Int32) (ca_price : Nat → Int32) (ca_sent : Nat → Int32) (ca_spare : Nat → Int32) (ca_unmet : Nat → Int32) => ∀ (H : Heap) (locs : List Loc) (ls : Array Slot), va_P G vwCl [oX8 q, aI K (q 5) 30 st_booked, oX3 q ev_size, aI K (q 14) 12 ev_house, aI K (q 16) 12 ev_need, oX2 q ca_size, aI K (q 20) 100 ca_farInGoes, aI K (q 21) 12 ca_served, aI K (q 22) 12 ca_rank, aI K (q 23) 204 ca_price, aI K (q 24) 204 ca_sent, aI K (q 25) 17 ca_spare, aI K (q 26) 12 ca_unmet] H → va_D A [oX8 q, aI K (q 5) 30 st_booked, oX3 q ev_size, aI K (q 14) 12 ev_house, aI K (q 16) 12 ev_need, oX2 q ca_size, aI K (q 20) 100 ca_farInGoes, aI K (q 21) 12 ca_served, aI K (q 22) 12 ca_rank, aI K (q 23) 204 ca_price, aI K (q 24) 204 ca_sent, aI K (q 25) 17 ca_spare, aI K (q 26) 12 ca_unmet] → va_S A s.heap H locs → lv_has ls 6 [(0, .ref (q 18)), (1, .ref (q 12)), (4, .int x4)] → W p l e rm_X2_setOut s m av below meth c H locs 0 0 Q (F0 m 44 ls []))
  replace hw := hw (by
    intro x4 ca_price ca_sent ca_spare ca_unmet hw H locs ls hP hD hS hl
    refine lv_iload (pc := 11) hx hb dX2_setOut_11 (lv_at hl 4 rfl) ?_
    refine lv_iconst (pc := 13) (v := (5 : Int32)) hx hb dX2_setOut_13 (by decide) ?_
    refine lv_icmp_ge (pc := 14) (tgt := 41) hx hb dX2_setOut_14 (by decide) (fun c_2 => ?_) (fun c_2 => ?_)
    · replace hw := hw.1 c_2
      refine lv_iconst (pc := 41) (v := (0 : Int32)) hx hb dX2_setOut_41 (by decide) ?_
      refine lv_istore (pc := 42) (lv' := [(4, .int (0 : Int32)), (0, .ref (q 18)), (1, .ref (q 12)), (2, .ref (q 4)), (3, .int p3)]) hx hb dX2_setOut_42 hl (by decide) rfl (fun ls hl => ?_)
      exact hw _ _ _ hP hD hS (lv_sub hl [1, 2, 0] rfl)
    · replace hw := hw.2 c_2
      refine lv_aload_n (pc := 17) hx hb dX2_setOut_17 rfl (lv_at hl 0 rfl) ?_
      refine va_get (pc := 18) (D := G) (ci := 2) (v := .ref (q 25)) (C := RX2) (T := TX2) (N := 13) hx hb hts iw_X2_setOut_X2 hown hK hP 5 rfl rfl 7 (by decide) (hts _ (List.mem_of_getElem? (i := 2) rfl)) (fun _ h9 => h9) rfl dX2_setOut_18 ?_
      refine lv_iload (pc := 21) hx hb dX2_setOut_21 (lv_at hl 4 rfl) ?_
      refine lv_aload_n (pc := 23) hx hb dX2_setOut_23 rfl (lv_at hl 2 rfl) ?_
      refine va_getN (pc := 24) (D := G) (host := RX10) (ci := 8) (v := .ref (q 5)) (C := RX8) (T := TX8) (N := 2) hx hb hts iw_X2_setOut_X8 hown hK hP 0 rfl rfl 0 (by decide) (hE.use 3 rfl) (fun _ h9 => h9) rfl dX2_setOut_24 ?_
      refine lv_iload (pc := 27) hx hb dX2_setOut_27 (lv_at hl 4 rfl) ?_
      refine lv_iload_n (pc := 29) hx hb dX2_setOut_29 rfl (lv_at hl 3 rfl) ?_
      refine hCallI (pc := 30) (wr := [oX8 q, aI K (q 5) 30 st_booked, oX3 q ev_size, aI K (q 14) 12 ev_house, aI K (q 16) 12 ev_need, oX2 q ca_size, aI K (q 20) 100 ca_farInGoes, aI K (q 21) 12 ca_served, aI K (q 22) 12 ca_rank, aI K (q 23) 204 ca_price, aI K (q 24) 204 ca_sent, aI K (q 25) 17 ca_spare, aI K (q 26) 12 ca_unmet]) (wsf := fun (u : Unit) => []) [] [0, 1, 2, 3, 4, 5, 6, 7, 8, 9, 10, 11, 12] (va_runSN (As := [.int x4, .int p3]) (rest := [.ref (q 5), .int x4, .ref (q 25)]) ⟨hx, hb, hml, hown, hts⟩ (c_X10_cell l G K tb q H.size _ x4 p3 hw) ⟨va_cnB 2 hts gX2_setOut_X10_cell_n123 rfl rfl rfl (hE.nw 50 rfl) (hts _ (List.mem_of_getElem? (i := 11) rfl)) (by decide +kernel) ⟨Nat.le_of_ble_eq_true rfl, Nat.le_of_ble_eq_true rfl⟩, (hts _ (List.mem_of_getElem? (i := 10) rfl)), trivial⟩ (hPreS hE hP hK hD hS hA [] (by decide) rfl rfl) rfl rfl hl.1 rfl (lv_room (Nat.le_of_ble_eq_true rfl)) dX2_setOut_30 ⟨Nat.zero_le _, Nat.zero_le _⟩) hP hD hS hA rfl rfl (by decide) (by decide) (fun r_3 u H locs hw hP hD hS => ?_)
      have hP : va_P G vwCl [oX8 q, aI K (q 5) 30 st_booked, oX3 q ev_size, aI K (q 14) 12 ev_house, aI K (q 16) 12 ev_need, oX2 q ca_size, aI K (q 20) 100 ca_farInGoes, aI K (q 21) 12 ca_served, aI K (q 22) 12 ca_rank, aI K (q 23) 204 ca_price, aI K (q 24) 204 ca_sent, aI K (q 25) 17 ca_spare, aI K (q 26) 12 ca_unmet] H := hP.sub [0, 1, 2, 3, 4, 5, 6, 7, 8, 9, 10, 11, 12] rfl
      have hD : va_D A [oX8 q, aI K (q 5) 30 st_booked, oX3 q ev_size, aI K (q 14) 12 ev_house, aI K (q 16) 12 ev_need, oX2 q ca_size, aI K (q 20) 100 ca_farInGoes, aI K (q 21) 12 ca_served, aI K (q 22) 12 ca_rank, aI K (q 23) 204 ca_price, aI K (q 24) 204 ca_sent, aI K (q 25) 17 ca_spare, aI K (q 26) 12 ca_unmet] := hD.sub [0, 1, 2, 3, 4, 5, 6, 7, 8, 9, 10, 11, 12] (by decide) rfl
      obtain ⟨h_4, hw⟩ := hw
      refine va_iald (pc := 33) hx hb hK hP 1 0 rfl rfl h_4 dX2_setOut_33 ?_
      obtain ⟨h_5, hw⟩ := hw
      refine va_iast (pc := 34) hx hb hK hP hD hS 11 0 rfl rfl h_5 dX2_setOut_34 (fun H locs hP hD hS => ?_)
      obtain ⟨ca_spare_6, eca_spare_6⟩ : ∃ z : Nat → Int32, z = upd ca_spare x4.toNatClampNeg (st_booked r_3.toNatClampNeg) := ⟨_, rfl⟩
      have hP : va_P G vwCl [oX8 q, aI K (q 5) 30 st_booked, oX3 q ev_size, aI K (q 14) 12 ev_house, aI K (q 16) 12 ev_need, oX2 q ca_size, aI K (q 20) 100 ca_farInGoes, aI K (q 21) 12 ca_served, aI K (q 22) 12 ca_rank, aI K (q 23) 204 ca_price, aI K (q 24) 204 ca_sent, aI K (q 25) 17 ca_spare_6, aI K (q 26) 12 ca_unmet] H := by rw [eca_spare_6]; exact hP
      have hD : va_D A [oX8 q, aI K (q 5) 30 st_booked, oX3 q ev_size, aI K (q 14) 12 ev_house, aI K (q 16) 12 ev_need, oX2 q ca_size, aI K (q 20) 100 ca_farInGoes, aI K (q 21) 12 ca_served, aI K (q 22) 12 ca_rank, aI K (q 23) 204 ca_price, aI K (q 24) 204 ca_sent, aI K (q 25) 17 ca_spare_6, aI K (q 26) 12 ca_unmet] := by rw [eca_spare_6]; exact hD
      replace hw := hw ca_spare_6 eca_spare_6
      obtain ⟨y_7, ey_7⟩ : ∃ z : Int32, z = (x4 + (1 : Int32)) := ⟨_, rfl⟩
      replace hw := hw y_7 ey_7
      refine lv_iinc (pc := 35) (v := y_7) (lv' := [(4, .int y_7), (0, .ref (q 18)), (1, .ref (q 12)), (2, .ref (q 4)), (3, .int p3)]) hx hb dX2_setOut_35 hl (k := 4) rfl (by rw [ey_7]; rfl) (by decide) rfl (fun ls hl => ?_)
      refine lv_goto (pc := 38) (tgt := 11) hx hb dX2_setOut_38 (by decide) ?_
      exact hw _ _ _ hP hD hS (lv_sub hl [1, 2, 3, 4, 0] rfl))
  replace hw := hw (by
    intro x4 ca_price ca_sent ca_spare ca_unmet hw H locs ls hP hD hS hl
    refine lv_iload (pc := 44) hx hb dX2_setOut_44 (lv_at hl 2 rfl) ?_
    refine lv_aload_n (pc := 46) hx hb dX2_setOut_46 rfl (lv_at hl 0 rfl) ?_
    refine va_get (pc := 47) (D := G) (ci := 2) (v := .int ca_size) (C := RX2) (T := TX2) (N := 13) hx hb hts iw_X2_setOut_X2 hown hK hP 5 rfl rfl 4 (by decide) (hts _ (List.mem_of_getElem? (i := 3) rfl)) (fun _ h9 => h9) rfl dX2_setOut_47 ?_
    refine lv_icmp_ge (pc := 50) (tgt := 100) hx hb dX2_setOut_50 (by decide) (fun c_8 => ?_) (fun c_8 => ?_)
    · replace hw := hw.1 c_8
      exact hRetV (S := (Nat → Int32) × (Nat → Int32) × (Nat → Int32) × (Nat → Int32)) (ca_price, ca_sent, ca_spare, ca_unmet) hx hb hr hlocks hQ hw hP hK hD hS dX2_setOut_100
    · replace hw := hw.2 c_8
      refine lv_aload_n (pc := 53) hx hb dX2_setOut_53 rfl (lv_at hl 1 rfl) ?_
      refine va_getN (pc := 54) (D := G) (host := RX10) (ci := 3) (v := .ref (q 16)) (C := RX3) (T := TX3) (N := 6) hx hb hts iw_X2_setOut_X3 hown hK hP 2 rfl rfl 3 (by decide) (hE.use 11 rfl) (fun _ h9 => h9) rfl dX2_setOut_54 ?_
      refine lv_aload_n (pc := 57) hx hb dX2_setOut_57 rfl (lv_at hl 0 rfl) ?_
      refine va_get (pc := 58) (D := G) (ci := 2) (v := .ref (q 21)) (C := RX2) (T := TX2) (N := 13) hx hb hts iw_X2_setOut_X2 hown hK hP 5 rfl rfl 2 (by decide) (hts _ (List.mem_of_getElem? (i := 4) rfl)) (fun _ h9 => h9) rfl dX2_setOut_58 ?_
      refine lv_iload (pc := 61) hx hb dX2_setOut_61 (lv_at hl 2 rfl) ?_
      obtain ⟨h_9, hw⟩ := hw
      refine va_iald (pc := 63) hx hb hK hP 7 0 rfl rfl h_9 dX2_setOut_63 ?_
      obtain ⟨h_10, hw⟩ := hw
      refine va_iald (pc := 64) hx hb hK hP 4 0 rfl rfl h_10 dX2_setOut_64 ?_
      refine lv_topi (fun y_11 ey_11 => ?_)
      replace hw := hw y_11 ey_11
      refine lv_istore (pc := 65) (lv' := [(5, .int y_11), (0, .ref (q 18)), (1, .ref (q 12)), (4, .int x4)]) hx hb dX2_setOut_65 hl (by decide) rfl (fun ls hl => ?_)
      refine lv_aload_n (pc := 67) hx hb dX2_setOut_67 rfl (lv_at hl 1 rfl) ?_
      refine va_get (pc := 68) (D := G) (ci := 2) (v := .ref (q 25)) (C := RX2) (T := TX2) (N := 13) hx hb hts iw_X2_setOut_X2 hown hK hP 5 rfl rfl 7 (by decide) (hts _ (List.mem_of_getElem? (i := 2) rfl)) (fun _ h9 => h9) rfl dX2_setOut_68 ?_
      refine lv_iconst (pc := 71) (v := (5 : Int32)) hx hb dX2_setOut_71 (by decide) ?_
      refine lv_iload (pc := 72) hx hb dX2_setOut_72 (lv_at hl 3 rfl) ?_
      refine lv_iadd (pc := 74) hx hb dX2_setOut_74 ?_
      refine lv_iload (pc := 75) hx hb dX2_setOut_75 (lv_at hl 0 rfl) ?_
      obtain ⟨h_12, hw⟩ := hw
      refine va_iast (pc := 77) hx hb hK hP hD hS 11 0 rfl rfl h_12 dX2_setOut_77 (fun H locs hP hD hS => ?_)
      obtain ⟨ca_spare_13, eca_spare_13⟩ : ∃ z : Nat → Int32, z = upd ca_spare ((5 : Int32) + x4).toNatClampNeg y_11 := ⟨_, rfl⟩
      have hP : va_P G vwCl [oX8 q, aI K (q 5) 30 st_booked, oX3 q ev_size, aI K (q 14) 12 ev_house, aI K (q 16) 12 ev_need, oX2 q ca_size, aI K (q 20) 100 ca_farInGoes, aI K (q 21) 12 ca_served, aI K (q 22) 12 ca_rank, aI K (q 23) 204 ca_price, aI K (q 24) 204 ca_sent, aI K (q 25) 17 ca_spare_13, aI K (q 26) 12 ca_unmet] H := by rw [eca_spare_13]; exact hP
      have hD : va_D A [oX8 q, aI K (q 5) 30 st_booked, oX3 q ev_size, aI K (q 14) 12 ev_house, aI K (q 16) 12 ev_need, oX2 q ca_size, aI K (q 20) 100 ca_farInGoes, aI K (q 21) 12 ca_served, aI K (q 22) 12 ca_rank, aI K (q 23) 204 ca_price, aI K (q 24) 204 ca_sent, aI K (q 25) 17 ca_spare_13, aI K (q 26) 12 ca_unmet] := by rw [eca_spare_13]; exact hD
      replace hw := hw ca_spare_13 eca_spare_13
      refine lv_aload_n (pc := 78) hx hb dX2_setOut_78 rfl (lv_at hl 1 rfl) ?_
      refine va_get (pc := 79) (D := G) (ci := 2) (v := .ref (q 26)) (C := RX2) (T := TX2) (N := 13) hx hb hts iw_X2_setOut_X2 hown hK hP 5 rfl rfl 8 (by decide) (hts _ (List.mem_of_getElem? (i := 5) rfl)) (fun _ h9 => h9) rfl dX2_setOut_79 ?_
      refine lv_iload (pc := 82) hx hb dX2_setOut_82 (lv_at hl 3 rfl) ?_
      refine lv_iload (pc := 84) hx hb dX2_setOut_84 (lv_at hl 0 rfl) ?_
      refine va_iast (pc := 86) hx hb hK hP hD hS 12 0 rfl rfl h_9 dX2_setOut_86 (fun H locs hP hD hS => ?_)
      obtain ⟨ca_unmet_14, eca_unmet_14⟩ : ∃ z : Nat → Int32, z = upd ca_unmet x4.toNatClampNeg y_11 := ⟨_, rfl⟩
      have hP : va_P G vwCl [oX8 q, aI K (q 5) 30 st_booked, oX3 q ev_size, aI K (q 14) 12 ev_house, aI K (q 16) 12 ev_need, oX2 q ca_size, aI K (q 20) 100 ca_farInGoes, aI K (q 21) 12 ca_served, aI K (q 22) 12 ca_rank, aI K (q 23) 204 ca_price, aI K (q 24) 204 ca_sent, aI K (q 25) 17 ca_spare_13, aI K (q 26) 12 ca_unmet_14] H := by rw [eca_unmet_14]; exact hP
      have hD : va_D A [oX8 q, aI K (q 5) 30 st_booked, oX3 q ev_size, aI K (q 14) 12 ev_house, aI K (q 16) 12 ev_need, oX2 q ca_size, aI K (q 20) 100 ca_farInGoes, aI K (q 21) 12 ca_served, aI K (q 22) 12 ca_rank, aI K (q 23) 204 ca_price, aI K (q 24) 204 ca_sent, aI K (q 25) 17 ca_spare_13, aI K (q 26) 12 ca_unmet_14] := by rw [eca_unmet_14]; exact hD
      replace hw := hw ca_unmet_14 eca_unmet_14
      refine lv_aload_n (pc := 87) hx hb dX2_setOut_87 rfl (lv_at hl 1 rfl) ?_
      refine lv_aload_n (pc := 88) hx hb dX2_setOut_88 rfl (lv_at hl 2 rfl) ?_
      refine lv_iload (pc := 89) hx hb dX2_setOut_89 (lv_at hl 3 rfl) ?_
      refine hCallV (pc := 91) (wr := [oX8 q, aI K (q 5) 30 st_booked, aI K (q 16) 12 ev_need, aI K (q 24) 204 ca_sent, aI K (q 25) 17 ca_spare_13, aI K (q 26) 12 ca_unmet_14]) (wsf := fun (u : (Nat → Int32)) => [oX3 q ev_size, aI K (q 14) 12 ev_house, oX2 q ca_size, aI K (q 20) 100 ca_farInGoes, aI K (q 21) 12 ca_served, aI K (q 22) 12 ca_rank, aI K (q 23) 204 u]) [2, 3, 5, 6, 7, 8, 9] [0, 1, 4, 10, 11, 12] (va_runV (As := [.ref (q 12), .int x4]) (rest := []) ⟨hx, hb, hml, hown, hts⟩ (c_X2_setPrices l G K tb q H.size ev_size _ x4 ev_house ca_farInGoes ca_served ca_rank ca_size ca_price hw) (cwV 2 hts gX2_setOut_X2_setPrices rfl rfl rfl (by decide +kernel) ⟨Nat.le_of_ble_eq_true rfl, Nat.le_of_ble_eq_true rfl⟩) (hPreV hE hP hK hD hS hA [2, 3, 5, 6, 7, 8, 9] (by decide) rfl rfl rfl rfl (q0 := 5) (ci := 2) rfl) rfl rfl hl.1 rfl (lv_room (Nat.le_of_ble_eq_true rfl)) dX2_setOut_91 ⟨Nat.zero_le _, Nat.zero_le _⟩) hP hD hS hA rfl rfl (by decide) (by decide) (fun u H locs hw hP hD hS => ?_)
      obtain ⟨ca_price_15, rfl⟩ : ∃ z, z = u := ⟨_, rfl⟩
      have hP : va_P G vwCl [oX8 q, aI K (q 5) 30 st_booked, oX3 q ev_size, aI K (q 14) 12 ev_house, aI K (q 16) 12 ev_need, oX2 q ca_size, aI K (q 20) 100 ca_farInGoes, aI K (q 21) 12 ca_served, aI K (q 22) 12 ca_rank, aI K (q 23) 204 ca_price_15, aI K (q 24) 204 ca_sent, aI K (q 25) 17 ca_spare_13, aI K (q 26) 12 ca_unmet_14] H := hP.sub [0, 1, 6, 7, 2, 8, 9, 10, 11, 12, 3, 4, 5] rfl
      have hD : va_D A [oX8 q, aI K (q 5) 30 st_booked, oX3 q ev_size, aI K (q 14) 12 ev_house, aI K (q 16) 12 ev_need, oX2 q ca_size, aI K (q 20) 100 ca_farInGoes, aI K (q 21) 12 ca_served, aI K (q 22) 12 ca_rank, aI K (q 23) 204 ca_price_15, aI K (q 24) 204 ca_sent, aI K (q 25) 17 ca_spare_13, aI K (q 26) 12 ca_unmet_14] := hD.sub [0, 1, 6, 7, 2, 8, 9, 10, 11, 12, 3, 4, 5] (by decide) rfl
      obtain ⟨y_16, ey_16⟩ : ∃ z : Int32, z = (x4 + (1 : Int32)) := ⟨_, rfl⟩
      replace hw := hw y_16 ey_16
      refine lv_iinc (pc := 94) (v := y_16) (lv' := [(4, .int y_16), (5, .int y_11), (0, .ref (q 18)), (1, .ref (q 12))]) hx hb dX2_setOut_94 hl (k := 3) rfl (by rw [ey_16]; rfl) (by decide) rfl (fun ls hl => ?_)
      refine lv_goto (pc := 97) (tgt := 44) hx hb dX2_setOut_97 (by decide) ?_
      exact hw _ _ _ hP hD hS (lv_sub hl [2, 3, 0] rfl))
  refine lv_aload_n (pc := 0) hx hb dX2_setOut_0 rfl (lv_at hl 0 rfl) ?_
  refine va_get (pc := 1) (D := G) (ci := 2) (v := .ref (q 24)) (C := RX2) (T := TX2) (N := 13) hx hb hts iw_X2_setOut_X2 hown hK hP 5 rfl rfl 6 (by decide) (hts _ (List.mem_of_getElem? (i := 1) rfl)) (fun _ h9 => h9) rfl dX2_setOut_1 ?_
  refine lv_iconst (pc := 4) (v := (0 : Int32)) hx hb dX2_setOut_4 (by decide) ?_
  refine hCallV (pc := 5) (wr := [oX8 q, aI K (q 5) 30 st_booked, oX3 q ev_size, aI K (q 14) 12 ev_house, aI K (q 16) 12 ev_need, oX2 q ca_size, aI K (q 20) 100 ca_farInGoes, aI K (q 21) 12 ca_served, aI K (q 22) 12 ca_rank, aI K (q 23) 204 ca_price, aI K (q 25) 17 ca_spare, aI K (q 26) 12 ca_unmet]) (wsf := fun (u : (Nat → Int32)) => [aI K (q 24) 204 u]) [10] [0, 1, 2, 3, 4, 5, 6, 7, 8, 9, 11, 12] (va_runS (As := [.ref (q 24), .int (0 : Int32)]) (rest := []) ⟨hx, hb, hml, hown, hts⟩ (c_J7_fill_53178 l G K tb q s.heap.size (q 24) 204 _ (0 : Int32) ca_sent hw) (va_cwS 2 hts gX2_setOut_J7_fill_53178 rfl rfl rfl (by decide +kernel) ⟨Nat.le_of_ble_eq_true rfl, Nat.le_of_ble_eq_true rfl⟩) (hPreS hE hP hK hD hS hA [10] (by decide) rfl rfl) rfl rfl hl.1 rfl (lv_room (Nat.le_of_ble_eq_true rfl)) dX2_setOut_5 ⟨Nat.zero_le _, Nat.zero_le _⟩) hP hD hS hA rfl rfl (by decide) (by decide) (fun u H locs hw hP hD hS => ?_)
  obtain ⟨ca_sent_1, rfl⟩ : ∃ z, z = u := ⟨_, rfl⟩
  have hP : va_P G vwCl [oX8 q, aI K (q 5) 30 st_booked, oX3 q ev_size, aI K (q 14) 12 ev_house, aI K (q 16) 12 ev_need, oX2 q ca_size, aI K (q 20) 100 ca_farInGoes, aI K (q 21) 12 ca_served, aI K (q 22) 12 ca_rank, aI K (q 23) 204 ca_price, aI K (q 24) 204 ca_sent_1, aI K (q 25) 17 ca_spare, aI K (q 26) 12 ca_unmet] H := hP.sub [0, 1, 2, 3, 4, 5, 6, 7, 8, 9, 12, 10, 11] rfl
  have hD : va_D A [oX8 q, aI K (q 5) 30 st_booked, oX3 q ev_size, aI K (q 14) 12 ev_house, aI K (q 16) 12 ev_need, oX2 q ca_size, aI K (q 20) 100 ca_farInGoes, aI K (q 21) 12 ca_served, aI K (q 22) 12 ca_rank, aI K (q 23) 204 ca_price, aI K (q 24) 204 ca_sent_1, aI K (q 25) 17 ca_spare, aI K (q 26) 12 ca_unmet] := hD.sub [0, 1, 2, 3, 4, 5, 6, 7, 8, 9, 12, 10, 11] (by decide) rfl
  refine lv_iconst (pc := 8) (v := (0 : Int32)) hx hb dX2_setOut_8 (by decide) ?_
  refine lv_istore (pc := 9) (lv' := [(4, .int (0 : Int32)), (0, .ref (q 18)), (1, .ref (q 12)), (2, .ref (q 4)), (3, .int p3)]) hx hb dX2_setOut_9 hl (by decide) rfl (fun ls hl => ?_)
  exact hw _ _ _ hP hD hS (lv_sub hl [1, 2, 3, 4, 0] rfl)
def P_X2_reachEvents (post : (Nat → Int32) → (Nat → Int32) → Prop) (ca_size : Int32) (ca_price : Nat → Int32) (ca_wayToSource : Nat → Int32) (ca_wayToEvent : Nat → Int32) (ca_aheadOfEvent : Nat → Int32) : Prop :=
  ∀ (X2 : Int32 → (Nat → Int32) → (Nat → Int32) → Prop),
  ∀ (X28 : Int32 → Int32 → (Nat → Int32) → (Nat → Int32) → Prop),
  (∀ (x1 : Int32) (ca_wayToEvent : Nat → Int32) (ca_aheadOfEvent : Nat → Int32), (((((5 : Int32) + ca_size) ≤ x1 → post ca_wayToEvent ca_aheadOfEvent) ∧ (¬ ((5 : Int32) + ca_size) ≤ x1 → vp_in x1 17 ∧ (((ca_wayToSource x1.toNatClampNeg) < (1000000 : Int32) → X28 x1 (0 : Int32) ca_wayToEvent ca_aheadOfEvent) ∧ (¬ (ca_wayToSource x1.toNatClampNeg) < (1000000 : Int32) → ∀ y_4 : Int32, y_4 = (x1 + (1 : Int32)) → X2 y_4 ca_wayToEvent ca_aheadOfEvent))))) → X2 x1 ca_wayToEvent ca_aheadOfEvent) →
  (∀ (x1 : Int32) (x2 : Int32) (ca_wayToEvent : Nat → Int32) (ca_aheadOfEvent : Nat → Int32), (((ca_size ≤ x2 → ∀ y_6 : Int32, y_6 = (x1 + (1 : Int32)) → X2 y_6 ca_wayToEvent ca_aheadOfEvent) ∧ (¬ ca_size ≤ x2 → vp_in ((x1 * (12 : Int32)) + x2) 204 ∧ ∀ y_8 : Int32, y_8 = (ca_price ((x1 * (12 : Int32)) + x2).toNatClampNeg) → (((1000000 : Int32) ≤ y_8 → ∀ y_10 : Int32, y_10 = (x2 + (1 : Int32)) → X28 x1 y_10 ca_wayToEvent ca_aheadOfEvent) ∧ (¬ (1000000 : Int32) ≤ y_8 → vp_in x1 17 ∧ vp_in x2 12 ∧ (((ca_wayToEvent x2.toNatClampNeg) ≤ ((ca_wayToSource x1.toNatClampNeg) + y_8) → ∀ y_14 : Int32, y_14 = (x2 + (1 : Int32)) → X28 x1 y_14 ca_wayToEvent ca_aheadOfEvent) ∧ (¬ (ca_wayToEvent x2.toNatClampNeg) ≤ ((ca_wayToSource x1.toNatClampNeg) + y_8) → ∀ ca_wayToEvent_15 : Nat → Int32, ca_wayToEvent_15 = upd ca_wayToEvent x2.toNatClampNeg ((ca_wayToSource x1.toNatClampNeg) + y_8) → ∀ ca_aheadOfEvent_16 : Nat → Int32, ca_aheadOfEvent_16 = upd ca_aheadOfEvent x2.toNatClampNeg x1 → ∀ y_17 : Int32, y_17 = (x2 + (1 : Int32)) → X28 x1 y_17 ca_wayToEvent_15 ca_aheadOfEvent_16))))))) → X28 x1 x2 ca_wayToEvent ca_aheadOfEvent) →
  X2 (0 : Int32) ca_wayToEvent ca_aheadOfEvent
abbrev rm_X2_reachEvents : Room := { frames := 0, cells := 0, slots := 0, locals := 0 }
theorem iw_X2_reachEvents_X2 : ∀ w ∈ wsX20, w ∈ wsX2_reachEvents := by decide +kernel
set_option maxHeartbeats 4000000 in
set_option maxRecDepth 100000 in
theorem c_X2_reachEvents (l : Launch) (G : va_G) (K : ClassId × ClassId × ClassId) (tb q : Nat → Nat) (sz : Nat) (post : (Nat → Int32) → (Nat → Int32) → Prop) (ca_size : Int32) (ca_price : Nat → Int32) (ca_wayToSource : Nat → Int32) (ca_wayToEvent : Nat → Int32) (ca_aheadOfEvent : Nat → Int32) (hw : P_X2_reachEvents post ca_size ca_price ca_wayToSource ca_wayToEvent ca_aheadOfEvent) : Met l yX2_reachEvents wsX2_reachEvents rm_X2_reachEvents (va_Pc [.ref (q 18)] (hPre G K tb [oX2 q ca_size, aI K (q 23) 204 ca_price, aI K (q 27) 17 ca_wayToSource, aI K (q 28) 12 ca_wayToEvent, aI K (q 30) 12 ca_aheadOfEvent] sz)) (va_Qv (fun (u : (Nat → Int32) × (Nat → Int32)) => post u.1 u.2) (fun u => hB G K (va_A [oX2 q ca_size, aI K (q 23) 204 ca_price, aI K (q 27) 17 ca_wayToSource, aI K (q 28) 12 ca_wayToEvent, aI K (q 30) 12 ca_aheadOfEvent] sz) [oX2 q ca_size, aI K (q 23) 204 ca_price, aI K (q 27) 17 ca_wayToSource, aI K (q 28) 12 u.1, aI K (q 30) 12 u.2]) (va_A [oX2 q ca_size, aI K (q 23) 204 ca_price, aI K (q 27) 17 ca_wayToSource, aI K (q 28) 12 ca_wayToEvent, aI K (q 30) 12 ca_aheadOfEvent] sz)) 0 0 (va_A [oX2 q ca_size, aI K (q 23) 204 ca_price, aI K (q 27) 17 ca_wayToSource, aI K (q 28) 12 ca_wayToEvent, aI K (q 30) 12 ca_aheadOfEvent] sz) := by
  refine hMet (fun A => va_Qv (fun (u : (Nat → Int32) × (Nat → Int32)) => post u.1 u.2) (fun u => hB G K A [oX2 q ca_size, aI K (q 23) 204 ca_price, aI K (q 27) 17 ca_wayToSource, aI K (q 28) 12 u.1, aI K (q 30) 12 u.2]) A) (by decide) rfl (Nat.le_of_ble_eq_true rfl) ?_
  intro p e s m av below meth c A Q ls hx hb hr hml hts hown hlocks hnm hA hP hK hD hS hE hQ hl
  have hts : ∀ w ∈ wsX2_reachEvents, w.before av s = true := hts
  have hown : s.vm.findClass RX2 = some m.cls := hown
  have hl : lv_has ls 4 [(0, .ref (q 18))] := hl
  unfold P_X2_reachEvents at hw
  replace hw := hw (fun (x1 : Int32) (ca_wayToEvent : Nat → Int32) (ca_aheadOfEvent : Nat → Int32) => ∀ (H : Heap) (locs : List Loc) (ls : Array Slot), va_P G vwCl [oX2 q ca_size, aI K (q 23) 204 ca_price, aI K (q 27) 17 ca_wayToSource, aI K (q 28) 12 ca_wayToEvent, aI K (q 30) 12 ca_aheadOfEvent] H → va_D A [oX2 q ca_size, aI K (q 23) 204 ca_price, aI K (q 27) 17 ca_wayToSource, aI K (q 28) 12 ca_wayToEvent, aI K (q 30) 12 ca_aheadOfEvent] → va_S A s.heap H locs → lv_has ls 4 [(0, .ref (q 18)), (1, .int x1)] → W p l e rm_X2_reachEvents s m av below meth c H locs 0 0 Q (F0 m 2 ls []))
  replace hw := hw (fun (x1 : Int32) (x2 : Int32) (ca_wayToEvent : Nat → Int32) (ca_aheadOfEvent : Nat → Int32) => ∀ (H : Heap) (locs : List Loc) (ls : Array Slot), va_P G vwCl [oX2 q ca_size, aI K (q 23) 204 ca_price, aI K (q 27) 17 ca_wayToSource, aI K (q 28) 12 ca_wayToEvent, aI K (q 30) 12 ca_aheadOfEvent] H → va_D A [oX2 q ca_size, aI K (q 23) 204 ca_price, aI K (q 27) 17 ca_wayToSource, aI K (q 28) 12 ca_wayToEvent, aI K (q 30) 12 ca_aheadOfEvent] → va_S A s.heap H locs → lv_has ls 4 [(0, .ref (q 18)), (1, .int x1), (2, .int x2)] → W p l e rm_X2_reachEvents s m av below meth c H locs 0 0 Q (F0 m 28 ls []))
  replace hw := hw (by
    intro x1 ca_wayToEvent ca_aheadOfEvent hw H locs ls hP hD hS hl
    refine lv_iload_n (pc := 2) hx hb dX2_reachEvents_2 rfl (lv_at hl 1 rfl) ?_
    refine lv_iconst (pc := 3) (v := (5 : Int32)) hx hb dX2_reachEvents_3 (by decide) ?_
    refine lv_aload_n (pc := 4) hx hb dX2_reachEvents_4 rfl (lv_at hl 0 rfl) ?_
    refine va_get (pc := 5) (D := G) (ci := 2) (v := .int ca_size) (C := RX2) (T := TX2) (N := 13) hx hb hts iw_X2_reachEvents_X2 hown hK hP 0 rfl rfl 4 (by decide) (hts _ (List.mem_of_getElem? (i := 1) rfl)) (fun _ h9 => h9) rfl dX2_reachEvents_5 ?_
    refine lv_iadd (pc := 8) hx hb dX2_reachEvents_8 ?_
    refine lv_icmp_ge (pc := 9) (tgt := 104) hx hb dX2_reachEvents_9 (by decide) (fun c_1 => ?_) (fun c_1 => ?_)
    · replace hw := hw.1 c_1
      exact hRetV (S := (Nat → Int32) × (Nat → Int32)) (ca_wayToEvent, ca_aheadOfEvent) hx hb hr hlocks hQ hw hP hK hD hS dX2_reachEvents_104
    · replace hw := hw.2 c_1
      refine lv_aload_n (pc := 12) hx hb dX2_reachEvents_12 rfl (lv_at hl 0 rfl) ?_
      refine va_get (pc := 13) (D := G) (ci := 2) (v := .ref (q 27)) (C := RX2) (T := TX2) (N := 13) hx hb hts iw_X2_reachEvents_X2 hown hK hP 0 rfl rfl 9 (by decide) (hts _ (List.mem_of_getElem? (i := 2) rfl)) (fun _ h9 => h9) rfl dX2_reachEvents_13 ?_
      refine lv_iload_n (pc := 16) hx hb dX2_reachEvents_16 rfl (lv_at hl 1 rfl) ?_
      obtain ⟨h_2, hw⟩ := hw
      refine va_iald (pc := 17) hx hb hK hP 2 0 rfl rfl h_2 dX2_reachEvents_17 ?_
      refine lv_ldc (pc := 18) (v := (1000000 : Int32)) hx hb hown (hts _ (List.mem_of_getElem? (i := 3) rfl)) dX2_reachEvents_18 ?_
      refine lv_icmp_lt (pc := 20) (tgt := 26) hx hb dX2_reachEvents_20 (by decide) (fun c_3 => ?_) (fun c_3 => ?_)
      · replace hw := hw.1 c_3
        refine lv_iconst (pc := 26) (v := (0 : Int32)) hx hb dX2_reachEvents_26 (by decide) ?_
        refine lv_istore_n (pc := 27) (lv' := [(2, .int (0 : Int32)), (0, .ref (q 18)), (1, .int x1)]) hx hb dX2_reachEvents_27 rfl hl (by decide) rfl (fun ls hl => ?_)
        exact hw _ _ _ hP hD hS (lv_sub hl [1, 2, 0] rfl)
      · replace hw := hw.2 c_3
        refine lv_goto (pc := 23) (tgt := 98) hx hb dX2_reachEvents_23 (by decide) ?_
        obtain ⟨y_4, ey_4⟩ : ∃ z : Int32, z = (x1 + (1 : Int32)) := ⟨_, rfl⟩
        replace hw := hw y_4 ey_4
        refine lv_iinc (pc := 98) (v := y_4) (lv' := [(1, .int y_4), (0, .ref (q 18))]) hx hb dX2_reachEvents_98 hl (k := 1) rfl (by rw [ey_4]; rfl) (by decide) rfl (fun ls hl => ?_)
        refine lv_goto (pc := 101) (tgt := 2) hx hb dX2_reachEvents_101 (by decide) ?_
        exact hw _ _ _ hP hD hS (lv_sub hl [1, 0] rfl))
  replace hw := hw (by
    intro x1 x2 ca_wayToEvent ca_aheadOfEvent hw H locs ls hP hD hS hl
    refine lv_iload_n (pc := 28) hx hb dX2_reachEvents_28 rfl (lv_at hl 2 rfl) ?_
    refine lv_aload_n (pc := 29) hx hb dX2_reachEvents_29 rfl (lv_at hl 0 rfl) ?_
    refine va_get (pc := 30) (D := G) (ci := 2) (v := .int ca_size) (C := RX2) (T := TX2) (N := 13) hx hb hts iw_X2_reachEvents_X2 hown hK hP 0 rfl rfl 4 (by decide) (hts _ (List.mem_of_getElem? (i := 1) rfl)) (fun _ h9 => h9) rfl dX2_reachEvents_30 ?_
    refine lv_icmp_ge (pc := 33) (tgt := 98) hx hb dX2_reachEvents_33 (by decide) (fun c_5 => ?_) (fun c_5 => ?_)
    · replace hw := hw.1 c_5
      obtain ⟨y_6, ey_6⟩ : ∃ z : Int32, z = (x1 + (1 : Int32)) := ⟨_, rfl⟩
      replace hw := hw y_6 ey_6
      refine lv_iinc (pc := 98) (v := y_6) (lv' := [(1, .int y_6), (0, .ref (q 18)), (2, .int x2)]) hx hb dX2_reachEvents_98 hl (k := 1) rfl (by rw [ey_6]; rfl) (by decide) rfl (fun ls hl => ?_)
      refine lv_goto (pc := 101) (tgt := 2) hx hb dX2_reachEvents_101 (by decide) ?_
      exact hw _ _ _ hP hD hS (lv_sub hl [1, 0] rfl)
    · replace hw := hw.2 c_5
      refine lv_aload_n (pc := 36) hx hb dX2_reachEvents_36 rfl (lv_at hl 0 rfl) ?_
      refine va_get (pc := 37) (D := G) (ci := 2) (v := .ref (q 23)) (C := RX2) (T := TX2) (N := 13) hx hb hts iw_X2_reachEvents_X2 hown hK hP 0 rfl rfl 5 (by decide) (hts _ (List.mem_of_getElem? (i := 4) rfl)) (fun _ h9 => h9) rfl dX2_reachEvents_37 ?_
      refine lv_iload_n (pc := 40) hx hb dX2_reachEvents_40 rfl (lv_at hl 1 rfl) ?_
      refine lv_bipush (pc := 41) (v := (12 : Int32)) hx hb dX2_reachEvents_41 (by decide) ?_
      refine lv_imul (pc := 43) hx hb dX2_reachEvents_43 ?_
      refine lv_iload_n (pc := 44) hx hb dX2_reachEvents_44 rfl (lv_at hl 2 rfl) ?_
      refine lv_iadd (pc := 45) hx hb dX2_reachEvents_45 ?_
      obtain ⟨h_7, hw⟩ := hw
      refine va_iald (pc := 46) hx hb hK hP 1 0 rfl rfl h_7 dX2_reachEvents_46 ?_
      refine lv_topi (fun y_8 ey_8 => ?_)
      replace hw := hw y_8 ey_8
      refine lv_istore_n (pc := 47) (lv' := [(3, .int y_8), (0, .ref (q 18)), (1, .int x1), (2, .int x2)]) hx hb dX2_reachEvents_47 rfl hl (by decide) rfl (fun ls hl => ?_)
      refine lv_iload_n (pc := 48) hx hb dX2_reachEvents_48 rfl (lv_at hl 0 rfl) ?_
      refine lv_ldc (pc := 49) (v := (1000000 : Int32)) hx hb hown (hts _ (List.mem_of_getElem? (i := 3) rfl)) dX2_reachEvents_49 ?_
      refine lv_icmp_ge (pc := 51) (tgt := 92) hx hb dX2_reachEvents_51 (by decide) (fun c_9 => ?_) (fun c_9 => ?_)
      · replace hw := hw.1 c_9
        obtain ⟨y_10, ey_10⟩ : ∃ z : Int32, z = (x2 + (1 : Int32)) := ⟨_, rfl⟩
        replace hw := hw y_10 ey_10
        refine lv_iinc (pc := 92) (v := y_10) (lv' := [(2, .int y_10), (3, .int y_8), (0, .ref (q 18)), (1, .int x1)]) hx hb dX2_reachEvents_92 hl (k := 3) rfl (by rw [ey_10]; rfl) (by decide) rfl (fun ls hl => ?_)
        refine lv_goto (pc := 95) (tgt := 28) hx hb dX2_reachEvents_95 (by decide) ?_
        exact hw _ _ _ hP hD hS (lv_sub hl [2, 3, 0] rfl)
      · replace hw := hw.2 c_9
        refine lv_aload_n (pc := 54) hx hb dX2_reachEvents_54 rfl (lv_at hl 1 rfl) ?_
        refine va_get (pc := 55) (D := G) (ci := 2) (v := .ref (q 27)) (C := RX2) (T := TX2) (N := 13) hx hb hts iw_X2_reachEvents_X2 hown hK hP 0 rfl rfl 9 (by decide) (hts _ (List.mem_of_getElem? (i := 2) rfl)) (fun _ h9 => h9) rfl dX2_reachEvents_55 ?_
        refine lv_iload_n (pc := 58) hx hb dX2_reachEvents_58 rfl (lv_at hl 2 rfl) ?_
        obtain ⟨h_11, hw⟩ := hw
        refine va_iald (pc := 59) hx hb hK hP 2 0 rfl rfl h_11 dX2_reachEvents_59 ?_
        refine lv_iload_n (pc := 60) hx hb dX2_reachEvents_60 rfl (lv_at hl 0 rfl) ?_
        refine lv_iadd (pc := 61) hx hb dX2_reachEvents_61 ?_
        refine lv_aload_n (pc := 62) hx hb dX2_reachEvents_62 rfl (lv_at hl 1 rfl) ?_
        refine va_get (pc := 63) (D := G) (ci := 2) (v := .ref (q 28)) (C := RX2) (T := TX2) (N := 13) hx hb hts iw_X2_reachEvents_X2 hown hK hP 0 rfl rfl 10 (by decide) (hts _ (List.mem_of_getElem? (i := 5) rfl)) (fun _ h9 => h9) rfl dX2_reachEvents_63 ?_
        refine lv_iload_n (pc := 66) hx hb dX2_reachEvents_66 rfl (lv_at hl 3 rfl) ?_
        obtain ⟨h_12, hw⟩ := hw
        refine va_iald (pc := 67) hx hb hK hP 3 0 rfl rfl h_12 dX2_reachEvents_67 ?_
        refine lv_icmp_ge (pc := 68) (tgt := 92) hx hb dX2_reachEvents_68 (by decide) (fun c_13 => ?_) (fun c_13 => ?_)
        · replace hw := hw.1 c_13
          obtain ⟨y_14, ey_14⟩ : ∃ z : Int32, z = (x2 + (1 : Int32)) := ⟨_, rfl⟩
          replace hw := hw y_14 ey_14
          refine lv_iinc (pc := 92) (v := y_14) (lv' := [(2, .int y_14), (3, .int y_8), (0, .ref (q 18)), (1, .int x1)]) hx hb dX2_reachEvents_92 hl (k := 3) rfl (by rw [ey_14]; rfl) (by decide) rfl (fun ls hl => ?_)
          refine lv_goto (pc := 95) (tgt := 28) hx hb dX2_reachEvents_95 (by decide) ?_
          exact hw _ _ _ hP hD hS (lv_sub hl [2, 3, 0] rfl)
        · replace hw := hw.2 c_13
          refine lv_aload_n (pc := 71) hx hb dX2_reachEvents_71 rfl (lv_at hl 1 rfl) ?_
          refine va_get (pc := 72) (D := G) (ci := 2) (v := .ref (q 28)) (C := RX2) (T := TX2) (N := 13) hx hb hts iw_X2_reachEvents_X2 hown hK hP 0 rfl rfl 10 (by decide) (hts _ (List.mem_of_getElem? (i := 5) rfl)) (fun _ h9 => h9) rfl dX2_reachEvents_72 ?_
          refine lv_iload_n (pc := 75) hx hb dX2_reachEvents_75 rfl (lv_at hl 3 rfl) ?_
          refine lv_aload_n (pc := 76) hx hb dX2_reachEvents_76 rfl (lv_at hl 1 rfl) ?_
          refine va_get (pc := 77) (D := G) (ci := 2) (v := .ref (q 27)) (C := RX2) (T := TX2) (N := 13) hx hb hts iw_X2_reachEvents_X2 hown hK hP 0 rfl rfl 9 (by decide) (hts _ (List.mem_of_getElem? (i := 2) rfl)) (fun _ h9 => h9) rfl dX2_reachEvents_77 ?_
          refine lv_iload_n (pc := 80) hx hb dX2_reachEvents_80 rfl (lv_at hl 2 rfl) ?_
          refine va_iald (pc := 81) hx hb hK hP 2 0 rfl rfl h_11 dX2_reachEvents_81 ?_
          refine lv_iload_n (pc := 82) hx hb dX2_reachEvents_82 rfl (lv_at hl 0 rfl) ?_
          refine lv_iadd (pc := 83) hx hb dX2_reachEvents_83 ?_
          refine va_iast (pc := 84) hx hb hK hP hD hS 3 0 rfl rfl h_12 dX2_reachEvents_84 (fun H locs hP hD hS => ?_)
          obtain ⟨ca_wayToEvent_15, eca_wayToEvent_15⟩ : ∃ z : Nat → Int32, z = upd ca_wayToEvent x2.toNatClampNeg ((ca_wayToSource x1.toNatClampNeg) + y_8) := ⟨_, rfl⟩
          have hP : va_P G vwCl [oX2 q ca_size, aI K (q 23) 204 ca_price, aI K (q 27) 17 ca_wayToSource, aI K (q 28) 12 ca_wayToEvent_15, aI K (q 30) 12 ca_aheadOfEvent] H := by rw [eca_wayToEvent_15]; exact hP
          have hD : va_D A [oX2 q ca_size, aI K (q 23) 204 ca_price, aI K (q 27) 17 ca_wayToSource, aI K (q 28) 12 ca_wayToEvent_15, aI K (q 30) 12 ca_aheadOfEvent] := by rw [eca_wayToEvent_15]; exact hD
          replace hw := hw ca_wayToEvent_15 eca_wayToEvent_15
          refine lv_aload_n (pc := 85) hx hb dX2_reachEvents_85 rfl (lv_at hl 1 rfl) ?_
          refine va_get (pc := 86) (D := G) (ci := 2) (v := .ref (q 30)) (C := RX2) (T := TX2) (N := 13) hx hb hts iw_X2_reachEvents_X2 hown hK hP 0 rfl rfl 12 (by decide) (hts _ (List.mem_of_getElem? (i := 6) rfl)) (fun _ h9 => h9) rfl dX2_reachEvents_86 ?_
          refine lv_iload_n (pc := 89) hx hb dX2_reachEvents_89 rfl (lv_at hl 3 rfl) ?_
          refine lv_iload_n (pc := 90) hx hb dX2_reachEvents_90 rfl (lv_at hl 2 rfl) ?_
          refine va_iast (pc := 91) hx hb hK hP hD hS 4 0 rfl rfl h_12 dX2_reachEvents_91 (fun H locs hP hD hS => ?_)
          obtain ⟨ca_aheadOfEvent_16, eca_aheadOfEvent_16⟩ : ∃ z : Nat → Int32, z = upd ca_aheadOfEvent x2.toNatClampNeg x1 := ⟨_, rfl⟩
          have hP : va_P G vwCl [oX2 q ca_size, aI K (q 23) 204 ca_price, aI K (q 27) 17 ca_wayToSource, aI K (q 28) 12 ca_wayToEvent_15, aI K (q 30) 12 ca_aheadOfEvent_16] H := by rw [eca_aheadOfEvent_16]; exact hP
          have hD : va_D A [oX2 q ca_size, aI K (q 23) 204 ca_price, aI K (q 27) 17 ca_wayToSource, aI K (q 28) 12 ca_wayToEvent_15, aI K (q 30) 12 ca_aheadOfEvent_16] := by rw [eca_aheadOfEvent_16]; exact hD
          replace hw := hw ca_aheadOfEvent_16 eca_aheadOfEvent_16
          obtain ⟨y_17, ey_17⟩ : ∃ z : Int32, z = (x2 + (1 : Int32)) := ⟨_, rfl⟩
          replace hw := hw y_17 ey_17
          refine lv_iinc (pc := 92) (v := y_17) (lv' := [(2, .int y_17), (3, .int y_8), (0, .ref (q 18)), (1, .int x1)]) hx hb dX2_reachEvents_92 hl (k := 3) rfl (by rw [ey_17]; rfl) (by decide) rfl (fun ls hl => ?_)
          refine lv_goto (pc := 95) (tgt := 28) hx hb dX2_reachEvents_95 (by decide) ?_
          exact hw _ _ _ hP hD hS (lv_sub hl [2, 3, 0] rfl))
  refine lv_iconst (pc := 0) (v := (0 : Int32)) hx hb dX2_reachEvents_0 (by decide) ?_
  refine lv_istore_n (pc := 1) (lv' := [(1, .int (0 : Int32)), (0, .ref (q 18))]) hx hb dX2_reachEvents_1 rfl hl (by decide) rfl (fun ls hl => ?_)
  exact hw _ _ _ hP hD hS (lv_sub hl [1, 0] rfl)
def P_X2_reachSources (post : Int32 → (Nat → Int32) → (Nat → Int32) → Prop) (ca_size : Int32) (ca_price : Nat → Int32) (ca_sent : Nat → Int32) (ca_wayToSource : Nat → Int32) (ca_wayToEvent : Nat → Int32) (ca_aheadOfSource : Nat → Int32) : Prop :=
  ∀ (X4 : Int32 → Int32 → (Nat → Int32) → (Nat → Int32) → Prop),
  ∀ (X28 : Int32 → Int32 → Int32 → (Nat → Int32) → (Nat → Int32) → Prop),
  (∀ (x1 : Int32) (x2 : Int32) (ca_wayToSource : Nat → Int32) (ca_aheadOfSource : Nat → Int32), (((ca_size ≤ x2 → (x1 = 0 ∨ x1 = 1) ∧ post x1 ca_wayToSource ca_aheadOfSource) ∧ (¬ ca_size ≤ x2 → vp_in x2 12 ∧ (((ca_wayToEvent x2.toNatClampNeg) < (1000000 : Int32) → X28 x1 x2 (0 : Int32) ca_wayToSource ca_aheadOfSource) ∧ (¬ (ca_wayToEvent x2.toNatClampNeg) < (1000000 : Int32) → ∀ y_5 : Int32, y_5 = (x2 + (1 : Int32)) → X4 x1 y_5 ca_wayToSource ca_aheadOfSource))))) → X4 x1 x2 ca_wayToSource ca_aheadOfSource) →
  (∀ (x1 : Int32) (x2 : Int32) (x3 : Int32) (ca_wayToSource : Nat → Int32) (ca_aheadOfSource : Nat → Int32), (((((5 : Int32) + ca_size) ≤ x3 → ∀ y_7 : Int32, y_7 = (x2 + (1 : Int32)) → X4 x1 y_7 ca_wayToSource ca_aheadOfSource) ∧ (¬ ((5 : Int32) + ca_size) ≤ x3 → ∀ y_8 : Int32, y_8 = ((x3 * (12 : Int32)) + x2) → vp_in y_8 204 ∧ (((ca_sent y_8.toNatClampNeg) ≤ (0 : Int32) → ∀ y_11 : Int32, y_11 = (x3 + (1 : Int32)) → X28 x1 x2 y_11 ca_wayToSource ca_aheadOfSource) ∧ (¬ (ca_sent y_8.toNatClampNeg) ≤ (0 : Int32) → vp_in x2 12 ∧ vp_in x3 17 ∧ (((ca_wayToSource x3.toNatClampNeg) ≤ ((ca_wayToEvent x2.toNatClampNeg) - (ca_price y_8.toNatClampNeg)) → ∀ y_15 : Int32, y_15 = (x3 + (1 : Int32)) → X28 x1 x2 y_15 ca_wayToSource ca_aheadOfSource) ∧ (¬ (ca_wayToSource x3.toNatClampNeg) ≤ ((ca_wayToEvent x2.toNatClampNeg) - (ca_price y_8.toNatClampNeg)) → ∀ ca_wayToSource_16 : Nat → Int32, ca_wayToSource_16 = upd ca_wayToSource x3.toNatClampNeg ((ca_wayToEvent x2.toNatClampNeg) - (ca_price y_8.toNatClampNeg)) → ∀ ca_aheadOfSource_17 : Nat → Int32, ca_aheadOfSource_17 = upd ca_aheadOfSource x3.toNatClampNeg x2 → ∀ y_18 : Int32, y_18 = (x3 + (1 : Int32)) → X28 (1 : Int32) x2 y_18 ca_wayToSource_16 ca_aheadOfSource_17))))))) → X28 x1 x2 x3 ca_wayToSource ca_aheadOfSource) →
  X4 (0 : Int32) (0 : Int32) ca_wayToSource ca_aheadOfSource
abbrev rm_X2_reachSources : Room := { frames := 0, cells := 0, slots := 0, locals := 0 }
theorem iw_X2_reachSources_X2 : ∀ w ∈ wsX20, w ∈ wsX2_reachSources := by decide +kernel
set_option maxHeartbeats 4000000 in
set_option maxRecDepth 100000 in
theorem c_X2_reachSources (l : Launch) (G : va_G) (K : ClassId × ClassId × ClassId) (tb q : Nat → Nat) (sz : Nat) (post : Int32 → (Nat → Int32) → (Nat → Int32) → Prop) (ca_size : Int32) (ca_price : Nat → Int32) (ca_sent : Nat → Int32) (ca_wayToSource : Nat → Int32) (ca_wayToEvent : Nat → Int32) (ca_aheadOfSource : Nat → Int32) (hw : P_X2_reachSources post ca_size ca_price ca_sent ca_wayToSource ca_wayToEvent ca_aheadOfSource) : Met l yX2_reachSources wsX2_reachSources rm_X2_reachSources (va_Pc [.ref (q 18)] (hPre G K tb [oX2 q ca_size, aI K (q 23) 204 ca_price, aI K (q 24) 204 ca_sent, aI K (q 27) 17 ca_wayToSource, aI K (q 28) 12 ca_wayToEvent, aI K (q 29) 17 ca_aheadOfSource] sz)) (va_Qi (fun (r : Int32) (u : (Nat → Int32) × (Nat → Int32)) => post r u.1 u.2) (fun u => hB G K (va_A [oX2 q ca_size, aI K (q 23) 204 ca_price, aI K (q 24) 204 ca_sent, aI K (q 27) 17 ca_wayToSource, aI K (q 28) 12 ca_wayToEvent, aI K (q 29) 17 ca_aheadOfSource] sz) [oX2 q ca_size, aI K (q 23) 204 ca_price, aI K (q 24) 204 ca_sent, aI K (q 27) 17 u.1, aI K (q 28) 12 ca_wayToEvent, aI K (q 29) 17 u.2]) (va_A [oX2 q ca_size, aI K (q 23) 204 ca_price, aI K (q 24) 204 ca_sent, aI K (q 27) 17 ca_wayToSource, aI K (q 28) 12 ca_wayToEvent, aI K (q 29) 17 ca_aheadOfSource] sz)) 0 0 (va_A [oX2 q ca_size, aI K (q 23) 204 ca_price, aI K (q 24) 204 ca_sent, aI K (q 27) 17 ca_wayToSource, aI K (q 28) 12 ca_wayToEvent, aI K (q 29) 17 ca_aheadOfSource] sz) := by
  refine hMet (fun A => va_Qi (fun (r : Int32) (u : (Nat → Int32) × (Nat → Int32)) => post r u.1 u.2) (fun u => hB G K A [oX2 q ca_size, aI K (q 23) 204 ca_price, aI K (q 24) 204 ca_sent, aI K (q 27) 17 u.1, aI K (q 28) 12 ca_wayToEvent, aI K (q 29) 17 u.2]) A) (by decide) rfl (Nat.le_of_ble_eq_true rfl) ?_
  intro p e s m av below meth c A Q ls hx hb hr hml hts hown hlocks hnm hA hP hK hD hS hE hQ hl
  have hts : ∀ w ∈ wsX2_reachSources, w.before av s = true := hts
  have hown : s.vm.findClass RX2 = some m.cls := hown
  have hl : lv_has ls 5 [(0, .ref (q 18))] := hl
  unfold P_X2_reachSources at hw
  replace hw := hw (fun (x1 : Int32) (x2 : Int32) (ca_wayToSource : Nat → Int32) (ca_aheadOfSource : Nat → Int32) => ∀ (H : Heap) (locs : List Loc) (ls : Array Slot), va_P G vwCl [oX2 q ca_size, aI K (q 23) 204 ca_price, aI K (q 24) 204 ca_sent, aI K (q 27) 17 ca_wayToSource, aI K (q 28) 12 ca_wayToEvent, aI K (q 29) 17 ca_aheadOfSource] H → va_D A [oX2 q ca_size, aI K (q 23) 204 ca_price, aI K (q 24) 204 ca_sent, aI K (q 27) 17 ca_wayToSource, aI K (q 28) 12 ca_wayToEvent, aI K (q 29) 17 ca_aheadOfSource] → va_S A s.heap H locs → lv_has ls 5 [(0, .ref (q 18)), (1, .int x1), (2, .int x2)] → W p l e rm_X2_reachSources s m av below meth c H locs 0 0 Q (F0 m 4 ls []))
  replace hw := hw (fun (x1 : Int32) (x2 : Int32) (x3 : Int32) (ca_wayToSource : Nat → Int32) (ca_aheadOfSource : Nat → Int32) => ∀ (H : Heap) (locs : List Loc) (ls : Array Slot), va_P G vwCl [oX2 q ca_size, aI K (q 23) 204 ca_price, aI K (q 24) 204 ca_sent, aI K (q 27) 17 ca_wayToSource, aI K (q 28) 12 ca_wayToEvent, aI K (q 29) 17 ca_aheadOfSource] H → va_D A [oX2 q ca_size, aI K (q 23) 204 ca_price, aI K (q 24) 204 ca_sent, aI K (q 27) 17 ca_wayToSource, aI K (q 28) 12 ca_wayToEvent, aI K (q 29) 17 ca_aheadOfSource] → va_S A s.heap H locs → lv_has ls 5 [(0, .ref (q 18)), (1, .int x1), (2, .int x2), (3, .int x3)] → W p l e rm_X2_reachSources s m av below meth c H locs 0 0 Q (F0 m 28 ls []))
  replace hw := hw (by
    intro x1 x2 ca_wayToSource ca_aheadOfSource hw H locs ls hP hD hS hl
    refine lv_iload_n (pc := 4) hx hb dX2_reachSources_4 rfl (lv_at hl 2 rfl) ?_
    refine lv_aload_n (pc := 5) hx hb dX2_reachSources_5 rfl (lv_at hl 0 rfl) ?_
    refine va_get (pc := 6) (D := G) (ci := 2) (v := .int ca_size) (C := RX2) (T := TX2) (N := 13) hx hb hts iw_X2_reachSources_X2 hown hK hP 0 rfl rfl 4 (by decide) (hts _ (List.mem_of_getElem? (i := 1) rfl)) (fun _ h9 => h9) rfl dX2_reachSources_6 ?_
    refine lv_icmp_ge (pc := 9) (tgt := 120) hx hb dX2_reachSources_9 (by decide) (fun c_1 => ?_) (fun c_1 => ?_)
    · replace hw := hw.1 c_1
      refine lv_iload_n (pc := 120) hx hb dX2_reachSources_120 rfl (lv_at hl 1 rfl) ?_
      obtain ⟨h_2, hw⟩ := hw
      exact hRetZ (S := (Nat → Int32) × (Nat → Int32)) (ca_wayToSource, ca_aheadOfSource) hx hb hr hlocks hQ h_2 hw hP hK hD hS dX2_reachSources_121
    · replace hw := hw.2 c_1
      refine lv_aload_n (pc := 12) hx hb dX2_reachSources_12 rfl (lv_at hl 0 rfl) ?_
      refine va_get (pc := 13) (D := G) (ci := 2) (v := .ref (q 28)) (C := RX2) (T := TX2) (N := 13) hx hb hts iw_X2_reachSources_X2 hown hK hP 0 rfl rfl 10 (by decide) (hts _ (List.mem_of_getElem? (i := 2) rfl)) (fun _ h9 => h9) rfl dX2_reachSources_13 ?_
      refine lv_iload_n (pc := 16) hx hb dX2_reachSources_16 rfl (lv_at hl 2 rfl) ?_
      obtain ⟨h_3, hw⟩ := hw
      refine va_iald (pc := 17) hx hb hK hP 4 0 rfl rfl h_3 dX2_reachSources_17 ?_
      refine lv_ldc (pc := 18) (v := (1000000 : Int32)) hx hb hown (hts _ (List.mem_of_getElem? (i := 3) rfl)) dX2_reachSources_18 ?_
      refine lv_icmp_lt (pc := 20) (tgt := 26) hx hb dX2_reachSources_20 (by decide) (fun c_4 => ?_) (fun c_4 => ?_)
      · replace hw := hw.1 c_4
        refine lv_iconst (pc := 26) (v := (0 : Int32)) hx hb dX2_reachSources_26 (by decide) ?_
        refine lv_istore_n (pc := 27) (lv' := [(3, .int (0 : Int32)), (0, .ref (q 18)), (1, .int x1), (2, .int x2)]) hx hb dX2_reachSources_27 rfl hl (by decide) rfl (fun ls hl => ?_)
        exact hw _ _ _ hP hD hS (lv_sub hl [1, 2, 3, 0] rfl)
      · replace hw := hw.2 c_4
        refine lv_goto (pc := 23) (tgt := 114) hx hb dX2_reachSources_23 (by decide) ?_
        obtain ⟨y_5, ey_5⟩ : ∃ z : Int32, z = (x2 + (1 : Int32)) := ⟨_, rfl⟩
        replace hw := hw y_5 ey_5
        refine lv_iinc (pc := 114) (v := y_5) (lv' := [(2, .int y_5), (0, .ref (q 18)), (1, .int x1)]) hx hb dX2_reachSources_114 hl (k := 2) rfl (by rw [ey_5]; rfl) (by decide) rfl (fun ls hl => ?_)
        refine lv_goto (pc := 117) (tgt := 4) hx hb dX2_reachSources_117 (by decide) ?_
        exact hw _ _ _ hP hD hS (lv_sub hl [1, 2, 0] rfl))
  replace hw := hw (by
    intro x1 x2 x3 ca_wayToSource ca_aheadOfSource hw H locs ls hP hD hS hl
    refine lv_iload_n (pc := 28) hx hb dX2_reachSources_28 rfl (lv_at hl 3 rfl) ?_
    refine lv_iconst (pc := 29) (v := (5 : Int32)) hx hb dX2_reachSources_29 (by decide) ?_
    refine lv_aload_n (pc := 30) hx hb dX2_reachSources_30 rfl (lv_at hl 0 rfl) ?_
    refine va_get (pc := 31) (D := G) (ci := 2) (v := .int ca_size) (C := RX2) (T := TX2) (N := 13) hx hb hts iw_X2_reachSources_X2 hown hK hP 0 rfl rfl 4 (by decide) (hts _ (List.mem_of_getElem? (i := 1) rfl)) (fun _ h9 => h9) rfl dX2_reachSources_31 ?_
    refine lv_iadd (pc := 34) hx hb dX2_reachSources_34 ?_
    refine lv_icmp_ge (pc := 35) (tgt := 114) hx hb dX2_reachSources_35 (by decide) (fun c_6 => ?_) (fun c_6 => ?_)
    · replace hw := hw.1 c_6
      obtain ⟨y_7, ey_7⟩ : ∃ z : Int32, z = (x2 + (1 : Int32)) := ⟨_, rfl⟩
      replace hw := hw y_7 ey_7
      refine lv_iinc (pc := 114) (v := y_7) (lv' := [(2, .int y_7), (0, .ref (q 18)), (1, .int x1), (3, .int x3)]) hx hb dX2_reachSources_114 hl (k := 2) rfl (by rw [ey_7]; rfl) (by decide) rfl (fun ls hl => ?_)
      refine lv_goto (pc := 117) (tgt := 4) hx hb dX2_reachSources_117 (by decide) ?_
      exact hw _ _ _ hP hD hS (lv_sub hl [1, 2, 0] rfl)
    · replace hw := hw.2 c_6
      refine lv_iload_n (pc := 38) hx hb dX2_reachSources_38 rfl (lv_at hl 3 rfl) ?_
      refine lv_bipush (pc := 39) (v := (12 : Int32)) hx hb dX2_reachSources_39 (by decide) ?_
      refine lv_imul (pc := 41) hx hb dX2_reachSources_41 ?_
      refine lv_iload_n (pc := 42) hx hb dX2_reachSources_42 rfl (lv_at hl 2 rfl) ?_
      refine lv_iadd (pc := 43) hx hb dX2_reachSources_43 ?_
      refine lv_topi (fun y_8 ey_8 => ?_)
      replace hw := hw y_8 ey_8
      refine lv_istore (pc := 44) (lv' := [(4, .int y_8), (0, .ref (q 18)), (1, .int x1), (2, .int x2), (3, .int x3)]) hx hb dX2_reachSources_44 hl (by decide) rfl (fun ls hl => ?_)
      refine lv_aload_n (pc := 46) hx hb dX2_reachSources_46 rfl (lv_at hl 1 rfl) ?_
      refine va_get (pc := 47) (D := G) (ci := 2) (v := .ref (q 24)) (C := RX2) (T := TX2) (N := 13) hx hb hts iw_X2_reachSources_X2 hown hK hP 0 rfl rfl 6 (by decide) (hts _ (List.mem_of_getElem? (i := 4) rfl)) (fun _ h9 => h9) rfl dX2_reachSources_47 ?_
      refine lv_iload (pc := 50) hx hb dX2_reachSources_50 (lv_at hl 0 rfl) ?_
      obtain ⟨h_9, hw⟩ := hw
      refine va_iald (pc := 52) hx hb hK hP 2 0 rfl rfl h_9 dX2_reachSources_52 ?_
      refine lv_if_le (pc := 53) (tgt := 108) hx hb dX2_reachSources_53 (by decide) (fun c_10 => ?_) (fun c_10 => ?_)
      · replace hw := hw.1 c_10
        obtain ⟨y_11, ey_11⟩ : ∃ z : Int32, z = (x3 + (1 : Int32)) := ⟨_, rfl⟩
        replace hw := hw y_11 ey_11
        refine lv_iinc (pc := 108) (v := y_11) (lv' := [(3, .int y_11), (4, .int y_8), (0, .ref (q 18)), (1, .int x1), (2, .int x2)]) hx hb dX2_reachSources_108 hl (k := 4) rfl (by rw [ey_11]; rfl) (by decide) rfl (fun ls hl => ?_)
        refine lv_goto (pc := 111) (tgt := 28) hx hb dX2_reachSources_111 (by decide) ?_
        exact hw _ _ _ hP hD hS (lv_sub hl [2, 3, 4, 0] rfl)
      · replace hw := hw.2 c_10
        refine lv_aload_n (pc := 56) hx hb dX2_reachSources_56 rfl (lv_at hl 1 rfl) ?_
        refine va_get (pc := 57) (D := G) (ci := 2) (v := .ref (q 28)) (C := RX2) (T := TX2) (N := 13) hx hb hts iw_X2_reachSources_X2 hown hK hP 0 rfl rfl 10 (by decide) (hts _ (List.mem_of_getElem? (i := 2) rfl)) (fun _ h9 => h9) rfl dX2_reachSources_57 ?_
        refine lv_iload_n (pc := 60) hx hb dX2_reachSources_60 rfl (lv_at hl 3 rfl) ?_
        obtain ⟨h_12, hw⟩ := hw
        refine va_iald (pc := 61) hx hb hK hP 4 0 rfl rfl h_12 dX2_reachSources_61 ?_
        refine lv_aload_n (pc := 62) hx hb dX2_reachSources_62 rfl (lv_at hl 1 rfl) ?_
        refine va_get (pc := 63) (D := G) (ci := 2) (v := .ref (q 23)) (C := RX2) (T := TX2) (N := 13) hx hb hts iw_X2_reachSources_X2 hown hK hP 0 rfl rfl 5 (by decide) (hts _ (List.mem_of_getElem? (i := 5) rfl)) (fun _ h9 => h9) rfl dX2_reachSources_63 ?_
        refine lv_iload (pc := 66) hx hb dX2_reachSources_66 (lv_at hl 0 rfl) ?_
        refine va_iald (pc := 68) hx hb hK hP 1 0 rfl rfl h_9 dX2_reachSources_68 ?_
        refine lv_isub (pc := 69) hx hb dX2_reachSources_69 ?_
        refine lv_aload_n (pc := 70) hx hb dX2_reachSources_70 rfl (lv_at hl 1 rfl) ?_
        refine va_get (pc := 71) (D := G) (ci := 2) (v := .ref (q 27)) (C := RX2) (T := TX2) (N := 13) hx hb hts iw_X2_reachSources_X2 hown hK hP 0 rfl rfl 9 (by decide) (hts _ (List.mem_of_getElem? (i := 6) rfl)) (fun _ h9 => h9) rfl dX2_reachSources_71 ?_
        refine lv_iload_n (pc := 74) hx hb dX2_reachSources_74 rfl (lv_at hl 4 rfl) ?_
        obtain ⟨h_13, hw⟩ := hw
        refine va_iald (pc := 75) hx hb hK hP 3 0 rfl rfl h_13 dX2_reachSources_75 ?_
        refine lv_icmp_ge (pc := 76) (tgt := 108) hx hb dX2_reachSources_76 (by decide) (fun c_14 => ?_) (fun c_14 => ?_)
        · replace hw := hw.1 c_14
          obtain ⟨y_15, ey_15⟩ : ∃ z : Int32, z = (x3 + (1 : Int32)) := ⟨_, rfl⟩
          replace hw := hw y_15 ey_15
          refine lv_iinc (pc := 108) (v := y_15) (lv' := [(3, .int y_15), (4, .int y_8), (0, .ref (q 18)), (1, .int x1), (2, .int x2)]) hx hb dX2_reachSources_108 hl (k := 4) rfl (by rw [ey_15]; rfl) (by decide) rfl (fun ls hl => ?_)
          refine lv_goto (pc := 111) (tgt := 28) hx hb dX2_reachSources_111 (by decide) ?_
          exact hw _ _ _ hP hD hS (lv_sub hl [2, 3, 4, 0] rfl)
        · replace hw := hw.2 c_14
          refine lv_aload_n (pc := 79) hx hb dX2_reachSources_79 rfl (lv_at hl 1 rfl) ?_
          refine va_get (pc := 80) (D := G) (ci := 2) (v := .ref (q 27)) (C := RX2) (T := TX2) (N := 13) hx hb hts iw_X2_reachSources_X2 hown hK hP 0 rfl rfl 9 (by decide) (hts _ (List.mem_of_getElem? (i := 6) rfl)) (fun _ h9 => h9) rfl dX2_reachSources_80 ?_
          refine lv_iload_n (pc := 83) hx hb dX2_reachSources_83 rfl (lv_at hl 4 rfl) ?_
          refine lv_aload_n (pc := 84) hx hb dX2_reachSources_84 rfl (lv_at hl 1 rfl) ?_
          refine va_get (pc := 85) (D := G) (ci := 2) (v := .ref (q 28)) (C := RX2) (T := TX2) (N := 13) hx hb hts iw_X2_reachSources_X2 hown hK hP 0 rfl rfl 10 (by decide) (hts _ (List.mem_of_getElem? (i := 2) rfl)) (fun _ h9 => h9) rfl dX2_reachSources_85 ?_
          refine lv_iload_n (pc := 88) hx hb dX2_reachSources_88 rfl (lv_at hl 3 rfl) ?_
          refine va_iald (pc := 89) hx hb hK hP 4 0 rfl rfl h_12 dX2_reachSources_89 ?_
          refine lv_aload_n (pc := 90) hx hb dX2_reachSources_90 rfl (lv_at hl 1 rfl) ?_
          refine va_get (pc := 91) (D := G) (ci := 2) (v := .ref (q 23)) (C := RX2) (T := TX2) (N := 13) hx hb hts iw_X2_reachSources_X2 hown hK hP 0 rfl rfl 5 (by decide) (hts _ (List.mem_of_getElem? (i := 5) rfl)) (fun _ h9 => h9) rfl dX2_reachSources_91 ?_
          refine lv_iload (pc := 94) hx hb dX2_reachSources_94 (lv_at hl 0 rfl) ?_
          refine va_iald (pc := 96) hx hb hK hP 1 0 rfl rfl h_9 dX2_reachSources_96 ?_
          refine lv_isub (pc := 97) hx hb dX2_reachSources_97 ?_
          refine va_iast (pc := 98) hx hb hK hP hD hS 3 0 rfl rfl h_13 dX2_reachSources_98 (fun H locs hP hD hS => ?_)
          obtain ⟨ca_wayToSource_16, eca_wayToSource_16⟩ : ∃ z : Nat → Int32, z = upd ca_wayToSource x3.toNatClampNeg ((ca_wayToEvent x2.toNatClampNeg) - (ca_price y_8.toNatClampNeg)) := ⟨_, rfl⟩
          have hP : va_P G vwCl [oX2 q ca_size, aI K (q 23) 204 ca_price, aI K (q 24) 204 ca_sent, aI K (q 27) 17 ca_wayToSource_16, aI K (q 28) 12 ca_wayToEvent, aI K (q 29) 17 ca_aheadOfSource] H := by rw [eca_wayToSource_16]; exact hP
          have hD : va_D A [oX2 q ca_size, aI K (q 23) 204 ca_price, aI K (q 24) 204 ca_sent, aI K (q 27) 17 ca_wayToSource_16, aI K (q 28) 12 ca_wayToEvent, aI K (q 29) 17 ca_aheadOfSource] := by rw [eca_wayToSource_16]; exact hD
          replace hw := hw ca_wayToSource_16 eca_wayToSource_16
          refine lv_aload_n (pc := 99) hx hb dX2_reachSources_99 rfl (lv_at hl 1 rfl) ?_
          refine va_get (pc := 100) (D := G) (ci := 2) (v := .ref (q 29)) (C := RX2) (T := TX2) (N := 13) hx hb hts iw_X2_reachSources_X2 hown hK hP 0 rfl rfl 11 (by decide) (hts _ (List.mem_of_getElem? (i := 7) rfl)) (fun _ h9 => h9) rfl dX2_reachSources_100 ?_
          refine lv_iload_n (pc := 103) hx hb dX2_reachSources_103 rfl (lv_at hl 4 rfl) ?_
          refine lv_iload_n (pc := 104) hx hb dX2_reachSources_104 rfl (lv_at hl 3 rfl) ?_
          refine va_iast (pc := 105) hx hb hK hP hD hS 5 0 rfl rfl h_13 dX2_reachSources_105 (fun H locs hP hD hS => ?_)
          obtain ⟨ca_aheadOfSource_17, eca_aheadOfSource_17⟩ : ∃ z : Nat → Int32, z = upd ca_aheadOfSource x3.toNatClampNeg x2 := ⟨_, rfl⟩
          have hP : va_P G vwCl [oX2 q ca_size, aI K (q 23) 204 ca_price, aI K (q 24) 204 ca_sent, aI K (q 27) 17 ca_wayToSource_16, aI K (q 28) 12 ca_wayToEvent, aI K (q 29) 17 ca_aheadOfSource_17] H := by rw [eca_aheadOfSource_17]; exact hP
          have hD : va_D A [oX2 q ca_size, aI K (q 23) 204 ca_price, aI K (q 24) 204 ca_sent, aI K (q 27) 17 ca_wayToSource_16, aI K (q 28) 12 ca_wayToEvent, aI K (q 29) 17 ca_aheadOfSource_17] := by rw [eca_aheadOfSource_17]; exact hD
          replace hw := hw ca_aheadOfSource_17 eca_aheadOfSource_17
          refine lv_iconst (pc := 106) (v := (1 : Int32)) hx hb dX2_reachSources_106 (by decide) ?_
          refine lv_istore_n (pc := 107) (lv' := [(1, .int (1 : Int32)), (4, .int y_8), (0, .ref (q 18)), (2, .int x2), (3, .int x3)]) hx hb dX2_reachSources_107 rfl hl (by decide) rfl (fun ls hl => ?_)
          obtain ⟨y_18, ey_18⟩ : ∃ z : Int32, z = (x3 + (1 : Int32)) := ⟨_, rfl⟩
          replace hw := hw y_18 ey_18
          refine lv_iinc (pc := 108) (v := y_18) (lv' := [(3, .int y_18), (1, .int (1 : Int32)), (4, .int y_8), (0, .ref (q 18)), (2, .int x2)]) hx hb dX2_reachSources_108 hl (k := 4) rfl (by rw [ey_18]; rfl) (by decide) rfl (fun ls hl => ?_)
          refine lv_goto (pc := 111) (tgt := 28) hx hb dX2_reachSources_111 (by decide) ?_
          exact hw _ _ _ hP hD hS (lv_sub hl [3, 1, 4, 0] rfl))
  refine lv_iconst (pc := 0) (v := (0 : Int32)) hx hb dX2_reachSources_0 (by decide) ?_
  refine lv_istore_n (pc := 1) (lv' := [(1, .int (0 : Int32)), (0, .ref (q 18))]) hx hb dX2_reachSources_1 rfl hl (by decide) rfl (fun ls hl => ?_)
  refine lv_iconst (pc := 2) (v := (0 : Int32)) hx hb dX2_reachSources_2 (by decide) ?_
  refine lv_istore_n (pc := 3) (lv' := [(2, .int (0 : Int32)), (1, .int (0 : Int32)), (0, .ref (q 18))]) hx hb dX2_reachSources_3 rfl hl (by decide) rfl (fun ls hl => ?_)
  exact hw _ _ _ hP hD hS (lv_sub hl [2, 1, 0] rfl)
def P_X2_seekWays (post : (Nat → Int32) → (Nat → Int32) → (Nat → Int32) → (Nat → Int32) → Prop) (ca_size : Int32) (ca_price : Nat → Int32) (ca_sent : Nat → Int32) (ca_spare : Nat → Int32) (ca_wayToSource : Nat → Int32) (ca_wayToEvent : Nat → Int32) (ca_aheadOfSource : Nat → Int32) (ca_aheadOfEvent : Nat → Int32) : Prop :=
  ∀ (X2 : Int32 → (Nat → Int32) → (Nat → Int32) → (Nat → Int32) → (Nat → Int32) → Prop),
  ∀ (X69 : Int32 → Int32 → (Nat → Int32) → (Nat → Int32) → (Nat → Int32) → (Nat → Int32) → Prop),
  (∀ (x1 : Int32) (ca_wayToSource : Nat → Int32) (ca_wayToEvent : Nat → Int32) (ca_aheadOfSource : Nat → Int32) (ca_aheadOfEvent : Nat → Int32), (((((5 : Int32) + ca_size) ≤ x1 → P_J7_fill_53178 (fun ca_wayToEvent_2 => P_J7_fill_53178 (fun ca_aheadOfEvent_3 => X69 (1 : Int32) (0 : Int32) ca_wayToSource ca_wayToEvent_2 ca_aheadOfSource ca_aheadOfEvent_3) (-9 : Int32) 12 ca_aheadOfEvent) (1000000 : Int32) 12 ca_wayToEvent) ∧ (¬ ((5 : Int32) + ca_size) ≤ x1 → vp_in x1 17 ∧ ∀ v_6 : Int32, v_6 = (if (ca_spare x1.toNatClampNeg) ≤ (0 : Int32) then (1000000 : Int32) else (0 : Int32)) → ∀ ca_wayToSource_7 : Nat → Int32, ca_wayToSource_7 = upd ca_wayToSource x1.toNatClampNeg v_6 → ∀ ca_aheadOfSource_8 : Nat → Int32, ca_aheadOfSource_8 = upd ca_aheadOfSource x1.toNatClampNeg (-9 : Int32) → ∀ y_9 : Int32, y_9 = (x1 + (1 : Int32)) → X2 y_9 ca_wayToSource_7 ca_wayToEvent ca_aheadOfSource_8 ca_aheadOfEvent))) → X2 x1 ca_wayToSource ca_wayToEvent ca_aheadOfSource ca_aheadOfEvent) →
  (∀ (x1 : Int32) (x2 : Int32) (ca_wayToSource : Nat → Int32) (ca_wayToEvent : Nat → Int32) (ca_aheadOfSource : Nat → Int32) (ca_aheadOfEvent : Nat → Int32), ((((29 : Int32) ≤ x2 → post ca_wayToSource ca_wayToEvent ca_aheadOfSource ca_aheadOfEvent) ∧ (¬ (29 : Int32) ≤ x2 → ((x1 = (0 : Int32) → post ca_wayToSource ca_wayToEvent ca_aheadOfSource ca_aheadOfEvent) ∧ (¬ x1 = (0 : Int32) → P_X2_reachEvents (fun ca_wayToEvent_12 ca_aheadOfEvent_13 => P_X2_reachSources (fun r_14 ca_wayToSource_15 ca_aheadOfSource_16 => ∀ y_17 : Int32, y_17 = (x2 + (1 : Int32)) → X69 r_14 y_17 ca_wayToSource_15 ca_wayToEvent_12 ca_aheadOfSource_16 ca_aheadOfEvent_13) ca_size ca_price ca_sent ca_wayToSource ca_wayToEvent_12 ca_aheadOfSource) ca_size ca_price ca_wayToSource ca_wayToEvent ca_aheadOfEvent))))) → X69 x1 x2 ca_wayToSource ca_wayToEvent ca_aheadOfSource ca_aheadOfEvent) →
  X2 (0 : Int32) ca_wayToSource ca_wayToEvent ca_aheadOfSource ca_aheadOfEvent
abbrev rm_X2_seekWays : Room := { frames := 1, cells := 0, slots := 0, locals := 24 }
theorem iw_X2_seekWays_X2 : ∀ w ∈ wsX20, w ∈ wsX2_seekWays := by decide +kernel
set_option maxHeartbeats 4000000 in
set_option maxRecDepth 100000 in
theorem c_X2_seekWays (l : Launch) (G : va_G) (K : ClassId × ClassId × ClassId) (tb q : Nat → Nat) (sz : Nat) (post : (Nat → Int32) → (Nat → Int32) → (Nat → Int32) → (Nat → Int32) → Prop) (ca_size : Int32) (ca_price : Nat → Int32) (ca_sent : Nat → Int32) (ca_spare : Nat → Int32) (ca_wayToSource : Nat → Int32) (ca_wayToEvent : Nat → Int32) (ca_aheadOfSource : Nat → Int32) (ca_aheadOfEvent : Nat → Int32) (hw : P_X2_seekWays post ca_size ca_price ca_sent ca_spare ca_wayToSource ca_wayToEvent ca_aheadOfSource ca_aheadOfEvent) : Met l yX2_seekWays wsX2_seekWays rm_X2_seekWays (va_Pc [.ref (q 18)] (hPre G K tb [oX2 q ca_size, aI K (q 23) 204 ca_price, aI K (q 24) 204 ca_sent, aI K (q 25) 17 ca_spare, aI K (q 27) 17 ca_wayToSource, aI K (q 28) 12 ca_wayToEvent, aI K (q 29) 17 ca_aheadOfSource, aI K (q 30) 12 ca_aheadOfEvent] sz)) (va_Qv (fun (u : (Nat → Int32) × (Nat → Int32) × (Nat → Int32) × (Nat → Int32)) => post u.1 u.2.1 u.2.2.1 u.2.2.2) (fun u => hB G K (va_A [oX2 q ca_size, aI K (q 23) 204 ca_price, aI K (q 24) 204 ca_sent, aI K (q 25) 17 ca_spare, aI K (q 27) 17 ca_wayToSource, aI K (q 28) 12 ca_wayToEvent, aI K (q 29) 17 ca_aheadOfSource, aI K (q 30) 12 ca_aheadOfEvent] sz) [oX2 q ca_size, aI K (q 23) 204 ca_price, aI K (q 24) 204 ca_sent, aI K (q 25) 17 ca_spare, aI K (q 27) 17 u.1, aI K (q 28) 12 u.2.1, aI K (q 29) 17 u.2.2.1, aI K (q 30) 12 u.2.2.2]) (va_A [oX2 q ca_size, aI K (q 23) 204 ca_price, aI K (q 24) 204 ca_sent, aI K (q 25) 17 ca_spare, aI K (q 27) 17 ca_wayToSource, aI K (q 28) 12 ca_wayToEvent, aI K (q 29) 17 ca_aheadOfSource, aI K (q 30) 12 ca_aheadOfEvent] sz)) 0 0 (va_A [oX2 q ca_size, aI K (q 23) 204 ca_price, aI K (q 24) 204 ca_sent, aI K (q 25) 17 ca_spare, aI K (q 27) 17 ca_wayToSource, aI K (q 28) 12 ca_wayToEvent, aI K (q 29) 17 ca_aheadOfSource, aI K (q 30) 12 ca_aheadOfEvent] sz) := by
  refine hMet (fun A => va_Qv (fun (u : (Nat → Int32) × (Nat → Int32) × (Nat → Int32) × (Nat → Int32)) => post u.1 u.2.1 u.2.2.1 u.2.2.2) (fun u => hB G K A [oX2 q ca_size, aI K (q 23) 204 ca_price, aI K (q 24) 204 ca_sent, aI K (q 25) 17 ca_spare, aI K (q 27) 17 u.1, aI K (q 28) 12 u.2.1, aI K (q 29) 17 u.2.2.1, aI K (q 30) 12 u.2.2.2]) A) (by decide) rfl (Nat.le_of_ble_eq_true rfl) ?_
  intro p e s m av below meth c A Q ls hx hb hr hml hts hown hlocks hnm hA hP hK hD hS hE hQ hl
  have hts : ∀ w ∈ wsX2_seekWays, w.before av s = true := hts
  have hown : s.vm.findClass RX2 = some m.cls := hown
  have hl : lv_has ls 3 [(0, .ref (q 18))] := hl
  unfold P_X2_seekWays at hw
  replace hw := hw (fun (x1 : Int32) (ca_wayToSource : Nat → Int32) (ca_wayToEvent : Nat → Int32) (ca_aheadOfSource : Nat → Int32) (ca_aheadOfEvent : Nat → Int32) => ∀ (H : Heap) (locs : List Loc) (ls : Array Slot), va_P G vwCl [oX2 q ca_size, aI K (q 23) 204 ca_price, aI K (q 24) 204 ca_sent, aI K (q 25) 17 ca_spare, aI K (q 27) 17 ca_wayToSource, aI K (q 28) 12 ca_wayToEvent, aI K (q 29) 17 ca_aheadOfSource, aI K (q 30) 12 ca_aheadOfEvent] H → va_D A [oX2 q ca_size, aI K (q 23) 204 ca_price, aI K (q 24) 204 ca_sent, aI K (q 25) 17 ca_spare, aI K (q 27) 17 ca_wayToSource, aI K (q 28) 12 ca_wayToEvent, aI K (q 29) 17 ca_aheadOfSource, aI K (q 30) 12 ca_aheadOfEvent] → va_S A s.heap H locs → lv_has ls 3 [(0, .ref (q 18)), (1, .int x1)] → W p l e rm_X2_seekWays s m av below meth c H locs 0 0 Q (F0 m 2 ls []))
  replace hw := hw (fun (x1 : Int32) (x2 : Int32) (ca_wayToSource : Nat → Int32) (ca_wayToEvent : Nat → Int32) (ca_aheadOfSource : Nat → Int32) (ca_aheadOfEvent : Nat → Int32) => ∀ (H : Heap) (locs : List Loc) (ls : Array Slot), va_P G vwCl [oX2 q ca_size, aI K (q 23) 204 ca_price, aI K (q 24) 204 ca_sent, aI K (q 25) 17 ca_spare, aI K (q 27) 17 ca_wayToSource, aI K (q 28) 12 ca_wayToEvent, aI K (q 29) 17 ca_aheadOfSource, aI K (q 30) 12 ca_aheadOfEvent] H → va_D A [oX2 q ca_size, aI K (q 23) 204 ca_price, aI K (q 24) 204 ca_sent, aI K (q 25) 17 ca_spare, aI K (q 27) 17 ca_wayToSource, aI K (q 28) 12 ca_wayToEvent, aI K (q 29) 17 ca_aheadOfSource, aI K (q 30) 12 ca_aheadOfEvent] → va_S A s.heap H locs → lv_has ls 3 [(0, .ref (q 18)), (1, .int x1), (2, .int x2)] → W p l e rm_X2_seekWays s m av below meth c H locs 0 0 Q (F0 m 69 ls []))
  replace hw := hw (by
    intro x1 ca_wayToSource ca_wayToEvent ca_aheadOfSource ca_aheadOfEvent hw H locs ls hP hD hS hl
    refine lv_iload_n (pc := 2) hx hb dX2_seekWays_2 rfl (lv_at hl 1 rfl) ?_
    refine lv_iconst (pc := 3) (v := (5 : Int32)) hx hb dX2_seekWays_3 (by decide) ?_
    refine lv_aload_n (pc := 4) hx hb dX2_seekWays_4 rfl (lv_at hl 0 rfl) ?_
    refine va_get (pc := 5) (D := G) (ci := 2) (v := .int ca_size) (C := RX2) (T := TX2) (N := 13) hx hb hts iw_X2_seekWays_X2 hown hK hP 0 rfl rfl 4 (by decide) (hts _ (List.mem_of_getElem? (i := 1) rfl)) (fun _ h9 => h9) rfl dX2_seekWays_5 ?_
    refine lv_iadd (pc := 8) hx hb dX2_seekWays_8 ?_
    refine lv_icmp_ge (pc := 9) (tgt := 47) hx hb dX2_seekWays_9 (by decide) (fun c_1 => ?_) (fun c_1 => ?_)
    · replace hw := hw.1 c_1
      refine lv_aload_n (pc := 47) hx hb dX2_seekWays_47 rfl (lv_at hl 0 rfl) ?_
      refine va_get (pc := 48) (D := G) (ci := 2) (v := .ref (q 28)) (C := RX2) (T := TX2) (N := 13) hx hb hts iw_X2_seekWays_X2 hown hK hP 0 rfl rfl 10 (by decide) (hts _ (List.mem_of_getElem? (i := 6) rfl)) (fun _ h9 => h9) rfl dX2_seekWays_48 ?_
      refine lv_ldc (pc := 51) (v := (1000000 : Int32)) hx hb hown (hts _ (List.mem_of_getElem? (i := 4) rfl)) dX2_seekWays_51 ?_
      refine hCallV (pc := 53) (wr := [oX2 q ca_size, aI K (q 23) 204 ca_price, aI K (q 24) 204 ca_sent, aI K (q 25) 17 ca_spare, aI K (q 27) 17 ca_wayToSource, aI K (q 29) 17 ca_aheadOfSource, aI K (q 30) 12 ca_aheadOfEvent]) (wsf := fun (u : (Nat → Int32)) => [aI K (q 28) 12 u]) [5] [0, 1, 2, 3, 4, 6, 7] (va_runS (As := [.ref (q 28), .int (1000000 : Int32)]) (rest := []) ⟨hx, hb, hml, hown, hts⟩ (c_J7_fill_53178 l G K tb q H.size (q 28) 12 _ (1000000 : Int32) ca_wayToEvent hw) (va_cwS 2 hts gX2_seekWays_J7_fill_53178 rfl rfl rfl (by decide +kernel) ⟨Nat.le_of_ble_eq_true rfl, Nat.le_of_ble_eq_true rfl⟩) (hPreS hE hP hK hD hS hA [5] (by decide) rfl rfl) rfl rfl hl.1 rfl (lv_room (Nat.le_of_ble_eq_true rfl)) dX2_seekWays_53 ⟨Nat.zero_le _, Nat.zero_le _⟩) hP hD hS hA rfl rfl (by decide) (by decide) (fun u H locs hw hP hD hS => ?_)
      obtain ⟨ca_wayToEvent_2, rfl⟩ : ∃ z, z = u := ⟨_, rfl⟩
      have hP : va_P G vwCl [oX2 q ca_size, aI K (q 23) 204 ca_price, aI K (q 24) 204 ca_sent, aI K (q 25) 17 ca_spare, aI K (q 27) 17 ca_wayToSource, aI K (q 28) 12 ca_wayToEvent_2, aI K (q 29) 17 ca_aheadOfSource, aI K (q 30) 12 ca_aheadOfEvent] H := hP.sub [0, 1, 2, 3, 4, 7, 5, 6] rfl
      have hD : va_D A [oX2 q ca_size, aI K (q 23) 204 ca_price, aI K (q 24) 204 ca_sent, aI K (q 25) 17 ca_spare, aI K (q 27) 17 ca_wayToSource, aI K (q 28) 12 ca_wayToEvent_2, aI K (q 29) 17 ca_aheadOfSource, aI K (q 30) 12 ca_aheadOfEvent] := hD.sub [0, 1, 2, 3, 4, 7, 5, 6] (by decide) rfl
      refine lv_aload_n (pc := 56) hx hb dX2_seekWays_56 rfl (lv_at hl 0 rfl) ?_
      refine va_get (pc := 57) (D := G) (ci := 2) (v := .ref (q 30)) (C := RX2) (T := TX2) (N := 13) hx hb hts iw_X2_seekWays_X2 hown hK hP 0 rfl rfl 12 (by decide) (hts _ (List.mem_of_getElem? (i := 7) rfl)) (fun _ h9 => h9) rfl dX2_seekWays_57 ?_
      refine lv_bipush (pc := 60) (v := (-9 : Int32)) hx hb dX2_seekWays_60 (by decide) ?_
      refine hCallV (pc := 62) (wr := [oX2 q ca_size, aI K (q 23) 204 ca_price, aI K (q 24) 204 ca_sent, aI K (q 25) 17 ca_spare, aI K (q 27) 17 ca_wayToSource, aI K (q 28) 12 ca_wayToEvent_2, aI K (q 29) 17 ca_aheadOfSource]) (wsf := fun (u : (Nat → Int32)) => [aI K (q 30) 12 u]) [7] [0, 1, 2, 3, 4, 5, 6] (va_runS (As := [.ref (q 30), .int (-9 : Int32)]) (rest := []) ⟨hx, hb, hml, hown, hts⟩ (c_J7_fill_53178 l G K tb q H.size (q 30) 12 _ (-9 : Int32) ca_aheadOfEvent hw) (va_cwS 2 hts gX2_seekWays_J7_fill_53178 rfl rfl rfl (by decide +kernel) ⟨Nat.le_of_ble_eq_true rfl, Nat.le_of_ble_eq_true rfl⟩) (hPreS hE hP hK hD hS hA [7] (by decide) rfl rfl) rfl rfl hl.1 rfl (lv_room (Nat.le_of_ble_eq_true rfl)) dX2_seekWays_62 ⟨Nat.zero_le _, Nat.zero_le _⟩) hP hD hS hA rfl rfl (by decide) (by decide) (fun u H locs hw hP hD hS => ?_)
      obtain ⟨ca_aheadOfEvent_3, rfl⟩ : ∃ z, z = u := ⟨_, rfl⟩
      have hP : va_P G vwCl [oX2 q ca_size, aI K (q 23) 204 ca_price, aI K (q 24) 204 ca_sent, aI K (q 25) 17 ca_spare, aI K (q 27) 17 ca_wayToSource, aI K (q 28) 12 ca_wayToEvent_2, aI K (q 29) 17 ca_aheadOfSource, aI K (q 30) 12 ca_aheadOfEvent_3] H := hP.sub [0, 1, 2, 3, 4, 5, 6, 7] rfl
      have hD : va_D A [oX2 q ca_size, aI K (q 23) 204 ca_price, aI K (q 24) 204 ca_sent, aI K (q 25) 17 ca_spare, aI K (q 27) 17 ca_wayToSource, aI K (q 28) 12 ca_wayToEvent_2, aI K (q 29) 17 ca_aheadOfSource, aI K (q 30) 12 ca_aheadOfEvent_3] := hD.sub [0, 1, 2, 3, 4, 5, 6, 7] (by decide) rfl
      refine lv_iconst (pc := 65) (v := (1 : Int32)) hx hb dX2_seekWays_65 (by decide) ?_
      refine lv_istore_n (pc := 66) (lv' := [(1, .int (1 : Int32)), (0, .ref (q 18))]) hx hb dX2_seekWays_66 rfl hl (by decide) rfl (fun ls hl => ?_)
      refine lv_iconst (pc := 67) (v := (0 : Int32)) hx hb dX2_seekWays_67 (by decide) ?_
      refine lv_istore_n (pc := 68) (lv' := [(2, .int (0 : Int32)), (1, .int (1 : Int32)), (0, .ref (q 18))]) hx hb dX2_seekWays_68 rfl hl (by decide) rfl (fun ls hl => ?_)
      exact hw _ _ _ hP hD hS (lv_sub hl [2, 1, 0] rfl)
    · replace hw := hw.2 c_1
      refine lv_aload_n (pc := 12) hx hb dX2_seekWays_12 rfl (lv_at hl 0 rfl) ?_
      refine va_get (pc := 13) (D := G) (ci := 2) (v := .ref (q 27)) (C := RX2) (T := TX2) (N := 13) hx hb hts iw_X2_seekWays_X2 hown hK hP 0 rfl rfl 9 (by decide) (hts _ (List.mem_of_getElem? (i := 2) rfl)) (fun _ h9 => h9) rfl dX2_seekWays_13 ?_
      refine lv_iload_n (pc := 16) hx hb dX2_seekWays_16 rfl (lv_at hl 1 rfl) ?_
      refine lv_aload_n (pc := 17) hx hb dX2_seekWays_17 rfl (lv_at hl 0 rfl) ?_
      refine va_get (pc := 18) (D := G) (ci := 2) (v := .ref (q 25)) (C := RX2) (T := TX2) (N := 13) hx hb hts iw_X2_seekWays_X2 hown hK hP 0 rfl rfl 7 (by decide) (hts _ (List.mem_of_getElem? (i := 3) rfl)) (fun _ h9 => h9) rfl dX2_seekWays_18 ?_
      refine lv_iload_n (pc := 21) hx hb dX2_seekWays_21 rfl (lv_at hl 1 rfl) ?_
      obtain ⟨h_4, hw⟩ := hw
      refine va_iald (pc := 22) hx hb hK hP 3 0 rfl rfl h_4 dX2_seekWays_22 ?_
      have K_v_6 : ∀ v_6 : Int32, v_6 = (if (ca_spare x1.toNatClampNeg) ≤ (0 : Int32) then (1000000 : Int32) else (0 : Int32)) → W p l e rm_X2_seekWays s m av below meth c H locs 0 0 Q (F0 m 32 ls [.int v_6, .int x1, .ref (q 27)]) := by
        intro v_6 ev_6
        replace hw := hw v_6 ev_6
        refine va_iast (pc := 32) hx hb hK hP hD hS 4 0 rfl rfl h_4 dX2_seekWays_32 (fun H locs hP hD hS => ?_)
        obtain ⟨ca_wayToSource_7, eca_wayToSource_7⟩ : ∃ z : Nat → Int32, z = upd ca_wayToSource x1.toNatClampNeg v_6 := ⟨_, rfl⟩
        have hP : va_P G vwCl [oX2 q ca_size, aI K (q 23) 204 ca_price, aI K (q 24) 204 ca_sent, aI K (q 25) 17 ca_spare, aI K (q 27) 17 ca_wayToSource_7, aI K (q 28) 12 ca_wayToEvent, aI K (q 29) 17 ca_aheadOfSource, aI K (q 30) 12 ca_aheadOfEvent] H := by rw [eca_wayToSource_7]; exact hP
        have hD : va_D A [oX2 q ca_size, aI K (q 23) 204 ca_price, aI K (q 24) 204 ca_sent, aI K (q 25) 17 ca_spare, aI K (q 27) 17 ca_wayToSource_7, aI K (q 28) 12 ca_wayToEvent, aI K (q 29) 17 ca_aheadOfSource, aI K (q 30) 12 ca_aheadOfEvent] := by rw [eca_wayToSource_7]; exact hD
        replace hw := hw ca_wayToSource_7 eca_wayToSource_7
        refine lv_aload_n (pc := 33) hx hb dX2_seekWays_33 rfl (lv_at hl 0 rfl) ?_
        refine va_get (pc := 34) (D := G) (ci := 2) (v := .ref (q 29)) (C := RX2) (T := TX2) (N := 13) hx hb hts iw_X2_seekWays_X2 hown hK hP 0 rfl rfl 11 (by decide) (hts _ (List.mem_of_getElem? (i := 5) rfl)) (fun _ h9 => h9) rfl dX2_seekWays_34 ?_
        refine lv_iload_n (pc := 37) hx hb dX2_seekWays_37 rfl (lv_at hl 1 rfl) ?_
        refine lv_bipush (pc := 38) (v := (-9 : Int32)) hx hb dX2_seekWays_38 (by decide) ?_
        refine va_iast (pc := 40) hx hb hK hP hD hS 6 0 rfl rfl h_4 dX2_seekWays_40 (fun H locs hP hD hS => ?_)
        obtain ⟨ca_aheadOfSource_8, eca_aheadOfSource_8⟩ : ∃ z : Nat → Int32, z = upd ca_aheadOfSource x1.toNatClampNeg (-9 : Int32) := ⟨_, rfl⟩
        have hP : va_P G vwCl [oX2 q ca_size, aI K (q 23) 204 ca_price, aI K (q 24) 204 ca_sent, aI K (q 25) 17 ca_spare, aI K (q 27) 17 ca_wayToSource_7, aI K (q 28) 12 ca_wayToEvent, aI K (q 29) 17 ca_aheadOfSource_8, aI K (q 30) 12 ca_aheadOfEvent] H := by rw [eca_aheadOfSource_8]; exact hP
        have hD : va_D A [oX2 q ca_size, aI K (q 23) 204 ca_price, aI K (q 24) 204 ca_sent, aI K (q 25) 17 ca_spare, aI K (q 27) 17 ca_wayToSource_7, aI K (q 28) 12 ca_wayToEvent, aI K (q 29) 17 ca_aheadOfSource_8, aI K (q 30) 12 ca_aheadOfEvent] := by rw [eca_aheadOfSource_8]; exact hD
        replace hw := hw ca_aheadOfSource_8 eca_aheadOfSource_8
        obtain ⟨y_9, ey_9⟩ : ∃ z : Int32, z = (x1 + (1 : Int32)) := ⟨_, rfl⟩
        replace hw := hw y_9 ey_9
        refine lv_iinc (pc := 41) (v := y_9) (lv' := [(1, .int y_9), (0, .ref (q 18))]) hx hb dX2_seekWays_41 hl (k := 1) rfl (by rw [ey_9]; rfl) (by decide) rfl (fun ls hl => ?_)
        refine lv_goto (pc := 44) (tgt := 2) hx hb dX2_seekWays_44 (by decide) ?_
        exact hw _ _ _ hP hD hS (lv_sub hl [1, 0] rfl)
      refine lv_if_le (pc := 23) (tgt := 30) hx hb dX2_seekWays_23 (by decide) (fun c_5 => ?_) (fun c_5 => ?_)
      · skip
        refine lv_ldc (pc := 30) (v := (1000000 : Int32)) hx hb hown (hts _ (List.mem_of_getElem? (i := 4) rfl)) dX2_seekWays_30 ?_
        exact K_v_6 _ (by rw [if_pos c_5])
      · skip
        refine lv_iconst (pc := 26) (v := (0 : Int32)) hx hb dX2_seekWays_26 (by decide) ?_
        refine lv_goto (pc := 27) (tgt := 32) hx hb dX2_seekWays_27 (by decide) ?_
        exact K_v_6 _ (by rw [if_neg c_5]))
  replace hw := hw (by
    intro x1 x2 ca_wayToSource ca_wayToEvent ca_aheadOfSource ca_aheadOfEvent hw H locs ls hP hD hS hl
    refine lv_iload_n (pc := 69) hx hb dX2_seekWays_69 rfl (lv_at hl 2 rfl) ?_
    refine lv_bipush (pc := 70) (v := (29 : Int32)) hx hb dX2_seekWays_70 (by decide) ?_
    refine lv_icmp_ge (pc := 72) (tgt := 94) hx hb dX2_seekWays_72 (by decide) (fun c_10 => ?_) (fun c_10 => ?_)
    · replace hw := hw.1 c_10
      exact hRetV (S := (Nat → Int32) × (Nat → Int32) × (Nat → Int32) × (Nat → Int32)) (ca_wayToSource, ca_wayToEvent, ca_aheadOfSource, ca_aheadOfEvent) hx hb hr hlocks hQ hw hP hK hD hS dX2_seekWays_94
    · replace hw := hw.2 c_10
      refine lv_iload_n (pc := 75) hx hb dX2_seekWays_75 rfl (lv_at hl 1 rfl) ?_
      refine lv_if_eq (pc := 76) (tgt := 94) hx hb dX2_seekWays_76 (by decide) (fun c_11 => ?_) (fun c_11 => ?_)
      · replace hw := hw.1 c_11
        exact hRetV (S := (Nat → Int32) × (Nat → Int32) × (Nat → Int32) × (Nat → Int32)) (ca_wayToSource, ca_wayToEvent, ca_aheadOfSource, ca_aheadOfEvent) hx hb hr hlocks hQ hw hP hK hD hS dX2_seekWays_94
      · replace hw := hw.2 c_11
        refine lv_aload_n (pc := 79) hx hb dX2_seekWays_79 rfl (lv_at hl 0 rfl) ?_
        refine hCallV (pc := 80) (wr := [aI K (q 24) 204 ca_sent, aI K (q 25) 17 ca_spare, aI K (q 29) 17 ca_aheadOfSource]) (wsf := fun (u : (Nat → Int32) × (Nat → Int32)) => [oX2 q ca_size, aI K (q 23) 204 ca_price, aI K (q 27) 17 ca_wayToSource, aI K (q 28) 12 u.1, aI K (q 30) 12 u.2]) [0, 1, 4, 5, 7] [2, 3, 6] (va_runV (As := []) (rest := []) ⟨hx, hb, hml, hown, hts⟩ (c_X2_reachEvents l G K tb q H.size _ ca_size ca_price ca_wayToSource ca_wayToEvent ca_aheadOfEvent hw) (cwV 0 hts gX2_seekWays_X2_reachEvents rfl rfl rfl (by decide +kernel) ⟨Nat.le_of_ble_eq_true rfl, Nat.le_of_ble_eq_true rfl⟩) (hPreV hE hP hK hD hS hA [0, 1, 4, 5, 7] (by decide) rfl rfl rfl rfl (q0 := 0) (ci := 2) rfl) rfl rfl hl.1 rfl (lv_room (Nat.le_of_ble_eq_true rfl)) dX2_seekWays_80 ⟨Nat.zero_le _, Nat.zero_le _⟩) hP hD hS hA rfl rfl (by decide) (by decide) (fun u H locs hw hP hD hS => ?_)
        obtain ⟨ca_wayToEvent_12, ca_aheadOfEvent_13⟩ := u
        have hP : va_P G vwCl [oX2 q ca_size, aI K (q 23) 204 ca_price, aI K (q 24) 204 ca_sent, aI K (q 25) 17 ca_spare, aI K (q 27) 17 ca_wayToSource, aI K (q 28) 12 ca_wayToEvent_12, aI K (q 29) 17 ca_aheadOfSource, aI K (q 30) 12 ca_aheadOfEvent_13] H := hP.sub [3, 4, 0, 1, 5, 6, 2, 7] rfl
        have hD : va_D A [oX2 q ca_size, aI K (q 23) 204 ca_price, aI K (q 24) 204 ca_sent, aI K (q 25) 17 ca_spare, aI K (q 27) 17 ca_wayToSource, aI K (q 28) 12 ca_wayToEvent_12, aI K (q 29) 17 ca_aheadOfSource, aI K (q 30) 12 ca_aheadOfEvent_13] := hD.sub [3, 4, 0, 1, 5, 6, 2, 7] (by decide) rfl
        refine lv_aload_n (pc := 83) hx hb dX2_seekWays_83 rfl (lv_at hl 0 rfl) ?_
        refine hCallI (pc := 84) (wr := [aI K (q 25) 17 ca_spare, aI K (q 30) 12 ca_aheadOfEvent_13]) (wsf := fun (u : (Nat → Int32) × (Nat → Int32)) => [oX2 q ca_size, aI K (q 23) 204 ca_price, aI K (q 24) 204 ca_sent, aI K (q 27) 17 u.1, aI K (q 28) 12 ca_wayToEvent_12, aI K (q 29) 17 u.2]) [0, 1, 2, 4, 5, 6] [3, 7] (va_runV (As := []) (rest := []) ⟨hx, hb, hml, hown, hts⟩ (c_X2_reachSources l G K tb q H.size _ ca_size ca_price ca_sent ca_wayToSource ca_wayToEvent_12 ca_aheadOfSource hw) (cwV 0 hts gX2_seekWays_X2_reachSources rfl rfl rfl (by decide +kernel) ⟨Nat.le_of_ble_eq_true rfl, Nat.le_of_ble_eq_true rfl⟩) (hPreV hE hP hK hD hS hA [0, 1, 2, 4, 5, 6] (by decide) rfl rfl rfl rfl (q0 := 0) (ci := 2) rfl) rfl rfl hl.1 rfl (lv_room (Nat.le_of_ble_eq_true rfl)) dX2_seekWays_84 ⟨Nat.zero_le _, Nat.zero_le _⟩) hP hD hS hA rfl rfl (by decide) (by decide) (fun r_14 u H locs hw hP hD hS => ?_)
        obtain ⟨ca_wayToSource_15, ca_aheadOfSource_16⟩ := u
        have hP : va_P G vwCl [oX2 q ca_size, aI K (q 23) 204 ca_price, aI K (q 24) 204 ca_sent, aI K (q 25) 17 ca_spare, aI K (q 27) 17 ca_wayToSource_15, aI K (q 28) 12 ca_wayToEvent_12, aI K (q 29) 17 ca_aheadOfSource_16, aI K (q 30) 12 ca_aheadOfEvent_13] H := hP.sub [2, 3, 4, 0, 5, 6, 7, 1] rfl
        have hD : va_D A [oX2 q ca_size, aI K (q 23) 204 ca_price, aI K (q 24) 204 ca_sent, aI K (q 25) 17 ca_spare, aI K (q 27) 17 ca_wayToSource_15, aI K (q 28) 12 ca_wayToEvent_12, aI K (q 29) 17 ca_aheadOfSource_16, aI K (q 30) 12 ca_aheadOfEvent_13] := hD.sub [2, 3, 4, 0, 5, 6, 7, 1] (by decide) rfl
        refine lv_istore_n (pc := 87) (lv' := [(1, .int r_14), (0, .ref (q 18)), (2, .int x2)]) hx hb dX2_seekWays_87 rfl hl (by decide) rfl (fun ls hl => ?_)
        obtain ⟨y_17, ey_17⟩ : ∃ z : Int32, z = (x2 + (1 : Int32)) := ⟨_, rfl⟩
        replace hw := hw y_17 ey_17
        refine lv_iinc (pc := 88) (v := y_17) (lv' := [(2, .int y_17), (1, .int r_14), (0, .ref (q 18))]) hx hb dX2_seekWays_88 hl (k := 2) rfl (by rw [ey_17]; rfl) (by decide) rfl (fun ls hl => ?_)
        refine lv_goto (pc := 91) (tgt := 69) hx hb dX2_seekWays_91 (by decide) ?_
        exact hw _ _ _ hP hD hS (lv_sub hl [2, 1, 0] rfl))
  refine lv_iconst (pc := 0) (v := (0 : Int32)) hx hb dX2_seekWays_0 (by decide) ?_
  refine lv_istore_n (pc := 1) (lv' := [(1, .int (0 : Int32)), (0, .ref (q 18))]) hx hb dX2_seekWays_1 rfl hl (by decide) rfl (fun ls hl => ?_)
  exact hw _ _ _ hP hD hS (lv_sub hl [1, 0] rfl)
def P_X2_mostAlong (post : Int32 → Prop) (p1 : Int32) (ca_sent : Nat → Int32) (ca_spare : Nat → Int32) (ca_unmet : Nat → Int32) (ca_aheadOfSource : Nat → Int32) (ca_aheadOfEvent : Nat → Int32) : Prop :=
  ∀ (X12 : Int32 → Int32 → Int32 → Prop),
  (∀ (x2 : Int32) (x3 : Int32) (x4 : Int32), ((((17 : Int32) ≤ x4 → post (0 : Int32)) ∧ (¬ (17 : Int32) ≤ x4 → vp_in x3 12 ∧ ∀ y_5 : Int32, y_5 = (ca_aheadOfEvent x3.toNatClampNeg) → ((y_5 = (-9 : Int32) → post (0 : Int32)) ∧ (¬ y_5 = (-9 : Int32) → vp_in y_5 17 ∧ ∀ y_8 : Int32, y_8 = (ca_aheadOfSource y_5.toNatClampNeg) → ((y_8 = (-9 : Int32) → ∀ y_13 : Int32, y_13 = (if (ca_spare y_5.toNatClampNeg) < x2 then (ca_spare y_5.toNatClampNeg) else x2) → post y_13) ∧ (¬ y_8 = (-9 : Int32) → vp_in ((y_5 * (12 : Int32)) + y_8) 204 ∧ ∀ y_11 : Int32, y_11 = (if (ca_sent ((y_5 * (12 : Int32)) + y_8).toNatClampNeg) < x2 then (ca_sent ((y_5 * (12 : Int32)) + y_8).toNatClampNeg) else x2) → ∀ y_12 : Int32, y_12 = (x4 + (1 : Int32)) → X12 y_11 y_8 y_12))))))) → X12 x2 x3 x4) →
  vp_in p1 12 ∧ ∀ y_2 : Int32, y_2 = (ca_unmet p1.toNatClampNeg) → X12 y_2 p1 (0 : Int32)
abbrev rm_X2_mostAlong : Room := { frames := 1, cells := 0, slots := 0, locals := 23 }
theorem iw_X2_mostAlong_X2 : ∀ w ∈ wsX20, w ∈ wsX2_mostAlong := by decide +kernel
set_option maxHeartbeats 4000000 in
set_option maxRecDepth 100000 in
theorem c_X2_mostAlong (l : Launch) (G : va_G) (K : ClassId × ClassId × ClassId) (tb q : Nat → Nat) (sz : Nat) (ca_size : Int32) (post : Int32 → Prop) (p1 : Int32) (ca_sent : Nat → Int32) (ca_spare : Nat → Int32) (ca_unmet : Nat → Int32) (ca_aheadOfSource : Nat → Int32) (ca_aheadOfEvent : Nat → Int32) (hw : P_X2_mostAlong post p1 ca_sent ca_spare ca_unmet ca_aheadOfSource ca_aheadOfEvent) : Met l yX2_mostAlong wsX2_mostAlong rm_X2_mostAlong (va_Pc [.ref (q 18), .int p1] (hPre G K tb [oX2 q ca_size, aI K (q 24) 204 ca_sent, aI K (q 25) 17 ca_spare, aI K (q 26) 12 ca_unmet, aI K (q 29) 17 ca_aheadOfSource, aI K (q 30) 12 ca_aheadOfEvent] sz)) (va_Qi (fun (r : Int32) (u : Unit) => post r) (fun u => hB G K (va_A [oX2 q ca_size, aI K (q 24) 204 ca_sent, aI K (q 25) 17 ca_spare, aI K (q 26) 12 ca_unmet, aI K (q 29) 17 ca_aheadOfSource, aI K (q 30) 12 ca_aheadOfEvent] sz) [oX2 q ca_size, aI K (q 24) 204 ca_sent, aI K (q 25) 17 ca_spare, aI K (q 26) 12 ca_unmet, aI K (q 29) 17 ca_aheadOfSource, aI K (q 30) 12 ca_aheadOfEvent]) (va_A [oX2 q ca_size, aI K (q 24) 204 ca_sent, aI K (q 25) 17 ca_spare, aI K (q 26) 12 ca_unmet, aI K (q 29) 17 ca_aheadOfSource, aI K (q 30) 12 ca_aheadOfEvent] sz)) 0 0 (va_A [oX2 q ca_size, aI K (q 24) 204 ca_sent, aI K (q 25) 17 ca_spare, aI K (q 26) 12 ca_unmet, aI K (q 29) 17 ca_aheadOfSource, aI K (q 30) 12 ca_aheadOfEvent] sz) := by
  refine hMet (fun A => va_Qi (fun (r : Int32) (u : Unit) => post r) (fun u => hB G K A [oX2 q ca_size, aI K (q 24) 204 ca_sent, aI K (q 25) 17 ca_spare, aI K (q 26) 12 ca_unmet, aI K (q 29) 17 ca_aheadOfSource, aI K (q 30) 12 ca_aheadOfEvent]) A) (by decide) rfl (Nat.le_of_ble_eq_true rfl) ?_
  intro p e s m av below meth c A Q ls hx hb hr hml hts hown hlocks hnm hA hP hK hD hS hE hQ hl
  have hts : ∀ w ∈ wsX2_mostAlong, w.before av s = true := hts
  have hown : s.vm.findClass RX2 = some m.cls := hown
  have hl : lv_has ls 7 [(0, .ref (q 18)), (1, .int p1)] := hl
  unfold P_X2_mostAlong at hw
  replace hw := hw (fun (x2 : Int32) (x3 : Int32) (x4 : Int32) => ∀ (H : Heap) (locs : List Loc) (ls : Array Slot), va_P G vwCl [oX2 q ca_size, aI K (q 24) 204 ca_sent, aI K (q 25) 17 ca_spare, aI K (q 26) 12 ca_unmet, aI K (q 29) 17 ca_aheadOfSource, aI K (q 30) 12 ca_aheadOfEvent] H → va_D A [oX2 q ca_size, aI K (q 24) 204 ca_sent, aI K (q 25) 17 ca_spare, aI K (q 26) 12 ca_unmet, aI K (q 29) 17 ca_aheadOfSource, aI K (q 30) 12 ca_aheadOfEvent] → va_S A s.heap H locs → lv_has ls 7 [(0, .ref (q 18)), (2, .int x2), (3, .int x3), (4, .int x4)] → W p l e rm_X2_mostAlong s m av below meth c H locs 0 0 Q (F0 m 12 ls []))
  replace hw := hw (by
    intro x2 x3 x4 hw H locs ls hP hD hS hl
    refine lv_iload (pc := 12) hx hb dX2_mostAlong_12 (lv_at hl 3 rfl) ?_
    refine lv_bipush (pc := 14) (v := (17 : Int32)) hx hb dX2_mostAlong_14 (by decide) ?_
    refine lv_icmp_ge (pc := 16) (tgt := 91) hx hb dX2_mostAlong_16 (by decide) (fun c_3 => ?_) (fun c_3 => ?_)
    · replace hw := hw.1 c_3
      refine lv_iconst (pc := 91) (v := (0 : Int32)) hx hb dX2_mostAlong_91 (by decide) ?_
      exact hRetI (S := Unit) () hx hb hr hlocks hQ hw hP hK hD hS dX2_mostAlong_92
    · replace hw := hw.2 c_3
      refine lv_aload_n (pc := 19) hx hb dX2_mostAlong_19 rfl (lv_at hl 0 rfl) ?_
      refine va_get (pc := 20) (D := G) (ci := 2) (v := .ref (q 30)) (C := RX2) (T := TX2) (N := 13) hx hb hts iw_X2_mostAlong_X2 hown hK hP 0 rfl rfl 12 (by decide) (hts _ (List.mem_of_getElem? (i := 2) rfl)) (fun _ h9 => h9) rfl dX2_mostAlong_20 ?_
      refine lv_iload_n (pc := 23) hx hb dX2_mostAlong_23 rfl (lv_at hl 2 rfl) ?_
      obtain ⟨h_4, hw⟩ := hw
      refine va_iald (pc := 24) hx hb hK hP 5 0 rfl rfl h_4 dX2_mostAlong_24 ?_
      refine lv_topi (fun y_5 ey_5 => ?_)
      replace hw := hw y_5 ey_5
      refine lv_istore (pc := 25) (lv' := [(5, .int y_5), (0, .ref (q 18)), (2, .int x2), (3, .int x3), (4, .int x4)]) hx hb dX2_mostAlong_25 hl (by decide) rfl (fun ls hl => ?_)
      refine lv_iload (pc := 27) hx hb dX2_mostAlong_27 (lv_at hl 0 rfl) ?_
      refine lv_bipush (pc := 29) (v := (-9 : Int32)) hx hb dX2_mostAlong_29 (by decide) ?_
      refine lv_icmp_ne (pc := 31) (tgt := 36) hx hb dX2_mostAlong_31 (by decide) (fun c_6 => ?_) (fun c_6 => ?_)
      · replace hw := hw.2 c_6
        refine lv_aload_n (pc := 36) hx hb dX2_mostAlong_36 rfl (lv_at hl 1 rfl) ?_
        refine va_get (pc := 37) (D := G) (ci := 2) (v := .ref (q 29)) (C := RX2) (T := TX2) (N := 13) hx hb hts iw_X2_mostAlong_X2 hown hK hP 0 rfl rfl 11 (by decide) (hts _ (List.mem_of_getElem? (i := 3) rfl)) (fun _ h9 => h9) rfl dX2_mostAlong_37 ?_
        refine lv_iload (pc := 40) hx hb dX2_mostAlong_40 (lv_at hl 0 rfl) ?_
        obtain ⟨h_7, hw⟩ := hw
        refine va_iald (pc := 42) hx hb hK hP 4 0 rfl rfl h_7 dX2_mostAlong_42 ?_
        refine lv_topi (fun y_8 ey_8 => ?_)
        replace hw := hw y_8 ey_8
        refine lv_istore (pc := 43) (lv' := [(6, .int y_8), (5, .int y_5), (0, .ref (q 18)), (2, .int x2), (3, .int x3), (4, .int x4)]) hx hb dX2_mostAlong_43 hl (by decide) rfl (fun ls hl => ?_)
        refine lv_iload (pc := 45) hx hb dX2_mostAlong_45 (lv_at hl 0 rfl) ?_
        refine lv_bipush (pc := 47) (v := (-9 : Int32)) hx hb dX2_mostAlong_47 (by decide) ?_
        refine lv_icmp_ne (pc := 49) (tgt := 64) hx hb dX2_mostAlong_49 (by decide) (fun c_9 => ?_) (fun c_9 => ?_)
        · replace hw := hw.2 c_9
          refine lv_iload_n (pc := 64) hx hb dX2_mostAlong_64 rfl (lv_at hl 3 rfl) ?_
          refine lv_aload_n (pc := 65) hx hb dX2_mostAlong_65 rfl (lv_at hl 2 rfl) ?_
          refine va_get (pc := 66) (D := G) (ci := 2) (v := .ref (q 24)) (C := RX2) (T := TX2) (N := 13) hx hb hts iw_X2_mostAlong_X2 hown hK hP 0 rfl rfl 6 (by decide) (hts _ (List.mem_of_getElem? (i := 9) rfl)) (fun _ h9 => h9) rfl dX2_mostAlong_66 ?_
          refine lv_iload (pc := 69) hx hb dX2_mostAlong_69 (lv_at hl 1 rfl) ?_
          refine lv_bipush (pc := 71) (v := (12 : Int32)) hx hb dX2_mostAlong_71 (by decide) ?_
          refine lv_imul (pc := 73) hx hb dX2_mostAlong_73 ?_
          refine lv_iload (pc := 74) hx hb dX2_mostAlong_74 (lv_at hl 0 rfl) ?_
          refine lv_iadd (pc := 76) hx hb dX2_mostAlong_76 ?_
          obtain ⟨h_10, hw⟩ := hw
          refine va_iald (pc := 77) hx hb hK hP 1 0 rfl rfl h_10 dX2_mostAlong_77 ?_
          refine va_mmin (pc := 78) hx hb (hml.trans hl.1.symm) hown (hts _ (List.mem_of_getElem? (i := 5) rfl)) (hts _ (List.mem_of_getElem? (i := 6) rfl)) (hts _ (List.mem_of_getElem? (i := 7) rfl)) (hts _ (List.mem_of_getElem? (i := 8) rfl)) (Nat.le_of_ble_eq_true rfl) (Nat.le_of_ble_eq_true rfl) (Nat.zero_le _) (Nat.zero_le _) dX2_mostAlong_78 ?_
          refine lv_topi (fun y_11 ey_11 => ?_)
          replace hw := hw y_11 ey_11
          refine lv_istore_n (pc := 81) (lv' := [(2, .int y_11), (6, .int y_8), (5, .int y_5), (0, .ref (q 18)), (3, .int x3), (4, .int x4)]) hx hb dX2_mostAlong_81 rfl hl (by decide) rfl (fun ls hl => ?_)
          refine lv_iload (pc := 82) hx hb dX2_mostAlong_82 (lv_at hl 1 rfl) ?_
          refine lv_istore_n (pc := 84) (lv' := [(3, .int y_8), (2, .int y_11), (6, .int y_8), (5, .int y_5), (0, .ref (q 18)), (4, .int x4)]) hx hb dX2_mostAlong_84 rfl hl (by decide) rfl (fun ls hl => ?_)
          obtain ⟨y_12, ey_12⟩ : ∃ z : Int32, z = (x4 + (1 : Int32)) := ⟨_, rfl⟩
          replace hw := hw y_12 ey_12
          refine lv_iinc (pc := 85) (v := y_12) (lv' := [(4, .int y_12), (3, .int y_8), (2, .int y_11), (6, .int y_8), (5, .int y_5), (0, .ref (q 18))]) hx hb dX2_mostAlong_85 hl (k := 5) rfl (by rw [ey_12]; rfl) (by decide) rfl (fun ls hl => ?_)
          refine lv_goto (pc := 88) (tgt := 12) hx hb dX2_mostAlong_88 (by decide) ?_
          exact hw _ _ _ hP hD hS (lv_sub hl [5, 2, 1, 0] rfl)
        · replace hw := hw.1 c_9
          refine lv_iload_n (pc := 52) hx hb dX2_mostAlong_52 rfl (lv_at hl 3 rfl) ?_
          refine lv_aload_n (pc := 53) hx hb dX2_mostAlong_53 rfl (lv_at hl 2 rfl) ?_
          refine va_get (pc := 54) (D := G) (ci := 2) (v := .ref (q 25)) (C := RX2) (T := TX2) (N := 13) hx hb hts iw_X2_mostAlong_X2 hown hK hP 0 rfl rfl 7 (by decide) (hts _ (List.mem_of_getElem? (i := 4) rfl)) (fun _ h9 => h9) rfl dX2_mostAlong_54 ?_
          refine lv_iload (pc := 57) hx hb dX2_mostAlong_57 (lv_at hl 1 rfl) ?_
          refine va_iald (pc := 59) hx hb hK hP 2 0 rfl rfl h_7 dX2_mostAlong_59 ?_
          refine va_mmin (pc := 60) hx hb (hml.trans hl.1.symm) hown (hts _ (List.mem_of_getElem? (i := 5) rfl)) (hts _ (List.mem_of_getElem? (i := 6) rfl)) (hts _ (List.mem_of_getElem? (i := 7) rfl)) (hts _ (List.mem_of_getElem? (i := 8) rfl)) (Nat.le_of_ble_eq_true rfl) (Nat.le_of_ble_eq_true rfl) (Nat.zero_le _) (Nat.zero_le _) dX2_mostAlong_60 ?_
          refine lv_topi (fun y_13 ey_13 => ?_)
          replace hw := hw y_13 ey_13
          exact hRetI (S := Unit) () hx hb hr hlocks hQ hw hP hK hD hS dX2_mostAlong_63
      · replace hw := hw.1 c_6
        refine lv_iconst (pc := 34) (v := (0 : Int32)) hx hb dX2_mostAlong_34 (by decide) ?_
        exact hRetI (S := Unit) () hx hb hr hlocks hQ hw hP hK hD hS dX2_mostAlong_35)
  refine lv_aload_n (pc := 0) hx hb dX2_mostAlong_0 rfl (lv_at hl 0 rfl) ?_
  refine va_get (pc := 1) (D := G) (ci := 2) (v := .ref (q 26)) (C := RX2) (T := TX2) (N := 13) hx hb hts iw_X2_mostAlong_X2 hown hK hP 0 rfl rfl 8 (by decide) (hts _ (List.mem_of_getElem? (i := 1) rfl)) (fun _ h9 => h9) rfl dX2_mostAlong_1 ?_
  refine lv_iload_n (pc := 4) hx hb dX2_mostAlong_4 rfl (lv_at hl 1 rfl) ?_
  obtain ⟨h_1, hw⟩ := hw
  refine va_iald (pc := 5) hx hb hK hP 3 0 rfl rfl h_1 dX2_mostAlong_5 ?_
  refine lv_topi (fun y_2 ey_2 => ?_)
  replace hw := hw y_2 ey_2
  refine lv_istore_n (pc := 6) (lv' := [(2, .int y_2), (0, .ref (q 18)), (1, .int p1)]) hx hb dX2_mostAlong_6 rfl hl (by decide) rfl (fun ls hl => ?_)
  refine lv_iload_n (pc := 7) hx hb dX2_mostAlong_7 rfl (lv_at hl 2 rfl) ?_
  refine lv_istore_n (pc := 8) (lv' := [(3, .int p1), (2, .int y_2), (0, .ref (q 18)), (1, .int p1)]) hx hb dX2_mostAlong_8 rfl hl (by decide) rfl (fun ls hl => ?_)
  refine lv_iconst (pc := 9) (v := (0 : Int32)) hx hb dX2_mostAlong_9 (by decide) ?_
  refine lv_istore (pc := 10) (lv' := [(4, .int (0 : Int32)), (3, .int p1), (2, .int y_2), (0, .ref (q 18)), (1, .int p1)]) hx hb dX2_mostAlong_10 hl (by decide) rfl (fun ls hl => ?_)
  exact hw _ _ _ hP hD hS (lv_sub hl [3, 2, 1, 0] rfl)
def P_X2_send (post : Int32 → (Nat → Int32) → (Nat → Int32) → (Nat → Int32) → Prop) (p1 : Int32) (ca_sent : Nat → Int32) (ca_spare : Nat → Int32) (ca_unmet : Nat → Int32) (ca_aheadOfSource : Nat → Int32) (ca_aheadOfEvent : Nat → Int32) : Prop :=
  ∀ (X11 : Int32 → Int32 → Int32 → (Nat → Int32) → (Nat → Int32) → (Nat → Int32) → Prop),
  (∀ (x2 : Int32) (x3 : Int32) (x4 : Int32) (ca_sent : Nat → Int32) (ca_spare : Nat → Int32) (ca_unmet : Nat → Int32), ((((17 : Int32) ≤ x4 → vp_in p1 12 ∧ ∀ ca_unmet_4 : Nat → Int32, ca_unmet_4 = upd ca_unmet p1.toNatClampNeg ((ca_unmet p1.toNatClampNeg) - x2) → post x2 ca_sent ca_spare ca_unmet_4) ∧ (¬ (17 : Int32) ≤ x4 → vp_in x3 12 ∧ ∀ y_6 : Int32, y_6 = (ca_aheadOfEvent x3.toNatClampNeg) → ((y_6 = (-9 : Int32) → vp_in p1 12 ∧ ∀ ca_unmet_20 : Nat → Int32, ca_unmet_20 = upd ca_unmet p1.toNatClampNeg ((ca_unmet p1.toNatClampNeg) - x2) → post x2 ca_sent ca_spare ca_unmet_20) ∧ (¬ y_6 = (-9 : Int32) → vp_in ((y_6 * (12 : Int32)) + x3) 204 ∧ ∀ ca_sent_9 : Nat → Int32, ca_sent_9 = upd ca_sent ((y_6 * (12 : Int32)) + x3).toNatClampNeg ((ca_sent ((y_6 * (12 : Int32)) + x3).toNatClampNeg) + x2) → vp_in y_6 17 ∧ ∀ y_11 : Int32, y_11 = (ca_aheadOfSource y_6.toNatClampNeg) → ((y_11 = (-9 : Int32) → ∀ ca_spare_16 : Nat → Int32, ca_spare_16 = upd ca_spare y_6.toNatClampNeg ((ca_spare y_6.toNatClampNeg) - x2) → vp_in p1 12 ∧ ∀ ca_unmet_18 : Nat → Int32, ca_unmet_18 = upd ca_unmet p1.toNatClampNeg ((ca_unmet p1.toNatClampNeg) - x2) → post x2 ca_sent_9 ca_spare_16 ca_unmet_18) ∧ (¬ y_11 = (-9 : Int32) → vp_in ((y_6 * (12 : Int32)) + y_11) 204 ∧ ∀ ca_sent_14 : Nat → Int32, ca_sent_14 = upd ca_sent_9 ((y_6 * (12 : Int32)) + y_11).toNatClampNeg ((ca_sent_9 ((y_6 * (12 : Int32)) + y_11).toNatClampNeg) - x2) → ∀ y_15 : Int32, y_15 = (x4 + (1 : Int32)) → X11 x2 y_11 y_15 ca_sent_14 ca_spare ca_unmet))))))) → X11 x2 x3 x4 ca_sent ca_spare ca_unmet) →
  P_X2_mostAlong (fun r_1 => X11 r_1 p1 (0 : Int32) ca_sent ca_spare ca_unmet) p1 ca_sent ca_spare ca_unmet ca_aheadOfSource ca_aheadOfEvent
abbrev rm_X2_send : Room := { frames := 2, cells := 0, slots := 0, locals := 49 }
theorem iw_X2_send_X2 : ∀ w ∈ wsX20, w ∈ wsX2_send := by decide +kernel
set_option maxHeartbeats 4000000 in
set_option maxRecDepth 100000 in
theorem c_X2_send (l : Launch) (G : va_G) (K : ClassId × ClassId × ClassId) (tb q : Nat → Nat) (sz : Nat) (ca_size : Int32) (post : Int32 → (Nat → Int32) → (Nat → Int32) → (Nat → Int32) → Prop) (p1 : Int32) (ca_sent : Nat → Int32) (ca_spare : Nat → Int32) (ca_unmet : Nat → Int32) (ca_aheadOfSource : Nat → Int32) (ca_aheadOfEvent : Nat → Int32) (hw : P_X2_send post p1 ca_sent ca_spare ca_unmet ca_aheadOfSource ca_aheadOfEvent) : Met l yX2_send wsX2_send rm_X2_send (va_Pc [.ref (q 18), .int p1] (hPre G K tb [oX2 q ca_size, aI K (q 24) 204 ca_sent, aI K (q 25) 17 ca_spare, aI K (q 26) 12 ca_unmet, aI K (q 29) 17 ca_aheadOfSource, aI K (q 30) 12 ca_aheadOfEvent] sz)) (va_Qi (fun (r : Int32) (u : (Nat → Int32) × (Nat → Int32) × (Nat → Int32)) => post r u.1 u.2.1 u.2.2) (fun u => hB G K (va_A [oX2 q ca_size, aI K (q 24) 204 ca_sent, aI K (q 25) 17 ca_spare, aI K (q 26) 12 ca_unmet, aI K (q 29) 17 ca_aheadOfSource, aI K (q 30) 12 ca_aheadOfEvent] sz) [oX2 q ca_size, aI K (q 24) 204 u.1, aI K (q 25) 17 u.2.1, aI K (q 26) 12 u.2.2, aI K (q 29) 17 ca_aheadOfSource, aI K (q 30) 12 ca_aheadOfEvent]) (va_A [oX2 q ca_size, aI K (q 24) 204 ca_sent, aI K (q 25) 17 ca_spare, aI K (q 26) 12 ca_unmet, aI K (q 29) 17 ca_aheadOfSource, aI K (q 30) 12 ca_aheadOfEvent] sz)) 0 0 (va_A [oX2 q ca_size, aI K (q 24) 204 ca_sent, aI K (q 25) 17 ca_spare, aI K (q 26) 12 ca_unmet, aI K (q 29) 17 ca_aheadOfSource, aI K (q 30) 12 ca_aheadOfEvent] sz) := by
  refine hMet (fun A => va_Qi (fun (r : Int32) (u : (Nat → Int32) × (Nat → Int32) × (Nat → Int32)) => post r u.1 u.2.1 u.2.2) (fun u => hB G K A [oX2 q ca_size, aI K (q 24) 204 u.1, aI K (q 25) 17 u.2.1, aI K (q 26) 12 u.2.2, aI K (q 29) 17 ca_aheadOfSource, aI K (q 30) 12 ca_aheadOfEvent]) A) (by decide) rfl (Nat.le_of_ble_eq_true rfl) ?_
  intro p e s m av below meth c A Q ls hx hb hr hml hts hown hlocks hnm hA hP hK hD hS hE hQ hl
  have hts : ∀ w ∈ wsX2_send, w.before av s = true := hts
  have hown : s.vm.findClass RX2 = some m.cls := hown
  have hl : lv_has ls 7 [(0, .ref (q 18)), (1, .int p1)] := hl
  unfold P_X2_send at hw
  replace hw := hw (fun (x2 : Int32) (x3 : Int32) (x4 : Int32) (ca_sent : Nat → Int32) (ca_spare : Nat → Int32) (ca_unmet : Nat → Int32) => ∀ (H : Heap) (locs : List Loc) (ls : Array Slot), va_P G vwCl [oX2 q ca_size, aI K (q 24) 204 ca_sent, aI K (q 25) 17 ca_spare, aI K (q 26) 12 ca_unmet, aI K (q 29) 17 ca_aheadOfSource, aI K (q 30) 12 ca_aheadOfEvent] H → va_D A [oX2 q ca_size, aI K (q 24) 204 ca_sent, aI K (q 25) 17 ca_spare, aI K (q 26) 12 ca_unmet, aI K (q 29) 17 ca_aheadOfSource, aI K (q 30) 12 ca_aheadOfEvent] → va_S A s.heap H locs → lv_has ls 7 [(0, .ref (q 18)), (1, .int p1), (2, .int x2), (3, .int x3), (4, .int x4)] → W p l e rm_X2_send s m av below meth c H locs 0 0 Q (F0 m 11 ls []))
  replace hw := hw (by
    intro x2 x3 x4 ca_sent ca_spare ca_unmet hw H locs ls hP hD hS hl
    refine lv_iload (pc := 11) hx hb dX2_send_11 (lv_at hl 4 rfl) ?_
    refine lv_bipush (pc := 13) (v := (17 : Int32)) hx hb dX2_send_13 (by decide) ?_
    refine lv_icmp_ge (pc := 15) (tgt := 108) hx hb dX2_send_15 (by decide) (fun c_2 => ?_) (fun c_2 => ?_)
    · replace hw := hw.1 c_2
      refine lv_aload_n (pc := 108) hx hb dX2_send_108 rfl (lv_at hl 0 rfl) ?_
      refine va_get (pc := 109) (D := G) (ci := 2) (v := .ref (q 26)) (C := RX2) (T := TX2) (N := 13) hx hb hts iw_X2_send_X2 hown hK hP 0 rfl rfl 8 (by decide) (hts _ (List.mem_of_getElem? (i := 5) rfl)) (fun _ h9 => h9) rfl dX2_send_109 ?_
      refine lv_iload_n (pc := 112) hx hb dX2_send_112 rfl (lv_at hl 1 rfl) ?_
      refine lv_dup2_11 (pc := 113) hx hb dX2_send_113 rfl rfl ?_
      obtain ⟨h_3, hw⟩ := hw
      refine va_iald (pc := 114) hx hb hK hP 3 0 rfl rfl h_3 dX2_send_114 ?_
      refine lv_iload_n (pc := 115) hx hb dX2_send_115 rfl (lv_at hl 2 rfl) ?_
      refine lv_isub (pc := 116) hx hb dX2_send_116 ?_
      refine va_iast (pc := 117) hx hb hK hP hD hS 3 0 rfl rfl h_3 dX2_send_117 (fun H locs hP hD hS => ?_)
      obtain ⟨ca_unmet_4, eca_unmet_4⟩ : ∃ z : Nat → Int32, z = upd ca_unmet p1.toNatClampNeg ((ca_unmet p1.toNatClampNeg) - x2) := ⟨_, rfl⟩
      have hP : va_P G vwCl [oX2 q ca_size, aI K (q 24) 204 ca_sent, aI K (q 25) 17 ca_spare, aI K (q 26) 12 ca_unmet_4, aI K (q 29) 17 ca_aheadOfSource, aI K (q 30) 12 ca_aheadOfEvent] H := by rw [eca_unmet_4]; exact hP
      have hD : va_D A [oX2 q ca_size, aI K (q 24) 204 ca_sent, aI K (q 25) 17 ca_spare, aI K (q 26) 12 ca_unmet_4, aI K (q 29) 17 ca_aheadOfSource, aI K (q 30) 12 ca_aheadOfEvent] := by rw [eca_unmet_4]; exact hD
      replace hw := hw ca_unmet_4 eca_unmet_4
      refine lv_iload_n (pc := 118) hx hb dX2_send_118 rfl (lv_at hl 2 rfl) ?_
      exact hRetI (S := (Nat → Int32) × (Nat → Int32) × (Nat → Int32)) (ca_sent, ca_spare, ca_unmet_4) hx hb hr hlocks hQ hw hP hK hD hS dX2_send_119
    · replace hw := hw.2 c_2
      refine lv_aload_n (pc := 18) hx hb dX2_send_18 rfl (lv_at hl 0 rfl) ?_
      refine va_get (pc := 19) (D := G) (ci := 2) (v := .ref (q 30)) (C := RX2) (T := TX2) (N := 13) hx hb hts iw_X2_send_X2 hown hK hP 0 rfl rfl 12 (by decide) (hts _ (List.mem_of_getElem? (i := 1) rfl)) (fun _ h9 => h9) rfl dX2_send_19 ?_
      refine lv_iload_n (pc := 22) hx hb dX2_send_22 rfl (lv_at hl 3 rfl) ?_
      obtain ⟨h_5, hw⟩ := hw
      refine va_iald (pc := 23) hx hb hK hP 5 0 rfl rfl h_5 dX2_send_23 ?_
      refine lv_topi (fun y_6 ey_6 => ?_)
      replace hw := hw y_6 ey_6
      refine lv_istore (pc := 24) (lv' := [(5, .int y_6), (0, .ref (q 18)), (1, .int p1), (2, .int x2), (3, .int x3), (4, .int x4)]) hx hb dX2_send_24 hl (by decide) rfl (fun ls hl => ?_)
      refine lv_iload (pc := 26) hx hb dX2_send_26 (lv_at hl 0 rfl) ?_
      refine lv_bipush (pc := 28) (v := (-9 : Int32)) hx hb dX2_send_28 (by decide) ?_
      refine lv_icmp_ne (pc := 30) (tgt := 36) hx hb dX2_send_30 (by decide) (fun c_7 => ?_) (fun c_7 => ?_)
      · replace hw := hw.2 c_7
        refine lv_aload_n (pc := 36) hx hb dX2_send_36 rfl (lv_at hl 1 rfl) ?_
        refine va_get (pc := 37) (D := G) (ci := 2) (v := .ref (q 24)) (C := RX2) (T := TX2) (N := 13) hx hb hts iw_X2_send_X2 hown hK hP 0 rfl rfl 6 (by decide) (hts _ (List.mem_of_getElem? (i := 2) rfl)) (fun _ h9 => h9) rfl dX2_send_37 ?_
        refine lv_iload (pc := 40) hx hb dX2_send_40 (lv_at hl 0 rfl) ?_
        refine lv_bipush (pc := 42) (v := (12 : Int32)) hx hb dX2_send_42 (by decide) ?_
        refine lv_imul (pc := 44) hx hb dX2_send_44 ?_
        refine lv_iload_n (pc := 45) hx hb dX2_send_45 rfl (lv_at hl 4 rfl) ?_
        refine lv_iadd (pc := 46) hx hb dX2_send_46 ?_
        refine lv_dup2_11 (pc := 47) hx hb dX2_send_47 rfl rfl ?_
        obtain ⟨h_8, hw⟩ := hw
        refine va_iald (pc := 48) hx hb hK hP 1 0 rfl rfl h_8 dX2_send_48 ?_
        refine lv_iload_n (pc := 49) hx hb dX2_send_49 rfl (lv_at hl 3 rfl) ?_
        refine lv_iadd (pc := 50) hx hb dX2_send_50 ?_
        refine va_iast (pc := 51) hx hb hK hP hD hS 1 0 rfl rfl h_8 dX2_send_51 (fun H locs hP hD hS => ?_)
        obtain ⟨ca_sent_9, eca_sent_9⟩ : ∃ z : Nat → Int32, z = upd ca_sent ((y_6 * (12 : Int32)) + x3).toNatClampNeg ((ca_sent ((y_6 * (12 : Int32)) + x3).toNatClampNeg) + x2) := ⟨_, rfl⟩
        have hP : va_P G vwCl [oX2 q ca_size, aI K (q 24) 204 ca_sent_9, aI K (q 25) 17 ca_spare, aI K (q 26) 12 ca_unmet, aI K (q 29) 17 ca_aheadOfSource, aI K (q 30) 12 ca_aheadOfEvent] H := by rw [eca_sent_9]; exact hP
        have hD : va_D A [oX2 q ca_size, aI K (q 24) 204 ca_sent_9, aI K (q 25) 17 ca_spare, aI K (q 26) 12 ca_unmet, aI K (q 29) 17 ca_aheadOfSource, aI K (q 30) 12 ca_aheadOfEvent] := by rw [eca_sent_9]; exact hD
        replace hw := hw ca_sent_9 eca_sent_9
        refine lv_aload_n (pc := 52) hx hb dX2_send_52 rfl (lv_at hl 1 rfl) ?_
        refine va_get (pc := 53) (D := G) (ci := 2) (v := .ref (q 29)) (C := RX2) (T := TX2) (N := 13) hx hb hts iw_X2_send_X2 hown hK hP 0 rfl rfl 11 (by decide) (hts _ (List.mem_of_getElem? (i := 3) rfl)) (fun _ h9 => h9) rfl dX2_send_53 ?_
        refine lv_iload (pc := 56) hx hb dX2_send_56 (lv_at hl 0 rfl) ?_
        obtain ⟨h_10, hw⟩ := hw
        refine va_iald (pc := 58) hx hb hK hP 4 0 rfl rfl h_10 dX2_send_58 ?_
        refine lv_topi (fun y_11 ey_11 => ?_)
        replace hw := hw y_11 ey_11
        refine lv_istore (pc := 59) (lv' := [(6, .int y_11), (5, .int y_6), (0, .ref (q 18)), (1, .int p1), (2, .int x2), (3, .int x3), (4, .int x4)]) hx hb dX2_send_59 hl (by decide) rfl (fun ls hl => ?_)
        refine lv_iload (pc := 61) hx hb dX2_send_61 (lv_at hl 0 rfl) ?_
        refine lv_bipush (pc := 63) (v := (-9 : Int32)) hx hb dX2_send_63 (by decide) ?_
        refine lv_icmp_ne (pc := 65) (tgt := 82) hx hb dX2_send_65 (by decide) (fun c_12 => ?_) (fun c_12 => ?_)
        · replace hw := hw.2 c_12
          refine lv_aload_n (pc := 82) hx hb dX2_send_82 rfl (lv_at hl 2 rfl) ?_
          refine va_get (pc := 83) (D := G) (ci := 2) (v := .ref (q 24)) (C := RX2) (T := TX2) (N := 13) hx hb hts iw_X2_send_X2 hown hK hP 0 rfl rfl 6 (by decide) (hts _ (List.mem_of_getElem? (i := 2) rfl)) (fun _ h9 => h9) rfl dX2_send_83 ?_
          refine lv_iload (pc := 86) hx hb dX2_send_86 (lv_at hl 1 rfl) ?_
          refine lv_bipush (pc := 88) (v := (12 : Int32)) hx hb dX2_send_88 (by decide) ?_
          refine lv_imul (pc := 90) hx hb dX2_send_90 ?_
          refine lv_iload (pc := 91) hx hb dX2_send_91 (lv_at hl 0 rfl) ?_
          refine lv_iadd (pc := 93) hx hb dX2_send_93 ?_
          refine lv_dup2_11 (pc := 94) hx hb dX2_send_94 rfl rfl ?_
          obtain ⟨h_13, hw⟩ := hw
          refine va_iald (pc := 95) hx hb hK hP 1 0 rfl rfl h_13 dX2_send_95 ?_
          refine lv_iload_n (pc := 96) hx hb dX2_send_96 rfl (lv_at hl 4 rfl) ?_
          refine lv_isub (pc := 97) hx hb dX2_send_97 ?_
          refine va_iast (pc := 98) hx hb hK hP hD hS 1 0 rfl rfl h_13 dX2_send_98 (fun H locs hP hD hS => ?_)
          obtain ⟨ca_sent_14, eca_sent_14⟩ : ∃ z : Nat → Int32, z = upd ca_sent_9 ((y_6 * (12 : Int32)) + y_11).toNatClampNeg ((ca_sent_9 ((y_6 * (12 : Int32)) + y_11).toNatClampNeg) - x2) := ⟨_, rfl⟩
          have hP : va_P G vwCl [oX2 q ca_size, aI K (q 24) 204 ca_sent_14, aI K (q 25) 17 ca_spare, aI K (q 26) 12 ca_unmet, aI K (q 29) 17 ca_aheadOfSource, aI K (q 30) 12 ca_aheadOfEvent] H := by rw [eca_sent_14]; exact hP
          have hD : va_D A [oX2 q ca_size, aI K (q 24) 204 ca_sent_14, aI K (q 25) 17 ca_spare, aI K (q 26) 12 ca_unmet, aI K (q 29) 17 ca_aheadOfSource, aI K (q 30) 12 ca_aheadOfEvent] := by rw [eca_sent_14]; exact hD
          replace hw := hw ca_sent_14 eca_sent_14
          refine lv_iload (pc := 99) hx hb dX2_send_99 (lv_at hl 0 rfl) ?_
          refine lv_istore_n (pc := 101) (lv' := [(3, .int y_11), (6, .int y_11), (5, .int y_6), (0, .ref (q 18)), (1, .int p1), (2, .int x2), (4, .int x4)]) hx hb dX2_send_101 rfl hl (by decide) rfl (fun ls hl => ?_)
          obtain ⟨y_15, ey_15⟩ : ∃ z : Int32, z = (x4 + (1 : Int32)) := ⟨_, rfl⟩
          replace hw := hw y_15 ey_15
          refine lv_iinc (pc := 102) (v := y_15) (lv' := [(4, .int y_15), (3, .int y_11), (6, .int y_11), (5, .int y_6), (0, .ref (q 18)), (1, .int p1), (2, .int x2)]) hx hb dX2_send_102 hl (k := 6) rfl (by rw [ey_15]; rfl) (by decide) rfl (fun ls hl => ?_)
          refine lv_goto (pc := 105) (tgt := 11) hx hb dX2_send_105 (by decide) ?_
          exact hw _ _ _ hP hD hS (lv_sub hl [4, 5, 6, 1, 0] rfl)
        · replace hw := hw.1 c_12
          refine lv_aload_n (pc := 68) hx hb dX2_send_68 rfl (lv_at hl 2 rfl) ?_
          refine va_get (pc := 69) (D := G) (ci := 2) (v := .ref (q 25)) (C := RX2) (T := TX2) (N := 13) hx hb hts iw_X2_send_X2 hown hK hP 0 rfl rfl 7 (by decide) (hts _ (List.mem_of_getElem? (i := 4) rfl)) (fun _ h9 => h9) rfl dX2_send_69 ?_
          refine lv_iload (pc := 72) hx hb dX2_send_72 (lv_at hl 1 rfl) ?_
          refine lv_dup2_11 (pc := 74) hx hb dX2_send_74 rfl rfl ?_
          refine va_iald (pc := 75) hx hb hK hP 2 0 rfl rfl h_10 dX2_send_75 ?_
          refine lv_iload_n (pc := 76) hx hb dX2_send_76 rfl (lv_at hl 4 rfl) ?_
          refine lv_isub (pc := 77) hx hb dX2_send_77 ?_
          refine va_iast (pc := 78) hx hb hK hP hD hS 2 0 rfl rfl h_10 dX2_send_78 (fun H locs hP hD hS => ?_)
          obtain ⟨ca_spare_16, eca_spare_16⟩ : ∃ z : Nat → Int32, z = upd ca_spare y_6.toNatClampNeg ((ca_spare y_6.toNatClampNeg) - x2) := ⟨_, rfl⟩
          have hP : va_P G vwCl [oX2 q ca_size, aI K (q 24) 204 ca_sent_9, aI K (q 25) 17 ca_spare_16, aI K (q 26) 12 ca_unmet, aI K (q 29) 17 ca_aheadOfSource, aI K (q 30) 12 ca_aheadOfEvent] H := by rw [eca_spare_16]; exact hP
          have hD : va_D A [oX2 q ca_size, aI K (q 24) 204 ca_sent_9, aI K (q 25) 17 ca_spare_16, aI K (q 26) 12 ca_unmet, aI K (q 29) 17 ca_aheadOfSource, aI K (q 30) 12 ca_aheadOfEvent] := by rw [eca_spare_16]; exact hD
          replace hw := hw ca_spare_16 eca_spare_16
          refine lv_goto (pc := 79) (tgt := 108) hx hb dX2_send_79 (by decide) ?_
          refine lv_aload_n (pc := 108) hx hb dX2_send_108 rfl (lv_at hl 2 rfl) ?_
          refine va_get (pc := 109) (D := G) (ci := 2) (v := .ref (q 26)) (C := RX2) (T := TX2) (N := 13) hx hb hts iw_X2_send_X2 hown hK hP 0 rfl rfl 8 (by decide) (hts _ (List.mem_of_getElem? (i := 5) rfl)) (fun _ h9 => h9) rfl dX2_send_109 ?_
          refine lv_iload_n (pc := 112) hx hb dX2_send_112 rfl (lv_at hl 3 rfl) ?_
          refine lv_dup2_11 (pc := 113) hx hb dX2_send_113 rfl rfl ?_
          obtain ⟨h_17, hw⟩ := hw
          refine va_iald (pc := 114) hx hb hK hP 3 0 rfl rfl h_17 dX2_send_114 ?_
          refine lv_iload_n (pc := 115) hx hb dX2_send_115 rfl (lv_at hl 4 rfl) ?_
          refine lv_isub (pc := 116) hx hb dX2_send_116 ?_
          refine va_iast (pc := 117) hx hb hK hP hD hS 3 0 rfl rfl h_17 dX2_send_117 (fun H locs hP hD hS => ?_)
          obtain ⟨ca_unmet_18, eca_unmet_18⟩ : ∃ z : Nat → Int32, z = upd ca_unmet p1.toNatClampNeg ((ca_unmet p1.toNatClampNeg) - x2) := ⟨_, rfl⟩
          have hP : va_P G vwCl [oX2 q ca_size, aI K (q 24) 204 ca_sent_9, aI K (q 25) 17 ca_spare_16, aI K (q 26) 12 ca_unmet_18, aI K (q 29) 17 ca_aheadOfSource, aI K (q 30) 12 ca_aheadOfEvent] H := by rw [eca_unmet_18]; exact hP
          have hD : va_D A [oX2 q ca_size, aI K (q 24) 204 ca_sent_9, aI K (q 25) 17 ca_spare_16, aI K (q 26) 12 ca_unmet_18, aI K (q 29) 17 ca_aheadOfSource, aI K (q 30) 12 ca_aheadOfEvent] := by rw [eca_unmet_18]; exact hD
          replace hw := hw ca_unmet_18 eca_unmet_18
          refine lv_iload_n (pc := 118) hx hb dX2_send_118 rfl (lv_at hl 4 rfl) ?_
          exact hRetI (S := (Nat → Int32) × (Nat → Int32) × (Nat → Int32)) (ca_sent_9, ca_spare_16, ca_unmet_18) hx hb hr hlocks hQ hw hP hK hD hS dX2_send_119
      · replace hw := hw.1 c_7
        refine lv_goto (pc := 33) (tgt := 108) hx hb dX2_send_33 (by decide) ?_
        refine lv_aload_n (pc := 108) hx hb dX2_send_108 rfl (lv_at hl 1 rfl) ?_
        refine va_get (pc := 109) (D := G) (ci := 2) (v := .ref (q 26)) (C := RX2) (T := TX2) (N := 13) hx hb hts iw_X2_send_X2 hown hK hP 0 rfl rfl 8 (by decide) (hts _ (List.mem_of_getElem? (i := 5) rfl)) (fun _ h9 => h9) rfl dX2_send_109 ?_
        refine lv_iload_n (pc := 112) hx hb dX2_send_112 rfl (lv_at hl 2 rfl) ?_
        refine lv_dup2_11 (pc := 113) hx hb dX2_send_113 rfl rfl ?_
        obtain ⟨h_19, hw⟩ := hw
        refine va_iald (pc := 114) hx hb hK hP 3 0 rfl rfl h_19 dX2_send_114 ?_
        refine lv_iload_n (pc := 115) hx hb dX2_send_115 rfl (lv_at hl 3 rfl) ?_
        refine lv_isub (pc := 116) hx hb dX2_send_116 ?_
        refine va_iast (pc := 117) hx hb hK hP hD hS 3 0 rfl rfl h_19 dX2_send_117 (fun H locs hP hD hS => ?_)
        obtain ⟨ca_unmet_20, eca_unmet_20⟩ : ∃ z : Nat → Int32, z = upd ca_unmet p1.toNatClampNeg ((ca_unmet p1.toNatClampNeg) - x2) := ⟨_, rfl⟩
        have hP : va_P G vwCl [oX2 q ca_size, aI K (q 24) 204 ca_sent, aI K (q 25) 17 ca_spare, aI K (q 26) 12 ca_unmet_20, aI K (q 29) 17 ca_aheadOfSource, aI K (q 30) 12 ca_aheadOfEvent] H := by rw [eca_unmet_20]; exact hP
        have hD : va_D A [oX2 q ca_size, aI K (q 24) 204 ca_sent, aI K (q 25) 17 ca_spare, aI K (q 26) 12 ca_unmet_20, aI K (q 29) 17 ca_aheadOfSource, aI K (q 30) 12 ca_aheadOfEvent] := by rw [eca_unmet_20]; exact hD
        replace hw := hw ca_unmet_20 eca_unmet_20
        refine lv_iload_n (pc := 118) hx hb dX2_send_118 rfl (lv_at hl 3 rfl) ?_
        exact hRetI (S := (Nat → Int32) × (Nat → Int32) × (Nat → Int32)) (ca_sent, ca_spare, ca_unmet_20) hx hb hr hlocks hQ hw hP hK hD hS dX2_send_119)
  refine lv_aload_n (pc := 0) hx hb dX2_send_0 rfl (lv_at hl 0 rfl) ?_
  refine lv_iload_n (pc := 1) hx hb dX2_send_1 rfl (lv_at hl 1 rfl) ?_
  refine hCallI (pc := 2) (wr := []) (wsf := fun (u : Unit) => [oX2 q ca_size, aI K (q 24) 204 ca_sent, aI K (q 25) 17 ca_spare, aI K (q 26) 12 ca_unmet, aI K (q 29) 17 ca_aheadOfSource, aI K (q 30) 12 ca_aheadOfEvent]) [0, 1, 2, 3, 4, 5] [] (va_runV (As := [.int p1]) (rest := []) ⟨hx, hb, hml, hown, hts⟩ (c_X2_mostAlong l G K tb q s.heap.size ca_size _ p1 ca_sent ca_spare ca_unmet ca_aheadOfSource ca_aheadOfEvent hw) (cwV 1 hts gX2_send_X2_mostAlong rfl rfl rfl (by decide +kernel) ⟨Nat.le_of_ble_eq_true rfl, Nat.le_of_ble_eq_true rfl⟩) (hPreV hE hP hK hD hS hA [0, 1, 2, 3, 4, 5] (by decide) rfl rfl rfl rfl (q0 := 0) (ci := 2) rfl) rfl rfl hl.1 rfl (lv_room (Nat.le_of_ble_eq_true rfl)) dX2_send_2 ⟨Nat.zero_le _, Nat.zero_le _⟩) hP hD hS hA rfl rfl (by decide) (by decide) (fun r_1 u H locs hw hP hD hS => ?_)
  have hP : va_P G vwCl [oX2 q ca_size, aI K (q 24) 204 ca_sent, aI K (q 25) 17 ca_spare, aI K (q 26) 12 ca_unmet, aI K (q 29) 17 ca_aheadOfSource, aI K (q 30) 12 ca_aheadOfEvent] H := hP.sub [0, 1, 2, 3, 4, 5] rfl
  have hD : va_D A [oX2 q ca_size, aI K (q 24) 204 ca_sent, aI K (q 25) 17 ca_spare, aI K (q 26) 12 ca_unmet, aI K (q 29) 17 ca_aheadOfSource, aI K (q 30) 12 ca_aheadOfEvent] := hD.sub [0, 1, 2, 3, 4, 5] (by decide) rfl
  refine lv_istore_n (pc := 5) (lv' := [(2, .int r_1), (0, .ref (q 18)), (1, .int p1)]) hx hb dX2_send_5 rfl hl (by decide) rfl (fun ls hl => ?_)
  refine lv_iload_n (pc := 6) hx hb dX2_send_6 rfl (lv_at hl 2 rfl) ?_
  refine lv_istore_n (pc := 7) (lv' := [(3, .int p1), (2, .int r_1), (0, .ref (q 18)), (1, .int p1)]) hx hb dX2_send_7 rfl hl (by decide) rfl (fun ls hl => ?_)
  refine lv_iconst (pc := 8) (v := (0 : Int32)) hx hb dX2_send_8 (by decide) ?_
  refine lv_istore (pc := 9) (lv' := [(4, .int (0 : Int32)), (3, .int p1), (2, .int r_1), (0, .ref (q 18)), (1, .int p1)]) hx hb dX2_send_9 hl (by decide) rfl (fun ls hl => ?_)
  exact hw _ _ _ hP hD hS (lv_sub hl [3, 4, 2, 1, 0] rfl)
def P_X2_sendAll (post : Int32 → (Nat → Int32) → (Nat → Int32) → (Nat → Int32) → (Nat → Int32) → (Nat → Int32) → (Nat → Int32) → (Nat → Int32) → Prop) (ca_size : Int32) (ca_price : Nat → Int32) (ca_sent : Nat → Int32) (ca_spare : Nat → Int32) (ca_unmet : Nat → Int32) (ca_wayToSource : Nat → Int32) (ca_wayToEvent : Nat → Int32) (ca_aheadOfSource : Nat → Int32) (ca_aheadOfEvent : Nat → Int32) : Prop :=
  ∀ (X6 : Int32 → Int32 → Int32 → (Nat → Int32) → (Nat → Int32) → (Nat → Int32) → (Nat → Int32) → (Nat → Int32) → (Nat → Int32) → (Nat → Int32) → Prop),
  (∀ (x1 : Int32) (x2 : Int32) (x3 : Int32) (ca_sent : Nat → Int32) (ca_spare : Nat → Int32) (ca_unmet : Nat → Int32) (ca_wayToSource : Nat → Int32) (ca_wayToEvent : Nat → Int32) (ca_aheadOfSource : Nat → Int32) (ca_aheadOfEvent : Nat → Int32), (((((6000 : Int32) + ca_size) < x3 → post (-9 : Int32) ca_sent ca_spare ca_unmet ca_wayToSource ca_wayToEvent ca_aheadOfSource ca_aheadOfEvent) ∧ (¬ ((6000 : Int32) + ca_size) < x3 → ((x2 < ca_size → vp_in x2 12 ∧ (((ca_unmet x2.toNatClampNeg) = (0 : Int32) → ∀ y_16 : Int32, y_16 = (x2 + (1 : Int32)) → ∀ y_17 : Int32, y_17 = (x3 + (1 : Int32)) → X6 x1 y_16 y_17 ca_sent ca_spare ca_unmet ca_wayToSource ca_wayToEvent ca_aheadOfSource ca_aheadOfEvent) ∧ (¬ (ca_unmet x2.toNatClampNeg) = (0 : Int32) → P_X2_seekWays (fun ca_wayToSource_5 ca_wayToEvent_6 ca_aheadOfSource_7 ca_aheadOfEvent_8 => (((ca_wayToEvent_6 x2.toNatClampNeg) < (1000000 : Int32) → P_X2_send (fun r_10 ca_sent_11 ca_spare_12 ca_unmet_13 => ∀ y_14 : Int32, y_14 = (x1 + ((ca_wayToEvent_6 x2.toNatClampNeg) * r_10)) → ∀ y_15 : Int32, y_15 = (x3 + (1 : Int32)) → X6 y_14 x2 y_15 ca_sent_11 ca_spare_12 ca_unmet_13 ca_wayToSource_5 ca_wayToEvent_6 ca_aheadOfSource_7 ca_aheadOfEvent_8) x2 ca_sent ca_spare ca_unmet ca_aheadOfSource_7 ca_aheadOfEvent_8) ∧ (¬ (ca_wayToEvent_6 x2.toNatClampNeg) < (1000000 : Int32) → post (-9 : Int32) ca_sent ca_spare ca_unmet ca_wayToSource_5 ca_wayToEvent_6 ca_aheadOfSource_7 ca_aheadOfEvent_8))) ca_size ca_price ca_sent ca_spare ca_wayToSource ca_wayToEvent ca_aheadOfSource ca_aheadOfEvent))) ∧ (¬ x2 < ca_size → post x1 ca_sent ca_spare ca_unmet ca_wayToSource ca_wayToEvent ca_aheadOfSource ca_aheadOfEvent))))) → X6 x1 x2 x3 ca_sent ca_spare ca_unmet ca_wayToSource ca_wayToEvent ca_aheadOfSource ca_aheadOfEvent) →
  X6 (0 : Int32) (0 : Int32) (0 : Int32) ca_sent ca_spare ca_unmet ca_wayToSource ca_wayToEvent ca_aheadOfSource ca_aheadOfEvent
abbrev rm_X2_sendAll : Room := { frames := 3, cells := 0, slots := 0, locals := 75 }
theorem iw_X2_sendAll_X2 : ∀ w ∈ wsX20, w ∈ wsX2_sendAll := by decide +kernel
set_option maxHeartbeats 4000000 in
set_option maxRecDepth 100000 in
theorem c_X2_sendAll (l : Launch) (G : va_G) (K : ClassId × ClassId × ClassId) (tb q : Nat → Nat) (sz : Nat) (post : Int32 → (Nat → Int32) → (Nat → Int32) → (Nat → Int32) → (Nat → Int32) → (Nat → Int32) → (Nat → Int32) → (Nat → Int32) → Prop) (ca_size : Int32) (ca_price : Nat → Int32) (ca_sent : Nat → Int32) (ca_spare : Nat → Int32) (ca_unmet : Nat → Int32) (ca_wayToSource : Nat → Int32) (ca_wayToEvent : Nat → Int32) (ca_aheadOfSource : Nat → Int32) (ca_aheadOfEvent : Nat → Int32) (hw : P_X2_sendAll post ca_size ca_price ca_sent ca_spare ca_unmet ca_wayToSource ca_wayToEvent ca_aheadOfSource ca_aheadOfEvent) : Met l yX2_sendAll wsX2_sendAll rm_X2_sendAll (va_Pc [.ref (q 18)] (hPre G K tb [oX2 q ca_size, aI K (q 23) 204 ca_price, aI K (q 24) 204 ca_sent, aI K (q 25) 17 ca_spare, aI K (q 26) 12 ca_unmet, aI K (q 27) 17 ca_wayToSource, aI K (q 28) 12 ca_wayToEvent, aI K (q 29) 17 ca_aheadOfSource, aI K (q 30) 12 ca_aheadOfEvent] sz)) (va_Qi (fun (r : Int32) (u : (Nat → Int32) × (Nat → Int32) × (Nat → Int32) × (Nat → Int32) × (Nat → Int32) × (Nat → Int32) × (Nat → Int32)) => post r u.1 u.2.1 u.2.2.1 u.2.2.2.1 u.2.2.2.2.1 u.2.2.2.2.2.1 u.2.2.2.2.2.2) (fun u => hB G K (va_A [oX2 q ca_size, aI K (q 23) 204 ca_price, aI K (q 24) 204 ca_sent, aI K (q 25) 17 ca_spare, aI K (q 26) 12 ca_unmet, aI K (q 27) 17 ca_wayToSource, aI K (q 28) 12 ca_wayToEvent, aI K (q 29) 17 ca_aheadOfSource, aI K (q 30) 12 ca_aheadOfEvent] sz) [oX2 q ca_size, aI K (q 23) 204 ca_price, aI K (q 24) 204 u.1, aI K (q 25) 17 u.2.1, aI K (q 26) 12 u.2.2.1, aI K (q 27) 17 u.2.2.2.1, aI K (q 28) 12 u.2.2.2.2.1, aI K (q 29) 17 u.2.2.2.2.2.1, aI K (q 30) 12 u.2.2.2.2.2.2]) (va_A [oX2 q ca_size, aI K (q 23) 204 ca_price, aI K (q 24) 204 ca_sent, aI K (q 25) 17 ca_spare, aI K (q 26) 12 ca_unmet, aI K (q 27) 17 ca_wayToSource, aI K (q 28) 12 ca_wayToEvent, aI K (q 29) 17 ca_aheadOfSource, aI K (q 30) 12 ca_aheadOfEvent] sz)) 0 0 (va_A [oX2 q ca_size, aI K (q 23) 204 ca_price, aI K (q 24) 204 ca_sent, aI K (q 25) 17 ca_spare, aI K (q 26) 12 ca_unmet, aI K (q 27) 17 ca_wayToSource, aI K (q 28) 12 ca_wayToEvent, aI K (q 29) 17 ca_aheadOfSource, aI K (q 30) 12 ca_aheadOfEvent] sz) := by
  refine hMet (fun A => va_Qi (fun (r : Int32) (u : (Nat → Int32) × (Nat → Int32) × (Nat → Int32) × (Nat → Int32) × (Nat → Int32) × (Nat → Int32) × (Nat → Int32)) => post r u.1 u.2.1 u.2.2.1 u.2.2.2.1 u.2.2.2.2.1 u.2.2.2.2.2.1 u.2.2.2.2.2.2) (fun u => hB G K A [oX2 q ca_size, aI K (q 23) 204 ca_price, aI K (q 24) 204 u.1, aI K (q 25) 17 u.2.1, aI K (q 26) 12 u.2.2.1, aI K (q 27) 17 u.2.2.2.1, aI K (q 28) 12 u.2.2.2.2.1, aI K (q 29) 17 u.2.2.2.2.2.1, aI K (q 30) 12 u.2.2.2.2.2.2]) A) (by decide) rfl (Nat.le_of_ble_eq_true rfl) ?_
  intro p e s m av below meth c A Q ls hx hb hr hml hts hown hlocks hnm hA hP hK hD hS hE hQ hl
  have hts : ∀ w ∈ wsX2_sendAll, w.before av s = true := hts
  have hown : s.vm.findClass RX2 = some m.cls := hown
  have hl : lv_has ls 4 [(0, .ref (q 18))] := hl
  unfold P_X2_sendAll at hw
  replace hw := hw (fun (x1 : Int32) (x2 : Int32) (x3 : Int32) (ca_sent : Nat → Int32) (ca_spare : Nat → Int32) (ca_unmet : Nat → Int32) (ca_wayToSource : Nat → Int32) (ca_wayToEvent : Nat → Int32) (ca_aheadOfSource : Nat → Int32) (ca_aheadOfEvent : Nat → Int32) => ∀ (H : Heap) (locs : List Loc) (ls : Array Slot), va_P G vwCl [oX2 q ca_size, aI K (q 23) 204 ca_price, aI K (q 24) 204 ca_sent, aI K (q 25) 17 ca_spare, aI K (q 26) 12 ca_unmet, aI K (q 27) 17 ca_wayToSource, aI K (q 28) 12 ca_wayToEvent, aI K (q 29) 17 ca_aheadOfSource, aI K (q 30) 12 ca_aheadOfEvent] H → va_D A [oX2 q ca_size, aI K (q 23) 204 ca_price, aI K (q 24) 204 ca_sent, aI K (q 25) 17 ca_spare, aI K (q 26) 12 ca_unmet, aI K (q 27) 17 ca_wayToSource, aI K (q 28) 12 ca_wayToEvent, aI K (q 29) 17 ca_aheadOfSource, aI K (q 30) 12 ca_aheadOfEvent] → va_S A s.heap H locs → lv_has ls 4 [(0, .ref (q 18)), (1, .int x1), (2, .int x2), (3, .int x3)] → W p l e rm_X2_sendAll s m av below meth c H locs 0 0 Q (F0 m 6 ls []))
  replace hw := hw (by
    intro x1 x2 x3 ca_sent ca_spare ca_unmet ca_wayToSource ca_wayToEvent ca_aheadOfSource ca_aheadOfEvent hw H locs ls hP hD hS hl
    refine lv_iload_n (pc := 6) hx hb dX2_sendAll_6 rfl (lv_at hl 3 rfl) ?_
    refine lv_sipush (pc := 7) (v := (6000 : Int32)) hx hb dX2_sendAll_7 (by decide) ?_
    refine lv_aload_n (pc := 10) hx hb dX2_sendAll_10 rfl (lv_at hl 0 rfl) ?_
    refine va_get (pc := 11) (D := G) (ci := 2) (v := .int ca_size) (C := RX2) (T := TX2) (N := 13) hx hb hts iw_X2_sendAll_X2 hown hK hP 0 rfl rfl 4 (by decide) (hts _ (List.mem_of_getElem? (i := 1) rfl)) (fun _ h9 => h9) rfl dX2_sendAll_11 ?_
    refine lv_iadd (pc := 14) hx hb dX2_sendAll_14 ?_
    refine lv_icmp_gt (pc := 15) (tgt := 82) hx hb dX2_sendAll_15 (by decide) (fun c_1 => ?_) (fun c_1 => ?_)
    · replace hw := hw.1 c_1
      refine lv_bipush (pc := 82) (v := (-9 : Int32)) hx hb dX2_sendAll_82 (by decide) ?_
      exact hRetI (S := (Nat → Int32) × (Nat → Int32) × (Nat → Int32) × (Nat → Int32) × (Nat → Int32) × (Nat → Int32) × (Nat → Int32)) (ca_sent, ca_spare, ca_unmet, ca_wayToSource, ca_wayToEvent, ca_aheadOfSource, ca_aheadOfEvent) hx hb hr hlocks hQ hw hP hK hD hS dX2_sendAll_84
    · replace hw := hw.2 c_1
      refine lv_iload_n (pc := 18) hx hb dX2_sendAll_18 rfl (lv_at hl 2 rfl) ?_
      refine lv_aload_n (pc := 19) hx hb dX2_sendAll_19 rfl (lv_at hl 0 rfl) ?_
      refine va_get (pc := 20) (D := G) (ci := 2) (v := .int ca_size) (C := RX2) (T := TX2) (N := 13) hx hb hts iw_X2_sendAll_X2 hown hK hP 0 rfl rfl 4 (by decide) (hts _ (List.mem_of_getElem? (i := 1) rfl)) (fun _ h9 => h9) rfl dX2_sendAll_20 ?_
      refine lv_icmp_lt (pc := 23) (tgt := 28) hx hb dX2_sendAll_23 (by decide) (fun c_2 => ?_) (fun c_2 => ?_)
      · replace hw := hw.1 c_2
        refine lv_aload_n (pc := 28) hx hb dX2_sendAll_28 rfl (lv_at hl 0 rfl) ?_
        refine va_get (pc := 29) (D := G) (ci := 2) (v := .ref (q 26)) (C := RX2) (T := TX2) (N := 13) hx hb hts iw_X2_sendAll_X2 hown hK hP 0 rfl rfl 8 (by decide) (hts _ (List.mem_of_getElem? (i := 2) rfl)) (fun _ h9 => h9) rfl dX2_sendAll_29 ?_
        refine lv_iload_n (pc := 32) hx hb dX2_sendAll_32 rfl (lv_at hl 2 rfl) ?_
        obtain ⟨h_3, hw⟩ := hw
        refine va_iald (pc := 33) hx hb hK hP 4 0 rfl rfl h_3 dX2_sendAll_33 ?_
        refine lv_if_ne (pc := 34) (tgt := 43) hx hb dX2_sendAll_34 (by decide) (fun c_4 => ?_) (fun c_4 => ?_)
        · replace hw := hw.2 c_4
          refine lv_aload_n (pc := 43) hx hb dX2_sendAll_43 rfl (lv_at hl 0 rfl) ?_
          refine hCallV (pc := 44) (wr := [aI K (q 26) 12 ca_unmet]) (wsf := fun (u : (Nat → Int32) × (Nat → Int32) × (Nat → Int32) × (Nat → Int32)) => [oX2 q ca_size, aI K (q 23) 204 ca_price, aI K (q 24) 204 ca_sent, aI K (q 25) 17 ca_spare, aI K (q 27) 17 u.1, aI K (q 28) 12 u.2.1, aI K (q 29) 17 u.2.2.1, aI K (q 30) 12 u.2.2.2]) [0, 1, 2, 3, 5, 6, 7, 8] [4] (va_runV (As := []) (rest := []) ⟨hx, hb, hml, hown, hts⟩ (c_X2_seekWays l G K tb q H.size _ ca_size ca_price ca_sent ca_spare ca_wayToSource ca_wayToEvent ca_aheadOfSource ca_aheadOfEvent hw) (cwV 0 hts gX2_sendAll_X2_seekWays rfl rfl rfl (by decide +kernel) ⟨Nat.le_of_ble_eq_true rfl, Nat.le_of_ble_eq_true rfl⟩) (hPreV hE hP hK hD hS hA [0, 1, 2, 3, 5, 6, 7, 8] (by decide) rfl rfl rfl rfl (q0 := 0) (ci := 2) rfl) rfl rfl hl.1 rfl (lv_room (Nat.le_of_ble_eq_true rfl)) dX2_sendAll_44 ⟨Nat.zero_le _, Nat.zero_le _⟩) hP hD hS hA rfl rfl (by decide) (by decide) (fun u H locs hw hP hD hS => ?_)
          obtain ⟨ca_wayToSource_5, ca_wayToEvent_6, ca_aheadOfSource_7, ca_aheadOfEvent_8⟩ := u
          have hP : va_P G vwCl [oX2 q ca_size, aI K (q 23) 204 ca_price, aI K (q 24) 204 ca_sent, aI K (q 25) 17 ca_spare, aI K (q 26) 12 ca_unmet, aI K (q 27) 17 ca_wayToSource_5, aI K (q 28) 12 ca_wayToEvent_6, aI K (q 29) 17 ca_aheadOfSource_7, aI K (q 30) 12 ca_aheadOfEvent_8] H := hP.sub [1, 2, 3, 4, 0, 5, 6, 7, 8] rfl
          have hD : va_D A [oX2 q ca_size, aI K (q 23) 204 ca_price, aI K (q 24) 204 ca_sent, aI K (q 25) 17 ca_spare, aI K (q 26) 12 ca_unmet, aI K (q 27) 17 ca_wayToSource_5, aI K (q 28) 12 ca_wayToEvent_6, aI K (q 29) 17 ca_aheadOfSource_7, aI K (q 30) 12 ca_aheadOfEvent_8] := hD.sub [1, 2, 3, 4, 0, 5, 6, 7, 8] (by decide) rfl
          refine lv_aload_n (pc := 47) hx hb dX2_sendAll_47 rfl (lv_at hl 0 rfl) ?_
          refine va_get (pc := 48) (D := G) (ci := 2) (v := .ref (q 28)) (C := RX2) (T := TX2) (N := 13) hx hb hts iw_X2_sendAll_X2 hown hK hP 0 rfl rfl 10 (by decide) (hts _ (List.mem_of_getElem? (i := 3) rfl)) (fun _ h9 => h9) rfl dX2_sendAll_48 ?_
          refine lv_iload_n (pc := 51) hx hb dX2_sendAll_51 rfl (lv_at hl 2 rfl) ?_
          refine va_iald (pc := 52) hx hb hK hP 6 0 rfl rfl h_3 dX2_sendAll_52 ?_
          refine lv_ldc (pc := 53) (v := (1000000 : Int32)) hx hb hown (hts _ (List.mem_of_getElem? (i := 4) rfl)) dX2_sendAll_53 ?_
          refine lv_icmp_lt (pc := 55) (tgt := 61) hx hb dX2_sendAll_55 (by decide) (fun c_9 => ?_) (fun c_9 => ?_)
          · replace hw := hw.1 c_9
            refine lv_iload_n (pc := 61) hx hb dX2_sendAll_61 rfl (lv_at hl 1 rfl) ?_
            refine lv_aload_n (pc := 62) hx hb dX2_sendAll_62 rfl (lv_at hl 0 rfl) ?_
            refine va_get (pc := 63) (D := G) (ci := 2) (v := .ref (q 28)) (C := RX2) (T := TX2) (N := 13) hx hb hts iw_X2_sendAll_X2 hown hK hP 0 rfl rfl 10 (by decide) (hts _ (List.mem_of_getElem? (i := 3) rfl)) (fun _ h9 => h9) rfl dX2_sendAll_63 ?_
            refine lv_iload_n (pc := 66) hx hb dX2_sendAll_66 rfl (lv_at hl 2 rfl) ?_
            refine va_iald (pc := 67) hx hb hK hP 6 0 rfl rfl h_3 dX2_sendAll_67 ?_
            refine lv_aload_n (pc := 68) hx hb dX2_sendAll_68 rfl (lv_at hl 0 rfl) ?_
            refine lv_iload_n (pc := 69) hx hb dX2_sendAll_69 rfl (lv_at hl 2 rfl) ?_
            refine hCallI (pc := 70) (wr := [aI K (q 23) 204 ca_price, aI K (q 27) 17 ca_wayToSource_5, aI K (q 28) 12 ca_wayToEvent_6]) (wsf := fun (u : (Nat → Int32) × (Nat → Int32) × (Nat → Int32)) => [oX2 q ca_size, aI K (q 24) 204 u.1, aI K (q 25) 17 u.2.1, aI K (q 26) 12 u.2.2, aI K (q 29) 17 ca_aheadOfSource_7, aI K (q 30) 12 ca_aheadOfEvent_8]) [0, 2, 3, 4, 7, 8] [1, 5, 6] (va_runV (As := [.int x2]) (rest := [.int (ca_wayToEvent_6 x2.toNatClampNeg), .int x1]) ⟨hx, hb, hml, hown, hts⟩ (c_X2_send l G K tb q H.size ca_size _ x2 ca_sent ca_spare ca_unmet ca_aheadOfSource_7 ca_aheadOfEvent_8 hw) (cwV 1 hts gX2_sendAll_X2_send rfl rfl rfl (by decide +kernel) ⟨Nat.le_of_ble_eq_true rfl, Nat.le_of_ble_eq_true rfl⟩) (hPreV hE hP hK hD hS hA [0, 2, 3, 4, 7, 8] (by decide) rfl rfl rfl rfl (q0 := 0) (ci := 2) rfl) rfl rfl hl.1 rfl (lv_room (Nat.le_of_ble_eq_true rfl)) dX2_sendAll_70 ⟨Nat.zero_le _, Nat.zero_le _⟩) hP hD hS hA rfl rfl (by decide) (by decide) (fun r_10 u H locs hw hP hD hS => ?_)
            obtain ⟨ca_sent_11, ca_spare_12, ca_unmet_13⟩ := u
            have hP : va_P G vwCl [oX2 q ca_size, aI K (q 23) 204 ca_price, aI K (q 24) 204 ca_sent_11, aI K (q 25) 17 ca_spare_12, aI K (q 26) 12 ca_unmet_13, aI K (q 27) 17 ca_wayToSource_5, aI K (q 28) 12 ca_wayToEvent_6, aI K (q 29) 17 ca_aheadOfSource_7, aI K (q 30) 12 ca_aheadOfEvent_8] H := hP.sub [3, 0, 4, 5, 6, 1, 2, 7, 8] rfl
            have hD : va_D A [oX2 q ca_size, aI K (q 23) 204 ca_price, aI K (q 24) 204 ca_sent_11, aI K (q 25) 17 ca_spare_12, aI K (q 26) 12 ca_unmet_13, aI K (q 27) 17 ca_wayToSource_5, aI K (q 28) 12 ca_wayToEvent_6, aI K (q 29) 17 ca_aheadOfSource_7, aI K (q 30) 12 ca_aheadOfEvent_8] := hD.sub [3, 0, 4, 5, 6, 1, 2, 7, 8] (by decide) rfl
            refine lv_imul (pc := 73) hx hb dX2_sendAll_73 ?_
            refine lv_iadd (pc := 74) hx hb dX2_sendAll_74 ?_
            refine lv_topi (fun y_14 ey_14 => ?_)
            replace hw := hw y_14 ey_14
            refine lv_istore_n (pc := 75) (lv' := [(1, .int y_14), (0, .ref (q 18)), (2, .int x2), (3, .int x3)]) hx hb dX2_sendAll_75 rfl hl (by decide) rfl (fun ls hl => ?_)
            obtain ⟨y_15, ey_15⟩ : ∃ z : Int32, z = (x3 + (1 : Int32)) := ⟨_, rfl⟩
            replace hw := hw y_15 ey_15
            refine lv_iinc (pc := 76) (v := y_15) (lv' := [(3, .int y_15), (1, .int y_14), (0, .ref (q 18)), (2, .int x2)]) hx hb dX2_sendAll_76 hl (k := 3) rfl (by rw [ey_15]; rfl) (by decide) rfl (fun ls hl => ?_)
            refine lv_goto (pc := 79) (tgt := 6) hx hb dX2_sendAll_79 (by decide) ?_
            exact hw _ _ _ hP hD hS (lv_sub hl [2, 1, 3, 0] rfl)
          · replace hw := hw.2 c_9
            refine lv_bipush (pc := 58) (v := (-9 : Int32)) hx hb dX2_sendAll_58 (by decide) ?_
            exact hRetI (S := (Nat → Int32) × (Nat → Int32) × (Nat → Int32) × (Nat → Int32) × (Nat → Int32) × (Nat → Int32) × (Nat → Int32)) (ca_sent, ca_spare, ca_unmet, ca_wayToSource_5, ca_wayToEvent_6, ca_aheadOfSource_7, ca_aheadOfEvent_8) hx hb hr hlocks hQ hw hP hK hD hS dX2_sendAll_60
        · replace hw := hw.1 c_4
          obtain ⟨y_16, ey_16⟩ : ∃ z : Int32, z = (x2 + (1 : Int32)) := ⟨_, rfl⟩
          replace hw := hw y_16 ey_16
          refine lv_iinc (pc := 37) (v := y_16) (lv' := [(2, .int y_16), (0, .ref (q 18)), (1, .int x1), (3, .int x3)]) hx hb dX2_sendAll_37 hl (k := 2) rfl (by rw [ey_16]; rfl) (by decide) rfl (fun ls hl => ?_)
          refine lv_goto (pc := 40) (tgt := 76) hx hb dX2_sendAll_40 (by decide) ?_
          obtain ⟨y_17, ey_17⟩ : ∃ z : Int32, z = (x3 + (1 : Int32)) := ⟨_, rfl⟩
          replace hw := hw y_17 ey_17
          refine lv_iinc (pc := 76) (v := y_17) (lv' := [(3, .int y_17), (2, .int y_16), (0, .ref (q 18)), (1, .int x1)]) hx hb dX2_sendAll_76 hl (k := 3) rfl (by rw [ey_17]; rfl) (by decide) rfl (fun ls hl => ?_)
          refine lv_goto (pc := 79) (tgt := 6) hx hb dX2_sendAll_79 (by decide) ?_
          exact hw _ _ _ hP hD hS (lv_sub hl [2, 3, 1, 0] rfl)
      · replace hw := hw.2 c_2
        refine lv_iload_n (pc := 26) hx hb dX2_sendAll_26 rfl (lv_at hl 1 rfl) ?_
        exact hRetI (S := (Nat → Int32) × (Nat → Int32) × (Nat → Int32) × (Nat → Int32) × (Nat → Int32) × (Nat → Int32) × (Nat → Int32)) (ca_sent, ca_spare, ca_unmet, ca_wayToSource, ca_wayToEvent, ca_aheadOfSource, ca_aheadOfEvent) hx hb hr hlocks hQ hw hP hK hD hS dX2_sendAll_27)
  refine lv_iconst (pc := 0) (v := (0 : Int32)) hx hb dX2_sendAll_0 (by decide) ?_
  refine lv_istore_n (pc := 1) (lv' := [(1, .int (0 : Int32)), (0, .ref (q 18))]) hx hb dX2_sendAll_1 rfl hl (by decide) rfl (fun ls hl => ?_)
  refine lv_iconst (pc := 2) (v := (0 : Int32)) hx hb dX2_sendAll_2 (by decide) ?_
  refine lv_istore_n (pc := 3) (lv' := [(2, .int (0 : Int32)), (1, .int (0 : Int32)), (0, .ref (q 18))]) hx hb dX2_sendAll_3 rfl hl (by decide) rfl (fun ls hl => ?_)
  refine lv_iconst (pc := 4) (v := (0 : Int32)) hx hb dX2_sendAll_4 (by decide) ?_
  refine lv_istore_n (pc := 5) (lv' := [(3, .int (0 : Int32)), (2, .int (0 : Int32)), (1, .int (0 : Int32)), (0, .ref (q 18))]) hx hb dX2_sendAll_5 rfl hl (by decide) rfl (fun ls hl => ?_)
  exact hw _ _ _ hP hD hS (lv_sub hl [3, 2, 1, 0] rfl)
def P_X2_leastFor (post : Int32 → (Nat → Int32) → (Nat → Int32) → (Nat → Int32) → Int32 → (Nat → Int32) → (Nat → Int32) → (Nat → Int32) → (Nat → Int32) → (Nat → Int32) → (Nat → Int32) → (Nat → Int32) → (Nat → Int32) → Prop) (p3 : Int32) (p4 : Int32) (st_booked : Nat → Int32) (ev_day : Nat → Int32) (ev_house : Nat → Int32) (ev_kind : Nat → Int32) (ev_need : Nat → Int32) (ev_on : Nat → Int32) (ev_size : Int32) (ca_far : Nat → Int32) (ca_farInGoes : Nat → Int32) (ca_served : Nat → Int32) (ca_rank : Nat → Int32) (ca_size : Int32) (ca_price : Nat → Int32) (ca_sent : Nat → Int32) (ca_spare : Nat → Int32) (ca_unmet : Nat → Int32) (ca_wayToSource : Nat → Int32) (ca_wayToEvent : Nat → Int32) (ca_aheadOfSource : Nat → Int32) (ca_aheadOfEvent : Nat → Int32) : Prop :=
  P_X2_gather (fun ca_served_1 ca_rank_2 ca_size_3 => P_X8_bookedOf (fun r_4 => P_X2_shortDay (fun r_5 => ((r_5 = (-9 : Int32) → P_X2_layWays (fun ca_farInGoes_7 => P_X2_setOut (fun ca_price_8 ca_sent_9 ca_spare_10 ca_unmet_11 => P_X2_sendAll (fun r_12 ca_sent_13 ca_spare_14 ca_unmet_15 ca_wayToSource_16 ca_wayToEvent_17 ca_aheadOfSource_18 ca_aheadOfEvent_19 => post r_12 ca_farInGoes_7 ca_served_1 ca_rank_2 ca_size_3 ca_price_8 ca_sent_13 ca_spare_14 ca_unmet_15 ca_wayToSource_16 ca_wayToEvent_17 ca_aheadOfSource_18 ca_aheadOfEvent_19) ca_size_3 ca_price_8 ca_sent_9 ca_spare_10 ca_unmet_11 ca_wayToSource ca_wayToEvent ca_aheadOfSource ca_aheadOfEvent) p3 st_booked ev_house ev_need ca_farInGoes_7 ca_served_1 ca_rank_2 ca_size_3 ca_price ca_sent ca_spare ca_unmet) ca_far ca_farInGoes) ∧ (¬ r_5 = (-9 : Int32) → post (-9 : Int32) ca_farInGoes ca_served_1 ca_rank_2 ca_size_3 ca_price ca_sent ca_spare ca_unmet ca_wayToSource ca_wayToEvent ca_aheadOfSource ca_aheadOfEvent))) r_4 ev_day ev_need ca_served_1 ca_rank_2 ca_size_3) p3 st_booked) p3 p4 ev_day ev_kind ev_on ev_size ca_served ca_rank ca_size
abbrev rm_X2_leastFor : Room := { frames := 4, cells := 0, slots := 0, locals := 98 }
set_option maxHeartbeats 4000000 in
set_option maxRecDepth 100000 in
theorem c_X2_leastFor (l : Launch) (G : va_G) (K : ClassId × ClassId × ClassId) (tb q : Nat → Nat) (sz : Nat) (post : Int32 → (Nat → Int32) → (Nat → Int32) → (Nat → Int32) → Int32 → (Nat → Int32) → (Nat → Int32) → (Nat → Int32) → (Nat → Int32) → (Nat → Int32) → (Nat → Int32) → (Nat → Int32) → (Nat → Int32) → Prop) (p3 : Int32) (p4 : Int32) (st_booked : Nat → Int32) (ev_day : Nat → Int32) (ev_house : Nat → Int32) (ev_kind : Nat → Int32) (ev_need : Nat → Int32) (ev_on : Nat → Int32) (ev_size : Int32) (ca_far : Nat → Int32) (ca_farInGoes : Nat → Int32) (ca_served : Nat → Int32) (ca_rank : Nat → Int32) (ca_size : Int32) (ca_price : Nat → Int32) (ca_sent : Nat → Int32) (ca_spare : Nat → Int32) (ca_unmet : Nat → Int32) (ca_wayToSource : Nat → Int32) (ca_wayToEvent : Nat → Int32) (ca_aheadOfSource : Nat → Int32) (ca_aheadOfEvent : Nat → Int32) (hw : P_X2_leastFor post p3 p4 st_booked ev_day ev_house ev_kind ev_need ev_on ev_size ca_far ca_farInGoes ca_served ca_rank ca_size ca_price ca_sent ca_spare ca_unmet ca_wayToSource ca_wayToEvent ca_aheadOfSource ca_aheadOfEvent) : Met l yX2_leastFor wsX2_leastFor rm_X2_leastFor (va_Pc [.ref (q 18), .ref (q 12), .ref (q 4), .int p3, .int p4] (hPre G K tb [oX8 q, aI K (q 5) 30 st_booked, oX3 q ev_size, aI K (q 13) 12 ev_day, aI K (q 14) 12 ev_house, aI K (q 15) 12 ev_kind, aI K (q 16) 12 ev_need, aZ K (q 17) 12 ev_on, oX2 q ca_size, aI K (q 19) 25 ca_far, aI K (q 20) 100 ca_farInGoes, aI K (q 21) 12 ca_served, aI K (q 22) 12 ca_rank, aI K (q 23) 204 ca_price, aI K (q 24) 204 ca_sent, aI K (q 25) 17 ca_spare, aI K (q 26) 12 ca_unmet, aI K (q 27) 17 ca_wayToSource, aI K (q 28) 12 ca_wayToEvent, aI K (q 29) 17 ca_aheadOfSource, aI K (q 30) 12 ca_aheadOfEvent] sz)) (va_Qi (fun (r : Int32) (u : (Nat → Int32) × (Nat → Int32) × (Nat → Int32) × Int32 × (Nat → Int32) × (Nat → Int32) × (Nat → Int32) × (Nat → Int32) × (Nat → Int32) × (Nat → Int32) × (Nat → Int32) × (Nat → Int32)) => post r u.1 u.2.1 u.2.2.1 u.2.2.2.1 u.2.2.2.2.1 u.2.2.2.2.2.1 u.2.2.2.2.2.2.1 u.2.2.2.2.2.2.2.1 u.2.2.2.2.2.2.2.2.1 u.2.2.2.2.2.2.2.2.2.1 u.2.2.2.2.2.2.2.2.2.2.1 u.2.2.2.2.2.2.2.2.2.2.2) (fun u => hB G K (va_A [oX8 q, aI K (q 5) 30 st_booked, oX3 q ev_size, aI K (q 13) 12 ev_day, aI K (q 14) 12 ev_house, aI K (q 15) 12 ev_kind, aI K (q 16) 12 ev_need, aZ K (q 17) 12 ev_on, oX2 q ca_size, aI K (q 19) 25 ca_far, aI K (q 20) 100 ca_farInGoes, aI K (q 21) 12 ca_served, aI K (q 22) 12 ca_rank, aI K (q 23) 204 ca_price, aI K (q 24) 204 ca_sent, aI K (q 25) 17 ca_spare, aI K (q 26) 12 ca_unmet, aI K (q 27) 17 ca_wayToSource, aI K (q 28) 12 ca_wayToEvent, aI K (q 29) 17 ca_aheadOfSource, aI K (q 30) 12 ca_aheadOfEvent] sz) [oX8 q, aI K (q 5) 30 st_booked, oX3 q ev_size, aI K (q 13) 12 ev_day, aI K (q 14) 12 ev_house, aI K (q 15) 12 ev_kind, aI K (q 16) 12 ev_need, aZ K (q 17) 12 ev_on, oX2 q u.2.2.2.1, aI K (q 19) 25 ca_far, aI K (q 20) 100 u.1, aI K (q 21) 12 u.2.1, aI K (q 22) 12 u.2.2.1, aI K (q 23) 204 u.2.2.2.2.1, aI K (q 24) 204 u.2.2.2.2.2.1, aI K (q 25) 17 u.2.2.2.2.2.2.1, aI K (q 26) 12 u.2.2.2.2.2.2.2.1, aI K (q 27) 17 u.2.2.2.2.2.2.2.2.1, aI K (q 28) 12 u.2.2.2.2.2.2.2.2.2.1, aI K (q 29) 17 u.2.2.2.2.2.2.2.2.2.2.1, aI K (q 30) 12 u.2.2.2.2.2.2.2.2.2.2.2]) (va_A [oX8 q, aI K (q 5) 30 st_booked, oX3 q ev_size, aI K (q 13) 12 ev_day, aI K (q 14) 12 ev_house, aI K (q 15) 12 ev_kind, aI K (q 16) 12 ev_need, aZ K (q 17) 12 ev_on, oX2 q ca_size, aI K (q 19) 25 ca_far, aI K (q 20) 100 ca_farInGoes, aI K (q 21) 12 ca_served, aI K (q 22) 12 ca_rank, aI K (q 23) 204 ca_price, aI K (q 24) 204 ca_sent, aI K (q 25) 17 ca_spare, aI K (q 26) 12 ca_unmet, aI K (q 27) 17 ca_wayToSource, aI K (q 28) 12 ca_wayToEvent, aI K (q 29) 17 ca_aheadOfSource, aI K (q 30) 12 ca_aheadOfEvent] sz)) 0 0 (va_A [oX8 q, aI K (q 5) 30 st_booked, oX3 q ev_size, aI K (q 13) 12 ev_day, aI K (q 14) 12 ev_house, aI K (q 15) 12 ev_kind, aI K (q 16) 12 ev_need, aZ K (q 17) 12 ev_on, oX2 q ca_size, aI K (q 19) 25 ca_far, aI K (q 20) 100 ca_farInGoes, aI K (q 21) 12 ca_served, aI K (q 22) 12 ca_rank, aI K (q 23) 204 ca_price, aI K (q 24) 204 ca_sent, aI K (q 25) 17 ca_spare, aI K (q 26) 12 ca_unmet, aI K (q 27) 17 ca_wayToSource, aI K (q 28) 12 ca_wayToEvent, aI K (q 29) 17 ca_aheadOfSource, aI K (q 30) 12 ca_aheadOfEvent] sz) := by
  refine hMet (fun A => va_Qi (fun (r : Int32) (u : (Nat → Int32) × (Nat → Int32) × (Nat → Int32) × Int32 × (Nat → Int32) × (Nat → Int32) × (Nat → Int32) × (Nat → Int32) × (Nat → Int32) × (Nat → Int32) × (Nat → Int32) × (Nat → Int32)) => post r u.1 u.2.1 u.2.2.1 u.2.2.2.1 u.2.2.2.2.1 u.2.2.2.2.2.1 u.2.2.2.2.2.2.1 u.2.2.2.2.2.2.2.1 u.2.2.2.2.2.2.2.2.1 u.2.2.2.2.2.2.2.2.2.1 u.2.2.2.2.2.2.2.2.2.2.1 u.2.2.2.2.2.2.2.2.2.2.2) (fun u => hB G K A [oX8 q, aI K (q 5) 30 st_booked, oX3 q ev_size, aI K (q 13) 12 ev_day, aI K (q 14) 12 ev_house, aI K (q 15) 12 ev_kind, aI K (q 16) 12 ev_need, aZ K (q 17) 12 ev_on, oX2 q u.2.2.2.1, aI K (q 19) 25 ca_far, aI K (q 20) 100 u.1, aI K (q 21) 12 u.2.1, aI K (q 22) 12 u.2.2.1, aI K (q 23) 204 u.2.2.2.2.1, aI K (q 24) 204 u.2.2.2.2.2.1, aI K (q 25) 17 u.2.2.2.2.2.2.1, aI K (q 26) 12 u.2.2.2.2.2.2.2.1, aI K (q 27) 17 u.2.2.2.2.2.2.2.2.1, aI K (q 28) 12 u.2.2.2.2.2.2.2.2.2.1, aI K (q 29) 17 u.2.2.2.2.2.2.2.2.2.2.1, aI K (q 30) 12 u.2.2.2.2.2.2.2.2.2.2.2]) A) (by decide) rfl (Nat.le_of_ble_eq_true rfl) ?_
  intro p e s m av below meth c A Q ls hx hb hr hml hts hown hlocks hnm hA hP hK hD hS hE hQ hl
  have hts : ∀ w ∈ wsX2_leastFor, w.before av s = true := hts
  have hown : s.vm.findClass RX2 = some m.cls := hown
  have hl : lv_has ls 5 [(0, .ref (q 18)), (1, .ref (q 12)), (2, .ref (q 4)), (3, .int p3), (4, .int p4)] := hl
  unfold P_X2_leastFor at hw
  refine lv_aload_n (pc := 0) hx hb dX2_leastFor_0 rfl (lv_at hl 0 rfl) ?_
  refine lv_aload_n (pc := 1) hx hb dX2_leastFor_1 rfl (lv_at hl 1 rfl) ?_
  refine lv_iload_n (pc := 2) hx hb dX2_leastFor_2 rfl (lv_at hl 3 rfl) ?_
  refine lv_iload (pc := 3) hx hb dX2_leastFor_3 (lv_at hl 4 rfl) ?_
  refine hCallV (pc := 5) (wr := [oX8 q, aI K (q 5) 30 st_booked, aI K (q 14) 12 ev_house, aI K (q 16) 12 ev_need, aI K (q 19) 25 ca_far, aI K (q 20) 100 ca_farInGoes, aI K (q 23) 204 ca_price, aI K (q 24) 204 ca_sent, aI K (q 25) 17 ca_spare, aI K (q 26) 12 ca_unmet, aI K (q 27) 17 ca_wayToSource, aI K (q 28) 12 ca_wayToEvent, aI K (q 29) 17 ca_aheadOfSource, aI K (q 30) 12 ca_aheadOfEvent]) (wsf := fun (u : (Nat → Int32) × (Nat → Int32) × Int32) => [oX3 q ev_size, aI K (q 13) 12 ev_day, aI K (q 15) 12 ev_kind, aZ K (q 17) 12 ev_on, oX2 q u.2.2, aI K (q 21) 12 u.1, aI K (q 22) 12 u.2.1]) [2, 3, 5, 7, 8, 11, 12] [0, 1, 4, 6, 9, 10, 13, 14, 15, 16, 17, 18, 19, 20] (va_runV (As := [.ref (q 12), .int p3, .int p4]) (rest := []) ⟨hx, hb, hml, hown, hts⟩ (c_X2_gather l G K tb q s.heap.size _ p3 p4 ev_day ev_kind ev_on ev_size ca_served ca_rank ca_size hw) (cwV 3 hts gX2_leastFor_X2_gather rfl rfl rfl (by decide +kernel) ⟨Nat.le_of_ble_eq_true rfl, Nat.le_of_ble_eq_true rfl⟩) (hPreV hE hP hK hD hS hA [2, 3, 5, 7, 8, 11, 12] (by decide) rfl rfl rfl rfl (q0 := 8) (ci := 2) rfl) rfl rfl hl.1 rfl (lv_room (Nat.le_of_ble_eq_true rfl)) dX2_leastFor_5 ⟨Nat.zero_le _, Nat.zero_le _⟩) hP hD hS hA rfl rfl (by decide) (by decide) (fun u H locs hw hP hD hS => ?_)
  obtain ⟨ca_served_1, ca_rank_2, ca_size_3⟩ := u
  have hP : va_P G vwCl [oX8 q, aI K (q 5) 30 st_booked, oX3 q ev_size, aI K (q 13) 12 ev_day, aI K (q 14) 12 ev_house, aI K (q 15) 12 ev_kind, aI K (q 16) 12 ev_need, aZ K (q 17) 12 ev_on, oX2 q ca_size_3, aI K (q 19) 25 ca_far, aI K (q 20) 100 ca_farInGoes, aI K (q 21) 12 ca_served_1, aI K (q 22) 12 ca_rank_2, aI K (q 23) 204 ca_price, aI K (q 24) 204 ca_sent, aI K (q 25) 17 ca_spare, aI K (q 26) 12 ca_unmet, aI K (q 27) 17 ca_wayToSource, aI K (q 28) 12 ca_wayToEvent, aI K (q 29) 17 ca_aheadOfSource, aI K (q 30) 12 ca_aheadOfEvent] H := hP.sub [0, 1, 14, 15, 2, 16, 3, 17, 18, 4, 5, 19, 20, 6, 7, 8, 9, 10, 11, 12, 13] rfl
  have hD : va_D A [oX8 q, aI K (q 5) 30 st_booked, oX3 q ev_size, aI K (q 13) 12 ev_day, aI K (q 14) 12 ev_house, aI K (q 15) 12 ev_kind, aI K (q 16) 12 ev_need, aZ K (q 17) 12 ev_on, oX2 q ca_size_3, aI K (q 19) 25 ca_far, aI K (q 20) 100 ca_farInGoes, aI K (q 21) 12 ca_served_1, aI K (q 22) 12 ca_rank_2, aI K (q 23) 204 ca_price, aI K (q 24) 204 ca_sent, aI K (q 25) 17 ca_spare, aI K (q 26) 12 ca_unmet, aI K (q 27) 17 ca_wayToSource, aI K (q 28) 12 ca_wayToEvent, aI K (q 29) 17 ca_aheadOfSource, aI K (q 30) 12 ca_aheadOfEvent] := hD.sub [0, 1, 14, 15, 2, 16, 3, 17, 18, 4, 5, 19, 20, 6, 7, 8, 9, 10, 11, 12, 13] (by decide) rfl
  refine lv_aload_n (pc := 8) hx hb dX2_leastFor_8 rfl (lv_at hl 0 rfl) ?_
  refine lv_aload_n (pc := 9) hx hb dX2_leastFor_9 rfl (lv_at hl 1 rfl) ?_
  refine lv_aload_n (pc := 10) hx hb dX2_leastFor_10 rfl (lv_at hl 2 rfl) ?_
  refine lv_iload_n (pc := 11) hx hb dX2_leastFor_11 rfl (lv_at hl 3 rfl) ?_
  refine hCallI (pc := 12) (wr := [oX3 q ev_size, aI K (q 13) 12 ev_day, aI K (q 14) 12 ev_house, aI K (q 15) 12 ev_kind, aI K (q 16) 12 ev_need, aZ K (q 17) 12 ev_on, oX2 q ca_size_3, aI K (q 19) 25 ca_far, aI K (q 20) 100 ca_farInGoes, aI K (q 21) 12 ca_served_1, aI K (q 22) 12 ca_rank_2, aI K (q 23) 204 ca_price, aI K (q 24) 204 ca_sent, aI K (q 25) 17 ca_spare, aI K (q 26) 12 ca_unmet, aI K (q 27) 17 ca_wayToSource, aI K (q 28) 12 ca_wayToEvent, aI K (q 29) 17 ca_aheadOfSource, aI K (q 30) 12 ca_aheadOfEvent]) (wsf := fun (u : Unit) => [oX8 q, aI K (q 5) 30 st_booked]) [0, 1] [2, 3, 4, 5, 6, 7, 8, 9, 10, 11, 12, 13, 14, 15, 16, 17, 18, 19, 20] (va_runVN (As := [.int p3]) (rest := [.ref (q 12), .ref (q 18)]) ⟨hx, hb, hml, hown, hts⟩ (c_X8_bookedOf l G K tb q H.size _ p3 st_booked hw) ⟨va_cnB 1 hts gX2_leastFor_X8_bookedOf_n58 rfl rfl rfl (hE.nw 48 rfl) (hts _ (List.mem_of_getElem? (i := 14) rfl)) (by decide +kernel) ⟨Nat.le_of_ble_eq_true rfl, Nat.le_of_ble_eq_true rfl⟩, (hts _ (List.mem_of_getElem? (i := 13) rfl)), (hts _ (List.mem_of_getElem? (i := 15) rfl))⟩ (hPreV hE hP hK hD hS hA [0, 1] (by decide) rfl rfl rfl rfl (q0 := 0) (ci := 8) rfl) rfl rfl hl.1 rfl (lv_room (Nat.le_of_ble_eq_true rfl)) dX2_leastFor_12 ⟨Nat.zero_le _, Nat.zero_le _⟩) hP hD hS hA rfl rfl (by decide) (by decide) (fun r_4 u H locs hw hP hD hS => ?_)
  have hP : va_P G vwCl [oX8 q, aI K (q 5) 30 st_booked, oX3 q ev_size, aI K (q 13) 12 ev_day, aI K (q 14) 12 ev_house, aI K (q 15) 12 ev_kind, aI K (q 16) 12 ev_need, aZ K (q 17) 12 ev_on, oX2 q ca_size_3, aI K (q 19) 25 ca_far, aI K (q 20) 100 ca_farInGoes, aI K (q 21) 12 ca_served_1, aI K (q 22) 12 ca_rank_2, aI K (q 23) 204 ca_price, aI K (q 24) 204 ca_sent, aI K (q 25) 17 ca_spare, aI K (q 26) 12 ca_unmet, aI K (q 27) 17 ca_wayToSource, aI K (q 28) 12 ca_wayToEvent, aI K (q 29) 17 ca_aheadOfSource, aI K (q 30) 12 ca_aheadOfEvent] H := hP.sub [19, 20, 0, 1, 2, 3, 4, 5, 6, 7, 8, 9, 10, 11, 12, 13, 14, 15, 16, 17, 18] rfl
  have hD : va_D A [oX8 q, aI K (q 5) 30 st_booked, oX3 q ev_size, aI K (q 13) 12 ev_day, aI K (q 14) 12 ev_house, aI K (q 15) 12 ev_kind, aI K (q 16) 12 ev_need, aZ K (q 17) 12 ev_on, oX2 q ca_size_3, aI K (q 19) 25 ca_far, aI K (q 20) 100 ca_farInGoes, aI K (q 21) 12 ca_served_1, aI K (q 22) 12 ca_rank_2, aI K (q 23) 204 ca_price, aI K (q 24) 204 ca_sent, aI K (q 25) 17 ca_spare, aI K (q 26) 12 ca_unmet, aI K (q 27) 17 ca_wayToSource, aI K (q 28) 12 ca_wayToEvent, aI K (q 29) 17 ca_aheadOfSource, aI K (q 30) 12 ca_aheadOfEvent] := hD.sub [19, 20, 0, 1, 2, 3, 4, 5, 6, 7, 8, 9, 10, 11, 12, 13, 14, 15, 16, 17, 18] (by decide) rfl
  refine hCallI (pc := 15) (wr := [oX8 q, aI K (q 5) 30 st_booked, aI K (q 14) 12 ev_house, aI K (q 15) 12 ev_kind, aZ K (q 17) 12 ev_on, aI K (q 19) 25 ca_far, aI K (q 20) 100 ca_farInGoes, aI K (q 23) 204 ca_price, aI K (q 24) 204 ca_sent, aI K (q 25) 17 ca_spare, aI K (q 26) 12 ca_unmet, aI K (q 27) 17 ca_wayToSource, aI K (q 28) 12 ca_wayToEvent, aI K (q 29) 17 ca_aheadOfSource, aI K (q 30) 12 ca_aheadOfEvent]) (wsf := fun (u : Unit) => [oX3 q ev_size, aI K (q 13) 12 ev_day, aI K (q 16) 12 ev_need, oX2 q ca_size_3, aI K (q 21) 12 ca_served_1, aI K (q 22) 12 ca_rank_2]) [2, 3, 6, 8, 11, 12] [0, 1, 4, 5, 7, 9, 10, 13, 14, 15, 16, 17, 18, 19, 20] (va_runV (As := [.ref (q 12), .int r_4]) (rest := []) ⟨hx, hb, hml, hown, hts⟩ (c_X2_shortDay l G K tb q H.size ev_size _ r_4 ev_day ev_need ca_served_1 ca_rank_2 ca_size_3 hw) (cwV 2 hts gX2_leastFor_X2_shortDay rfl rfl rfl (by decide +kernel) ⟨Nat.le_of_ble_eq_true rfl, Nat.le_of_ble_eq_true rfl⟩) (hPreV hE hP hK hD hS hA [2, 3, 6, 8, 11, 12] (by decide) rfl rfl rfl rfl (q0 := 8) (ci := 2) rfl) rfl rfl hl.1 rfl (lv_room (Nat.le_of_ble_eq_true rfl)) dX2_leastFor_15 ⟨Nat.zero_le _, Nat.zero_le _⟩) hP hD hS hA rfl rfl (by decide) (by decide) (fun r_5 u H locs hw hP hD hS => ?_)
  have hP : va_P G vwCl [oX8 q, aI K (q 5) 30 st_booked, oX3 q ev_size, aI K (q 13) 12 ev_day, aI K (q 14) 12 ev_house, aI K (q 15) 12 ev_kind, aI K (q 16) 12 ev_need, aZ K (q 17) 12 ev_on, oX2 q ca_size_3, aI K (q 19) 25 ca_far, aI K (q 20) 100 ca_farInGoes, aI K (q 21) 12 ca_served_1, aI K (q 22) 12 ca_rank_2, aI K (q 23) 204 ca_price, aI K (q 24) 204 ca_sent, aI K (q 25) 17 ca_spare, aI K (q 26) 12 ca_unmet, aI K (q 27) 17 ca_wayToSource, aI K (q 28) 12 ca_wayToEvent, aI K (q 29) 17 ca_aheadOfSource, aI K (q 30) 12 ca_aheadOfEvent] H := hP.sub [0, 1, 15, 16, 2, 3, 17, 4, 18, 5, 6, 19, 20, 7, 8, 9, 10, 11, 12, 13, 14] rfl
  have hD : va_D A [oX8 q, aI K (q 5) 30 st_booked, oX3 q ev_size, aI K (q 13) 12 ev_day, aI K (q 14) 12 ev_house, aI K (q 15) 12 ev_kind, aI K (q 16) 12 ev_need, aZ K (q 17) 12 ev_on, oX2 q ca_size_3, aI K (q 19) 25 ca_far, aI K (q 20) 100 ca_farInGoes, aI K (q 21) 12 ca_served_1, aI K (q 22) 12 ca_rank_2, aI K (q 23) 204 ca_price, aI K (q 24) 204 ca_sent, aI K (q 25) 17 ca_spare, aI K (q 26) 12 ca_unmet, aI K (q 27) 17 ca_wayToSource, aI K (q 28) 12 ca_wayToEvent, aI K (q 29) 17 ca_aheadOfSource, aI K (q 30) 12 ca_aheadOfEvent] := hD.sub [0, 1, 15, 16, 2, 3, 17, 4, 18, 5, 6, 19, 20, 7, 8, 9, 10, 11, 12, 13, 14] (by decide) rfl
  refine lv_bipush (pc := 18) (v := (-9 : Int32)) hx hb dX2_leastFor_18 (by decide) ?_
  refine lv_icmp_eq (pc := 20) (tgt := 26) hx hb dX2_leastFor_20 (by decide) (fun c_6 => ?_) (fun c_6 => ?_)
  · replace hw := hw.1 c_6
    refine lv_aload_n (pc := 26) hx hb dX2_leastFor_26 rfl (lv_at hl 0 rfl) ?_
    refine hCallV (pc := 27) (wr := [oX8 q, aI K (q 5) 30 st_booked, oX3 q ev_size, aI K (q 13) 12 ev_day, aI K (q 14) 12 ev_house, aI K (q 15) 12 ev_kind, aI K (q 16) 12 ev_need, aZ K (q 17) 12 ev_on, aI K (q 21) 12 ca_served_1, aI K (q 22) 12 ca_rank_2, aI K (q 23) 204 ca_price, aI K (q 24) 204 ca_sent, aI K (q 25) 17 ca_spare, aI K (q 26) 12 ca_unmet, aI K (q 27) 17 ca_wayToSource, aI K (q 28) 12 ca_wayToEvent, aI K (q 29) 17 ca_aheadOfSource, aI K (q 30) 12 ca_aheadOfEvent]) (wsf := fun (u : (Nat → Int32)) => [oX2 q ca_size_3, aI K (q 19) 25 ca_far, aI K (q 20) 100 u]) [8, 9, 10] [0, 1, 2, 3, 4, 5, 6, 7, 11, 12, 13, 14, 15, 16, 17, 18, 19, 20] (va_runV (As := []) (rest := []) ⟨hx, hb, hml, hown, hts⟩ (c_X2_layWays l G K tb q H.size ca_size_3 _ ca_far ca_farInGoes hw) (cwV 0 hts gX2_leastFor_X2_layWays rfl rfl rfl (by decide +kernel) ⟨Nat.le_of_ble_eq_true rfl, Nat.le_of_ble_eq_true rfl⟩) (hPreV hE hP hK hD hS hA [8, 9, 10] (by decide) rfl rfl rfl rfl (q0 := 8) (ci := 2) rfl) rfl rfl hl.1 rfl (lv_room (Nat.le_of_ble_eq_true rfl)) dX2_leastFor_27 ⟨Nat.zero_le _, Nat.zero_le _⟩) hP hD hS hA rfl rfl (by decide) (by decide) (fun u H locs hw hP hD hS => ?_)
    obtain ⟨ca_farInGoes_7, rfl⟩ : ∃ z, z = u := ⟨_, rfl⟩
    have hP : va_P G vwCl [oX8 q, aI K (q 5) 30 st_booked, oX3 q ev_size, aI K (q 13) 12 ev_day, aI K (q 14) 12 ev_house, aI K (q 15) 12 ev_kind, aI K (q 16) 12 ev_need, aZ K (q 17) 12 ev_on, oX2 q ca_size_3, aI K (q 19) 25 ca_far, aI K (q 20) 100 ca_farInGoes_7, aI K (q 21) 12 ca_served_1, aI K (q 22) 12 ca_rank_2, aI K (q 23) 204 ca_price, aI K (q 24) 204 ca_sent, aI K (q 25) 17 ca_spare, aI K (q 26) 12 ca_unmet, aI K (q 27) 17 ca_wayToSource, aI K (q 28) 12 ca_wayToEvent, aI K (q 29) 17 ca_aheadOfSource, aI K (q 30) 12 ca_aheadOfEvent] H := hP.sub [0, 1, 2, 3, 4, 5, 6, 7, 18, 19, 20, 8, 9, 10, 11, 12, 13, 14, 15, 16, 17] rfl
    have hD : va_D A [oX8 q, aI K (q 5) 30 st_booked, oX3 q ev_size, aI K (q 13) 12 ev_day, aI K (q 14) 12 ev_house, aI K (q 15) 12 ev_kind, aI K (q 16) 12 ev_need, aZ K (q 17) 12 ev_on, oX2 q ca_size_3, aI K (q 19) 25 ca_far, aI K (q 20) 100 ca_farInGoes_7, aI K (q 21) 12 ca_served_1, aI K (q 22) 12 ca_rank_2, aI K (q 23) 204 ca_price, aI K (q 24) 204 ca_sent, aI K (q 25) 17 ca_spare, aI K (q 26) 12 ca_unmet, aI K (q 27) 17 ca_wayToSource, aI K (q 28) 12 ca_wayToEvent, aI K (q 29) 17 ca_aheadOfSource, aI K (q 30) 12 ca_aheadOfEvent] := hD.sub [0, 1, 2, 3, 4, 5, 6, 7, 18, 19, 20, 8, 9, 10, 11, 12, 13, 14, 15, 16, 17] (by decide) rfl
    refine lv_aload_n (pc := 30) hx hb dX2_leastFor_30 rfl (lv_at hl 0 rfl) ?_
    refine lv_aload_n (pc := 31) hx hb dX2_leastFor_31 rfl (lv_at hl 1 rfl) ?_
    refine lv_aload_n (pc := 32) hx hb dX2_leastFor_32 rfl (lv_at hl 2 rfl) ?_
    refine lv_iload_n (pc := 33) hx hb dX2_leastFor_33 rfl (lv_at hl 3 rfl) ?_
    refine hCallV (pc := 34) (wr := [aI K (q 13) 12 ev_day, aI K (q 15) 12 ev_kind, aZ K (q 17) 12 ev_on, aI K (q 19) 25 ca_far, aI K (q 27) 17 ca_wayToSource, aI K (q 28) 12 ca_wayToEvent, aI K (q 29) 17 ca_aheadOfSource, aI K (q 30) 12 ca_aheadOfEvent]) (wsf := fun (u : (Nat → Int32) × (Nat → Int32) × (Nat → Int32) × (Nat → Int32)) => [oX8 q, aI K (q 5) 30 st_booked, oX3 q ev_size, aI K (q 14) 12 ev_house, aI K (q 16) 12 ev_need, oX2 q ca_size_3, aI K (q 20) 100 ca_farInGoes_7, aI K (q 21) 12 ca_served_1, aI K (q 22) 12 ca_rank_2, aI K (q 23) 204 u.1, aI K (q 24) 204 u.2.1, aI K (q 25) 17 u.2.2.1, aI K (q 26) 12 u.2.2.2]) [0, 1, 2, 4, 6, 8, 10, 11, 12, 13, 14, 15, 16] [3, 5, 7, 9, 17, 18, 19, 20] (va_runV (As := [.ref (q 12), .ref (q 4), .int p3]) (rest := []) ⟨hx, hb, hml, hown, hts⟩ (c_X2_setOut l G K tb q H.size ev_size _ p3 st_booked ev_house ev_need ca_farInGoes_7 ca_served_1 ca_rank_2 ca_size_3 ca_price ca_sent ca_spare ca_unmet hw) (cwV 3 hts gX2_leastFor_X2_setOut rfl rfl rfl (by decide +kernel) ⟨Nat.le_of_ble_eq_true rfl, Nat.le_of_ble_eq_true rfl⟩) (hPreV hE hP hK hD hS hA [0, 1, 2, 4, 6, 8, 10, 11, 12, 13, 14, 15, 16] (by decide) rfl rfl rfl rfl (q0 := 8) (ci := 2) rfl) rfl rfl hl.1 rfl (lv_room (Nat.le_of_ble_eq_true rfl)) dX2_leastFor_34 ⟨Nat.zero_le _, Nat.zero_le _⟩) hP hD hS hA rfl rfl (by decide) (by decide) (fun u H locs hw hP hD hS => ?_)
    obtain ⟨ca_price_8, ca_sent_9, ca_spare_10, ca_unmet_11⟩ := u
    have hP : va_P G vwCl [oX8 q, aI K (q 5) 30 st_booked, oX3 q ev_size, aI K (q 13) 12 ev_day, aI K (q 14) 12 ev_house, aI K (q 15) 12 ev_kind, aI K (q 16) 12 ev_need, aZ K (q 17) 12 ev_on, oX2 q ca_size_3, aI K (q 19) 25 ca_far, aI K (q 20) 100 ca_farInGoes_7, aI K (q 21) 12 ca_served_1, aI K (q 22) 12 ca_rank_2, aI K (q 23) 204 ca_price_8, aI K (q 24) 204 ca_sent_9, aI K (q 25) 17 ca_spare_10, aI K (q 26) 12 ca_unmet_11, aI K (q 27) 17 ca_wayToSource, aI K (q 28) 12 ca_wayToEvent, aI K (q 29) 17 ca_aheadOfSource, aI K (q 30) 12 ca_aheadOfEvent] H := hP.sub [8, 9, 10, 0, 11, 1, 12, 2, 13, 3, 14, 15, 16, 17, 18, 19, 20, 4, 5, 6, 7] rfl
    have hD : va_D A [oX8 q, aI K (q 5) 30 st_booked, oX3 q ev_size, aI K (q 13) 12 ev_day, aI K (q 14) 12 ev_house, aI K (q 15) 12 ev_kind, aI K (q 16) 12 ev_need, aZ K (q 17) 12 ev_on, oX2 q ca_size_3, aI K (q 19) 25 ca_far, aI K (q 20) 100 ca_farInGoes_7, aI K (q 21) 12 ca_served_1, aI K (q 22) 12 ca_rank_2, aI K (q 23) 204 ca_price_8, aI K (q 24) 204 ca_sent_9, aI K (q 25) 17 ca_spare_10, aI K (q 26) 12 ca_unmet_11, aI K (q 27) 17 ca_wayToSource, aI K (q 28) 12 ca_wayToEvent, aI K (q 29) 17 ca_aheadOfSource, aI K (q 30) 12 ca_aheadOfEvent] := hD.sub [8, 9, 10, 0, 11, 1, 12, 2, 13, 3, 14, 15, 16, 17, 18, 19, 20, 4, 5, 6, 7] (by decide) rfl
    refine lv_aload_n (pc := 37) hx hb dX2_leastFor_37 rfl (lv_at hl 0 rfl) ?_
    refine hCallI (pc := 38) (wr := [oX8 q, aI K (q 5) 30 st_booked, oX3 q ev_size, aI K (q 13) 12 ev_day, aI K (q 14) 12 ev_house, aI K (q 15) 12 ev_kind, aI K (q 16) 12 ev_need, aZ K (q 17) 12 ev_on, aI K (q 19) 25 ca_far, aI K (q 20) 100 ca_farInGoes_7, aI K (q 21) 12 ca_served_1, aI K (q 22) 12 ca_rank_2]) (wsf := fun (u : (Nat → Int32) × (Nat → Int32) × (Nat → Int32) × (Nat → Int32) × (Nat → Int32) × (Nat → Int32) × (Nat → Int32)) => [oX2 q ca_size_3, aI K (q 23) 204 ca_price_8, aI K (q 24) 204 u.1, aI K (q 25) 17 u.2.1, aI K (q 26) 12 u.2.2.1, aI K (q 27) 17 u.2.2.2.1, aI K (q 28) 12 u.2.2.2.2.1, aI K (q 29) 17 u.2.2.2.2.2.1, aI K (q 30) 12 u.2.2.2.2.2.2]) [8, 13, 14, 15, 16, 17, 18, 19, 20] [0, 1, 2, 3, 4, 5, 6, 7, 9, 10, 11, 12] (va_runV (As := []) (rest := []) ⟨hx, hb, hml, hown, hts⟩ (c_X2_sendAll l G K tb q H.size _ ca_size_3 ca_price_8 ca_sent_9 ca_spare_10 ca_unmet_11 ca_wayToSource ca_wayToEvent ca_aheadOfSource ca_aheadOfEvent hw) (cwV 0 hts gX2_leastFor_X2_sendAll rfl rfl rfl (by decide +kernel) ⟨Nat.le_of_ble_eq_true rfl, Nat.le_of_ble_eq_true rfl⟩) (hPreV hE hP hK hD hS hA [8, 13, 14, 15, 16, 17, 18, 19, 20] (by decide) rfl rfl rfl rfl (q0 := 8) (ci := 2) rfl) rfl rfl hl.1 rfl (lv_room (Nat.le_of_ble_eq_true rfl)) dX2_leastFor_38 ⟨Nat.zero_le _, Nat.zero_le _⟩) hP hD hS hA rfl rfl (by decide) (by decide) (fun r_12 u H locs hw hP hD hS => ?_)
    obtain ⟨ca_sent_13, ca_spare_14, ca_unmet_15, ca_wayToSource_16, ca_wayToEvent_17, ca_aheadOfSource_18, ca_aheadOfEvent_19⟩ := u
    have hP : va_P G vwCl [oX8 q, aI K (q 5) 30 st_booked, oX3 q ev_size, aI K (q 13) 12 ev_day, aI K (q 14) 12 ev_house, aI K (q 15) 12 ev_kind, aI K (q 16) 12 ev_need, aZ K (q 17) 12 ev_on, oX2 q ca_size_3, aI K (q 19) 25 ca_far, aI K (q 20) 100 ca_farInGoes_7, aI K (q 21) 12 ca_served_1, aI K (q 22) 12 ca_rank_2, aI K (q 23) 204 ca_price_8, aI K (q 24) 204 ca_sent_13, aI K (q 25) 17 ca_spare_14, aI K (q 26) 12 ca_unmet_15, aI K (q 27) 17 ca_wayToSource_16, aI K (q 28) 12 ca_wayToEvent_17, aI K (q 29) 17 ca_aheadOfSource_18, aI K (q 30) 12 ca_aheadOfEvent_19] H := hP.sub [0, 1, 2, 3, 4, 5, 6, 7, 12, 8, 9, 10, 11, 13, 14, 15, 16, 17, 18, 19, 20] rfl
    have hD : va_D A [oX8 q, aI K (q 5) 30 st_booked, oX3 q ev_size, aI K (q 13) 12 ev_day, aI K (q 14) 12 ev_house, aI K (q 15) 12 ev_kind, aI K (q 16) 12 ev_need, aZ K (q 17) 12 ev_on, oX2 q ca_size_3, aI K (q 19) 25 ca_far, aI K (q 20) 100 ca_farInGoes_7, aI K (q 21) 12 ca_served_1, aI K (q 22) 12 ca_rank_2, aI K (q 23) 204 ca_price_8, aI K (q 24) 204 ca_sent_13, aI K (q 25) 17 ca_spare_14, aI K (q 26) 12 ca_unmet_15, aI K (q 27) 17 ca_wayToSource_16, aI K (q 28) 12 ca_wayToEvent_17, aI K (q 29) 17 ca_aheadOfSource_18, aI K (q 30) 12 ca_aheadOfEvent_19] := hD.sub [0, 1, 2, 3, 4, 5, 6, 7, 12, 8, 9, 10, 11, 13, 14, 15, 16, 17, 18, 19, 20] (by decide) rfl
    exact hRetI (S := (Nat → Int32) × (Nat → Int32) × (Nat → Int32) × Int32 × (Nat → Int32) × (Nat → Int32) × (Nat → Int32) × (Nat → Int32) × (Nat → Int32) × (Nat → Int32) × (Nat → Int32) × (Nat → Int32)) (ca_farInGoes_7, ca_served_1, ca_rank_2, ca_size_3, ca_price_8, ca_sent_13, ca_spare_14, ca_unmet_15, ca_wayToSource_16, ca_wayToEvent_17, ca_aheadOfSource_18, ca_aheadOfEvent_19) hx hb hr hlocks hQ hw hP hK hD hS dX2_leastFor_41
  · replace hw := hw.2 c_6
    refine lv_bipush (pc := 23) (v := (-9 : Int32)) hx hb dX2_leastFor_23 (by decide) ?_
    exact hRetI (S := (Nat → Int32) × (Nat → Int32) × (Nat → Int32) × Int32 × (Nat → Int32) × (Nat → Int32) × (Nat → Int32) × (Nat → Int32) × (Nat → Int32) × (Nat → Int32) × (Nat → Int32) × (Nat → Int32)) (ca_farInGoes, ca_served_1, ca_rank_2, ca_size_3, ca_price, ca_sent, ca_spare, ca_unmet, ca_wayToSource, ca_wayToEvent, ca_aheadOfSource, ca_aheadOfEvent) hx hb hr hlocks hQ hw hP hK hD hS dX2_leastFor_25
def P_X2_setFar (post : Int32 → (Nat → Int32) → Prop) (p1 : Int32) (p2 : Int32) (p3 : Int32) (ca_far : Nat → Int32) : Prop :=
  vp_in ((p1 * (5 : Int32)) + p2) 25 ∧ ∀ y_2 : Int32, y_2 = (ca_far ((p1 * (5 : Int32)) + p2).toNatClampNeg) → ∀ ca_far_3 : Nat → Int32, ca_far_3 = upd ca_far ((p1 * (5 : Int32)) + p2).toNatClampNeg p3 → vp_in ((p2 * (5 : Int32)) + p1) 25 ∧ ∀ ca_far_5 : Nat → Int32, ca_far_5 = upd ca_far_3 ((p2 * (5 : Int32)) + p1).toNatClampNeg p3 → post y_2 ca_far_5
abbrev rm_X2_setFar : Room := { frames := 0, cells := 0, slots := 0, locals := 0 }
theorem iw_X2_setFar_X2 : ∀ w ∈ wsX20, w ∈ wsX2_setFar := by decide +kernel
set_option maxHeartbeats 4000000 in
set_option maxRecDepth 100000 in
theorem c_X2_setFar (l : Launch) (G : va_G) (K : ClassId × ClassId × ClassId) (tb q : Nat → Nat) (sz : Nat) (ca_size : Int32) (post : Int32 → (Nat → Int32) → Prop) (p1 : Int32) (p2 : Int32) (p3 : Int32) (ca_far : Nat → Int32) (hw : P_X2_setFar post p1 p2 p3 ca_far) : Met l yX2_setFar wsX2_setFar rm_X2_setFar (va_Pc [.ref (q 18), .int p1, .int p2, .int p3] (hPre G K tb [oX2 q ca_size, aI K (q 19) 25 ca_far] sz)) (va_Qi (fun (r : Int32) (u : (Nat → Int32)) => post r u) (fun u => hB G K (va_A [oX2 q ca_size, aI K (q 19) 25 ca_far] sz) [oX2 q ca_size, aI K (q 19) 25 u]) (va_A [oX2 q ca_size, aI K (q 19) 25 ca_far] sz)) 0 0 (va_A [oX2 q ca_size, aI K (q 19) 25 ca_far] sz) := by
  refine hMet (fun A => va_Qi (fun (r : Int32) (u : (Nat → Int32)) => post r u) (fun u => hB G K A [oX2 q ca_size, aI K (q 19) 25 u]) A) (by decide) rfl (Nat.le_of_ble_eq_true rfl) ?_
  intro p e s m av below meth c A Q ls hx hb hr hml hts hown hlocks hnm hA hP hK hD hS hE hQ hl
  have hts : ∀ w ∈ wsX2_setFar, w.before av s = true := hts
  have hown : s.vm.findClass RX2 = some m.cls := hown
  have hl : lv_has ls 5 [(0, .ref (q 18)), (1, .int p1), (2, .int p2), (3, .int p3)] := hl
  unfold P_X2_setFar at hw
  refine lv_aload_n (pc := 0) hx hb dX2_setFar_0 rfl (lv_at hl 0 rfl) ?_
  refine va_get (pc := 1) (D := G) (ci := 2) (v := .ref (q 19)) (C := RX2) (T := TX2) (N := 13) hx hb hts iw_X2_setFar_X2 hown hK hP 0 rfl rfl 0 (by decide) (hts _ (List.mem_of_getElem? (i := 1) rfl)) (fun _ h9 => h9) rfl dX2_setFar_1 ?_
  refine lv_iload_n (pc := 4) hx hb dX2_setFar_4 rfl (lv_at hl 1 rfl) ?_
  refine lv_iconst (pc := 5) (v := (5 : Int32)) hx hb dX2_setFar_5 (by decide) ?_
  refine lv_imul (pc := 6) hx hb dX2_setFar_6 ?_
  refine lv_iload_n (pc := 7) hx hb dX2_setFar_7 rfl (lv_at hl 2 rfl) ?_
  refine lv_iadd (pc := 8) hx hb dX2_setFar_8 ?_
  obtain ⟨h_1, hw⟩ := hw
  refine va_iald (pc := 9) hx hb hK hP 1 0 rfl rfl h_1 dX2_setFar_9 ?_
  refine lv_topi (fun y_2 ey_2 => ?_)
  replace hw := hw y_2 ey_2
  refine lv_istore (pc := 10) (lv' := [(4, .int y_2), (0, .ref (q 18)), (1, .int p1), (2, .int p2), (3, .int p3)]) hx hb dX2_setFar_10 hl (by decide) rfl (fun ls hl => ?_)
  refine lv_aload_n (pc := 12) hx hb dX2_setFar_12 rfl (lv_at hl 1 rfl) ?_
  refine va_get (pc := 13) (D := G) (ci := 2) (v := .ref (q 19)) (C := RX2) (T := TX2) (N := 13) hx hb hts iw_X2_setFar_X2 hown hK hP 0 rfl rfl 0 (by decide) (hts _ (List.mem_of_getElem? (i := 1) rfl)) (fun _ h9 => h9) rfl dX2_setFar_13 ?_
  refine lv_iload_n (pc := 16) hx hb dX2_setFar_16 rfl (lv_at hl 2 rfl) ?_
  refine lv_iconst (pc := 17) (v := (5 : Int32)) hx hb dX2_setFar_17 (by decide) ?_
  refine lv_imul (pc := 18) hx hb dX2_setFar_18 ?_
  refine lv_iload_n (pc := 19) hx hb dX2_setFar_19 rfl (lv_at hl 3 rfl) ?_
  refine lv_iadd (pc := 20) hx hb dX2_setFar_20 ?_
  refine lv_iload_n (pc := 21) hx hb dX2_setFar_21 rfl (lv_at hl 4 rfl) ?_
  refine va_iast (pc := 22) hx hb hK hP hD hS 1 0 rfl rfl h_1 dX2_setFar_22 (fun H locs hP hD hS => ?_)
  obtain ⟨ca_far_3, eca_far_3⟩ : ∃ z : Nat → Int32, z = upd ca_far ((p1 * (5 : Int32)) + p2).toNatClampNeg p3 := ⟨_, rfl⟩
  have hP : va_P G vwCl [oX2 q ca_size, aI K (q 19) 25 ca_far_3] H := by rw [eca_far_3]; exact hP
  have hD : va_D A [oX2 q ca_size, aI K (q 19) 25 ca_far_3] := by rw [eca_far_3]; exact hD
  replace hw := hw ca_far_3 eca_far_3
  refine lv_aload_n (pc := 23) hx hb dX2_setFar_23 rfl (lv_at hl 1 rfl) ?_
  refine va_get (pc := 24) (D := G) (ci := 2) (v := .ref (q 19)) (C := RX2) (T := TX2) (N := 13) hx hb hts iw_X2_setFar_X2 hown hK hP 0 rfl rfl 0 (by decide) (hts _ (List.mem_of_getElem? (i := 1) rfl)) (fun _ h9 => h9) rfl dX2_setFar_24 ?_
  refine lv_iload_n (pc := 27) hx hb dX2_setFar_27 rfl (lv_at hl 3 rfl) ?_
  refine lv_iconst (pc := 28) (v := (5 : Int32)) hx hb dX2_setFar_28 (by decide) ?_
  refine lv_imul (pc := 29) hx hb dX2_setFar_29 ?_
  refine lv_iload_n (pc := 30) hx hb dX2_setFar_30 rfl (lv_at hl 2 rfl) ?_
  refine lv_iadd (pc := 31) hx hb dX2_setFar_31 ?_
  refine lv_iload_n (pc := 32) hx hb dX2_setFar_32 rfl (lv_at hl 4 rfl) ?_
  obtain ⟨h_4, hw⟩ := hw
  refine va_iast (pc := 33) hx hb hK hP hD hS 1 0 rfl rfl h_4 dX2_setFar_33 (fun H locs hP hD hS => ?_)
  obtain ⟨ca_far_5, eca_far_5⟩ : ∃ z : Nat → Int32, z = upd ca_far_3 ((p2 * (5 : Int32)) + p1).toNatClampNeg p3 := ⟨_, rfl⟩
  have hP : va_P G vwCl [oX2 q ca_size, aI K (q 19) 25 ca_far_5] H := by rw [eca_far_5]; exact hP
  have hD : va_D A [oX2 q ca_size, aI K (q 19) 25 ca_far_5] := by rw [eca_far_5]; exact hD
  replace hw := hw ca_far_5 eca_far_5
  refine lv_iload (pc := 34) hx hb dX2_setFar_34 (lv_at hl 0 rfl) ?_
  exact hRetI (S := (Nat → Int32)) ca_far_5 hx hb hr hlocks hQ hw hP hK hD hS dX2_setFar_36
