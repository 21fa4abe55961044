def P_X0_choose (post : (Nat → Int64) → Prop) (p1 : Int32) (pn : Nat) (arr : Nat → Int64) : Prop :=
  ∀ (X6 : Int32 → (Nat → Int64) → Prop),
  (∀ (x2 : Int32) (arr : Nat → Int64), ((((60 : Int32) < x2 → post arr) ∧ (¬ (60 : Int32) < x2 → ((x2 ≤ p1 → (vp_in (x2 - (1 : Int32)) pn ∧ ¬ x2.toInt64 = 0 ∧ True)) ∧ (¬ x2 ≤ p1 → True)) ∧ ∀ v_7 : Int64, v_7 = (if x2 ≤ p1 then (((arr (x2 - (1 : Int32)).toNatClampNeg) * ((p1 - x2) + (1 : Int32)).toInt64) / x2.toInt64) else (0 : Int64)) → vp_in x2 pn ∧ ∀ arr_9 : Nat → Int64, arr_9 = vp_updL arr x2.toNatClampNeg v_7 → ∀ y_10 : Int32, y_10 = (x2 + (1 : Int32)) → X6 y_10 arr_9))) → X6 x2 arr) →
  vp_in (0 : Int32) pn ∧ ∀ arr_2 : Nat → Int64, arr_2 = vp_updL arr (0 : Int32).toNatClampNeg (1 : Int64) → X6 (1 : Int32) arr_2
abbrev rm_X0_choose : Room := { frames := 0, cells := 0, slots := 0, locals := 0 }
set_option maxHeartbeats 4000000 in
set_option maxRecDepth 100000 in
theorem c_X0_choose (l : Launch) (G : va_G) (K : ClassId × ClassId × ClassId) (tb q : Nat → Nat) (sz : Nat) (pa pn : Nat) (post : (Nat → Int64) → Prop) (p1 : Int32) (arr : Nat → Int64) (hw : P_X0_choose post p1 pn arr) : Met l yX0_choose wsX0_choose rm_X0_choose (va_Pc [.ref pa, .int p1] (hPre G K tb [aJ K pa pn arr] sz)) (va_Qv (fun (u : (Nat → Int64)) => post u) (fun u => hB G K (va_A [aJ K pa pn arr] sz) [aJ K pa pn u]) (va_A [aJ K pa pn arr] sz)) 0 0 (va_A [aJ K pa pn arr] sz) := by
  refine hMet (fun A => va_Qv (fun (u : (Nat → Int64)) => post u) (fun u => hB G K A [aJ K pa pn u]) A) (by decide) rfl (Nat.le_of_ble_eq_true rfl) ?_
  intro p e s m av below meth c A Q ls hx hb hr hml hts hown hlocks hnm hA hP hK hD hS hE hQ hl
  have hts : ∀ w ∈ wsX0_choose, w.before av s = true := hts
  have hown : s.vm.findClass RX0 = some m.cls := hown
  have hl : lv_has ls 3 [(0, .ref pa), (1, .int p1)] := hl
  unfold P_X0_choose at hw
  replace hw := hw (fun (x2 : Int32) (arr : Nat → Int64) => ∀ (H : Heap) (locs : List Loc) (ls : Array Slot), va_P G vwCl [aJ K pa pn arr] H → va_D A [aJ K pa pn arr] → va_S A s.heap H locs → lv_has ls 3 [(0, .ref pa), (1, .int p1), (2, .int x2)] → W p l e rm_X0_choose s m av below meth c H locs 0 0 Q (F0 m 6 ls []))
  replace hw := hw (by
    intro x2 arr hw H locs ls hP hD hS hl
    refine lv_iload_n (pc := 6) hx hb dX0_choose_6 rfl (lv_at hl 2 rfl) ?_
    refine lv_bipush (pc := 7) (v := (60 : Int32)) hx hb dX0_choose_7 (by decide) ?_
    refine lv_icmp_gt (pc := 9) (tgt := 45) hx hb dX0_choose_9 (by decide) (fun c_3 => ?_) (fun c_3 => ?_)
    · replace hw := hw.1 c_3
      exact hRetV (S := (Nat → Int64)) arr hx hb hr hlocks hQ hw hP hK hD hS dX0_choose_45
    · replace hw := hw.2 c_3
      refine lv_aload_n (pc := 12) hx hb dX0_choose_12 rfl (lv_at hl 0 rfl) ?_
      refine lv_iload_n (pc := 13) hx hb dX0_choose_13 rfl (lv_at hl 2 rfl) ?_
      refine lv_iload_n (pc := 14) hx hb dX0_choose_14 rfl (lv_at hl 2 rfl) ?_
      refine lv_iload_n (pc := 15) hx hb dX0_choose_15 rfl (lv_at hl 1 rfl) ?_
      obtain ⟨hsf, hw⟩ := hw
      have K_v_7 : ∀ v_7 : Int64, v_7 = (if x2 ≤ p1 then (((arr (x2 - (1 : Int32)).toNatClampNeg) * ((p1 - x2) + (1 : Int32)).toInt64) / x2.toInt64) else (0 : Int64)) → W p l e rm_X0_choose s m av below meth c H locs 0 0 Q (F0 m 38 ls [.long v_7, .int x2, .ref pa]) := by
        intro v_7 ev_7
        replace hw := hw v_7 ev_7
        obtain ⟨h_8, hw⟩ := hw
        refine va_last (pc := 38) hx hb hK hP hD hS 0 1 rfl rfl h_8 dX0_choose_38 (fun H locs hP hD hS => ?_)
        obtain ⟨arr_9, earr_9⟩ : ∃ z : Nat → Int64, z = vp_updL arr x2.toNatClampNeg v_7 := ⟨_, rfl⟩
        have hP : va_P G vwCl [aJ K pa pn arr_9] H := by rw [earr_9]; exact hP
        have hD : va_D A [aJ K pa pn arr_9] := by rw [earr_9]; exact hD
        replace hw := hw arr_9 earr_9
        obtain ⟨y_10, ey_10⟩ : ∃ z : Int32, z = (x2 + (1 : Int32)) := ⟨_, rfl⟩
        replace hw := hw y_10 ey_10
        refine lv_iinc (pc := 39) (v := y_10) (lv' := [(2, .int y_10), (0, .ref pa), (1, .int p1)]) hx hb dX0_choose_39 hl (k := 2) rfl (by rw [ey_10]; rfl) (by decide) rfl (fun ls hl => ?_)
        refine lv_goto (pc := 42) (tgt := 6) hx hb dX0_choose_42 (by decide) ?_
        exact hw _ _ _ hP hD hS (lv_sub hl [1, 2, 0] rfl)
      refine lv_icmp_le (pc := 16) (tgt := 23) hx hb dX0_choose_16 (by decide) (fun c_4 => ?_) (fun c_4 => ?_)
      · replace hsf := hsf.1 c_4
        refine lv_aload_n (pc := 23) hx hb dX0_choose_23 rfl (lv_at hl 0 rfl) ?_
        refine lv_iload_n (pc := 24) hx hb dX0_choose_24 rfl (lv_at hl 2 rfl) ?_
        refine lv_iconst (pc := 25) (v := (1 : Int32)) hx hb dX0_choose_25 (by decide) ?_
        refine lv_isub (pc := 26) hx hb dX0_choose_26 ?_
        obtain ⟨h_5, hsf⟩ := hsf
        refine va_lald (pc := 27) hx hb hK hP 0 1 rfl rfl h_5 dX0_choose_27 ?_
        refine lv_iload_n (pc := 28) hx hb dX0_choose_28 rfl (lv_at hl 1 rfl) ?_
        refine lv_iload_n (pc := 29) hx hb dX0_choose_29 rfl (lv_at hl 2 rfl) ?_
        refine lv_isub (pc := 30) hx hb dX0_choose_30 ?_
        refine lv_iconst (pc := 31) (v := (1 : Int32)) hx hb dX0_choose_31 (by decide) ?_
        refine lv_iadd (pc := 32) hx hb dX0_choose_32 ?_
        refine lv_i2l (pc := 33) hx hb dX0_choose_33 rfl ?_
        refine lv_lmul (pc := 34) hx hb dX0_choose_34 ?_
        refine lv_iload_n (pc := 35) hx hb dX0_choose_35 rfl (lv_at hl 2 rfl) ?_
        refine lv_i2l (pc := 36) hx hb dX0_choose_36 rfl ?_
        obtain ⟨h_6, hsf⟩ := hsf
        refine lv_ldiv (pc := 37) hx hb dX0_choose_37 h_6 ?_
        exact K_v_7 _ (by rw [if_pos c_4])
      · replace hsf := hsf.2 c_4
        refine lv_lconst (pc := 19) (v := (0 : Int64)) hx hb dX0_choose_19 (by decide) ?_
        refine lv_goto (pc := 20) (tgt := 38) hx hb dX0_choose_20 (by decide) ?_
        exact K_v_7 _ (by rw [if_neg c_4]))
  refine lv_aload_n (pc := 0) hx hb dX0_choose_0 rfl (lv_at hl 0 rfl) ?_
  refine lv_iconst (pc := 1) (v := (0 : Int32)) hx hb dX0_choose_1 (by decide) ?_
  refine lv_lconst (pc := 2) (v := (1 : Int64)) hx hb dX0_choose_2 (by decide) ?_
  obtain ⟨h_1, hw⟩ := hw
  refine va_last (pc := 3) hx hb hK hP hD hS 0 1 rfl rfl h_1 dX0_choose_3 (fun H locs hP hD hS => ?_)
  obtain ⟨arr_2, earr_2⟩ : ∃ z : Nat → Int64, z = vp_updL arr (0 : Int32).toNatClampNeg (1 : Int64) := ⟨_, rfl⟩
  have hP : va_P G vwCl [aJ K pa pn arr_2] H := by rw [earr_2]; exact hP
  have hD : va_D A [aJ K pa pn arr_2] := by rw [earr_2]; exact hD
  replace hw := hw arr_2 earr_2
  refine lv_iconst (pc := 4) (v := (1 : Int32)) hx hb dX0_choose_4 (by decide) ?_
  refine lv_istore_n (pc := 5) (lv' := [(2, .int (1 : Int32)), (0, .ref pa), (1, .int p1)]) hx hb dX0_choose_5 rfl hl (by decide) rfl (fun ls hl => ?_)
  exact hw _ _ _ hP hD hS (lv_sub hl [1, 2, 0] rfl)
def P_X0_isDoubted (post : Int32 → (Nat → Int64) → (Nat → Int64) → Prop) (p1 : Int32) (p2 : Int32) (p3 : Int32) (p4 : Int32) (bg_fromHolding : Nat → Int64) (bg_fromOthers : Nat → Int64) : Prop :=
  ∀ (X32 : Int64 → Int64 → Int64 → Int32 → (Nat → Int64) → (Nat → Int64) → Prop),
  (∀ (x5 : Int64) (x7 : Int64) (x9 : Int64) (x11 : Int32) (bg_fromHolding : Nat → Int64) (bg_fromOthers : Nat → Int64), (((p2 < x11 → ∀ v_6 : Int32, v_6 = (if (lg_cmp ((20 : Int64) * x7) x5) < (0 : Int32) then (1 : Int32) else (if (0 : Int32) ≤ (lg_cmp ((20 : Int64) * x9) x5) then (0 : Int32) else (1 : Int32))) → post v_6 bg_fromHolding bg_fromOthers) ∧ (¬ p2 < x11 → vp_in x11 61 ∧ vp_in (p2 - x11) 61 ∧ ∀ y_9 : Int64, y_9 = ((bg_fromHolding x11.toNatClampNeg) * (bg_fromOthers (p2 - x11).toNatClampNeg)) → ∀ y_10 : Int64, y_10 = (x5 + y_9) → ∀ v_12 : Int64, v_12 = (if p3 < x11 then (0 : Int64) else y_9) → ∀ y_13 : Int64, y_13 = (x7 + v_12) → ∀ v_15 : Int64, v_15 = (if x11 < p3 then (0 : Int64) else y_9) → ∀ y_16 : Int64, y_16 = (x9 + v_15) → ∀ y_17 : Int32, y_17 = (x11 + (1 : Int32)) → X32 y_10 y_13 y_16 y_17 bg_fromHolding bg_fromOthers))) → X32 x5 x7 x9 x11 bg_fromHolding bg_fromOthers) →
  P_X0_choose (fun bg_fromHolding_1 => P_X0_choose (fun bg_fromOthers_2 => X32 (0 : Int64) (0 : Int64) (0 : Int64) (0 : Int32) bg_fromHolding_1 bg_fromOthers_2) (p1 - p4) 61 bg_fromOthers) p4 61 bg_fromHolding
abbrev rm_X0_isDoubted : Room := { frames := 1, cells := 0, slots := 0, locals := 22 }
theorem iw_X0_isDoubted_X0 : ∀ w ∈ wsX00, w ∈ wsX0_isDoubted := by decide +kernel
set_option maxHeartbeats 4000000 in
set_option maxRecDepth 100000 in
theorem c_X0_isDoubted (l : Launch) (G : va_G) (K : ClassId × ClassId × ClassId) (tb q : Nat → Nat) (sz : Nat) (post : Int32 → (Nat → Int64) → (Nat → Int64) → Prop) (p1 : Int32) (p2 : Int32) (p3 : Int32) (p4 : Int32) (bg_fromHolding : Nat → Int64) (bg_fromOthers : Nat → Int64) (hw : P_X0_isDoubted post p1 p2 p3 p4 bg_fromHolding bg_fromOthers) : Met l yX0_isDoubted wsX0_isDoubted rm_X0_isDoubted (va_Pc [.ref (q 41), .int p1, .int p2, .int p3, .int p4] (hPre G K tb [oX0 q, aJ K (q 42) 61 bg_fromHolding, aJ K (q 43) 61 bg_fromOthers] sz)) (va_Qi (fun (r : Int32) (u : (Nat → Int64) × (Nat → Int64)) => post r u.1 u.2) (fun u => hB G K (va_A [oX0 q, aJ K (q 42) 61 bg_fromHolding, aJ K (q 43) 61 bg_fromOthers] sz) [oX0 q, aJ K (q 42) 61 u.1, aJ K (q 43) 61 u.2]) (va_A [oX0 q, aJ K (q 42) 61 bg_fromHolding, aJ K (q 43) 61 bg_fromOthers] sz)) 0 0 (va_A [oX0 q, aJ K (q 42) 61 bg_fromHolding, aJ K (q 43) 61 bg_fromOthers] sz) := by
  refine hMet (fun A => va_Qi (fun (r : Int32) (u : (Nat → Int64) × (Nat → Int64)) => post r u.1 u.2) (fun u => hB G K A [oX0 q, aJ K (q 42) 61 u.1, aJ K (q 43) 61 u.2]) A) (by decide) rfl (Nat.le_of_ble_eq_true rfl) ?_
  intro p e s m av below meth c A Q ls hx hb hr hml hts hown hlocks hnm hA hP hK hD hS hE hQ hl
  have hts : ∀ w ∈ wsX0_isDoubted, w.before av s = true := hts
  have hown : s.vm.findClass RX0 = some m.cls := hown
  have hl : lv_has ls 14 [(0, .ref (q 41)), (1, .int p1), (2, .int p2), (3, .int p3), (4, .int p4)] := hl
  unfold P_X0_isDoubted at hw
  replace hw := hw (fun (x5 : Int64) (x7 : Int64) (x9 : Int64) (x11 : Int32) (bg_fromHolding : Nat → Int64) (bg_fromOthers : Nat → Int64) => ∀ (H : Heap) (locs : List Loc) (ls : Array Slot), va_P G vwCl [oX0 q, aJ K (q 42) 61 bg_fromHolding, aJ K (q 43) 61 bg_fromOthers] H → va_D A [oX0 q, aJ K (q 42) 61 bg_fromHolding, aJ K (q 43) 61 bg_fromOthers] → va_S A s.heap H locs → lv_has ls 14 [(0, .ref (q 41)), (2, .int p2), (3, .int p3), (5, .long x5), (7, .long x7), (9, .long x9), (11, .int x11)] → W p l e rm_X0_isDoubted s m av below meth c H locs 0 0 Q (F0 m 32 ls []))
  replace hw := hw (by
    intro x5 x7 x9 x11 bg_fromHolding bg_fromOthers hw H locs ls hP hD hS hl
    refine lv_iload (pc := 32) hx hb dX0_isDoubted_32 (lv_at hl 6 rfl) ?_
    refine lv_iload_n (pc := 34) hx hb dX0_isDoubted_34 rfl (lv_at hl 1 rfl) ?_
    refine lv_icmp_gt (pc := 35) (tgt := 104) hx hb dX0_isDoubted_35 (by decide) (fun c_3 => ?_) (fun c_3 => ?_)
    · replace hw := hw.1 c_3
      refine lv_ldc2 (pc := 104) (v := (20 : Int64)) hx hb hown (hts _ (List.mem_of_getElem? (i := 3) rfl)) dX0_isDoubted_104 ?_
      refine lv_lload (pc := 107) hx hb dX0_isDoubted_107 (lv_at hl 4 rfl) ?_
      refine lv_lmul (pc := 109) hx hb dX0_isDoubted_109 ?_
      refine lv_lload (pc := 110) hx hb dX0_isDoubted_110 (lv_at hl 3 rfl) ?_
      refine W.lcmp (pc := 112) hx hb dX0_isDoubted_112 ?_
      have K_v_6 : ∀ v_6 : Int32, v_6 = (if (lg_cmp ((20 : Int64) * x7) x5) < (0 : Int32) then (1 : Int32) else (if (0 : Int32) ≤ (lg_cmp ((20 : Int64) * x9) x5) then (0 : Int32) else (1 : Int32))) → W p l e rm_X0_isDoubted s m av below meth c H locs 0 0 Q (F0 m 133 ls [.int v_6]) := by
        intro v_6 ev_6
        replace hw := hw v_6 ev_6
        exact hRetZ (S := (Nat → Int64) × (Nat → Int64)) (bg_fromHolding, bg_fromOthers) hx hb hr hlocks hQ (by rw [ev_6]; (repeat' split) <;> first | exact Or.inl rfl | exact Or.inr rfl) hw hP hK hD hS dX0_isDoubted_133
      refine lv_if_lt (pc := 113) (tgt := 128) hx hb dX0_isDoubted_113 (by decide) (fun c_4 => ?_) (fun c_4 => ?_)
      · skip
        refine lv_iconst (pc := 128) (v := (1 : Int32)) hx hb dX0_isDoubted_128 (by decide) ?_
        refine lv_goto (pc := 129) (tgt := 133) hx hb dX0_isDoubted_129 (by decide) ?_
        exact K_v_6 _ (by rw [if_pos c_4])
      · skip
        refine lv_ldc2 (pc := 116) (v := (20 : Int64)) hx hb hown (hts _ (List.mem_of_getElem? (i := 3) rfl)) dX0_isDoubted_116 ?_
        refine lv_lload (pc := 119) hx hb dX0_isDoubted_119 (lv_at hl 5 rfl) ?_
        refine lv_lmul (pc := 121) hx hb dX0_isDoubted_121 ?_
        refine lv_lload (pc := 122) hx hb dX0_isDoubted_122 (lv_at hl 3 rfl) ?_
        refine W.lcmp (pc := 124) hx hb dX0_isDoubted_124 ?_
        refine lv_if_ge (pc := 125) (tgt := 132) hx hb dX0_isDoubted_125 (by decide) (fun c_5 => ?_) (fun c_5 => ?_)
        · skip
          refine lv_iconst (pc := 132) (v := (0 : Int32)) hx hb dX0_isDoubted_132 (by decide) ?_
          exact K_v_6 _ (by rw [if_neg c_4, if_pos c_5])
        · skip
          refine lv_iconst (pc := 128) (v := (1 : Int32)) hx hb dX0_isDoubted_128 (by decide) ?_
          refine lv_goto (pc := 129) (tgt := 133) hx hb dX0_isDoubted_129 (by decide) ?_
          exact K_v_6 _ (by rw [if_neg c_4, if_neg c_5])
    · replace hw := hw.2 c_3
      refine lv_aload_n (pc := 38) hx hb dX0_isDoubted_38 rfl (lv_at hl 0 rfl) ?_
      refine va_get (pc := 39) (D := G) (ci := 0) (v := .ref (q 42)) (C := RX0) (T := TX0) (N := 2) hx hb hts iw_X0_isDoubted_X0 hown hK hP 0 rfl rfl 0 (by decide) (hts _ (List.mem_of_getElem? (i := 1) rfl)) (fun _ h9 => h9) rfl dX0_isDoubted_39 ?_
      refine lv_iload (pc := 42) hx hb dX0_isDoubted_42 (lv_at hl 6 rfl) ?_
      obtain ⟨h_7, hw⟩ := hw
      refine va_lald (pc := 44) hx hb hK hP 1 1 rfl rfl h_7 dX0_isDoubted_44 ?_
      refine lv_aload_n (pc := 45) hx hb dX0_isDoubted_45 rfl (lv_at hl 0 rfl) ?_
      refine va_get (pc := 46) (D := G) (ci := 0) (v := .ref (q 43)) (C := RX0) (T := TX0) (N := 2) hx hb hts iw_X0_isDoubted_X0 hown hK hP 0 rfl rfl 1 (by decide) (hts _ (List.mem_of_getElem? (i := 2) rfl)) (fun _ h9 => h9) rfl dX0_isDoubted_46 ?_
      refine lv_iload_n (pc := 49) hx hb dX0_isDoubted_49 rfl (lv_at hl 1 rfl) ?_
      refine lv_iload (pc := 50) hx hb dX0_isDoubted_50 (lv_at hl 6 rfl) ?_
      refine lv_isub (pc := 52) hx hb dX0_isDoubted_52 ?_
      obtain ⟨h_8, hw⟩ := hw
      refine va_lald (pc := 53) hx hb hK hP 2 1 rfl rfl h_8 dX0_isDoubted_53 ?_
      refine lv_lmul (pc := 54) hx hb dX0_isDoubted_54 ?_
      refine lv_topl (fun y_9 ey_9 => ?_)
      replace hw := hw y_9 ey_9
      refine lv_lstore (pc := 55) (lv' := [(12, .long y_9), (0, .ref (q 41)), (2, .int p2), (3, .int p3), (5, .long x5), (7, .long x7), (9, .long x9), (11, .int x11)]) hx hb dX0_isDoubted_55 hl (by decide) rfl (fun ls hl => ?_)
      refine lv_lload (pc := 57) hx hb dX0_isDoubted_57 (lv_at hl 4 rfl) ?_
      refine lv_lload (pc := 59) hx hb dX0_isDoubted_59 (lv_at hl 0 rfl) ?_
      refine lv_ladd (pc := 61) hx hb dX0_isDoubted_61 ?_
      refine lv_topl (fun y_10 ey_10 => ?_)
      replace hw := hw y_10 ey_10
      refine lv_lstore (pc := 62) (lv' := [(5, .long y_10), (12, .long y_9), (0, .ref (q 41)), (2, .int p2), (3, .int p3), (7, .long x7), (9, .long x9), (11, .int x11)]) hx hb dX0_isDoubted_62 hl (by decide) rfl (fun ls hl => ?_)
      refine lv_lload (pc := 64) hx hb dX0_isDoubted_64 (lv_at hl 5 rfl) ?_
      refine lv_iload (pc := 66) hx hb dX0_isDoubted_66 (lv_at hl 7 rfl) ?_
      refine lv_iload_n (pc := 68) hx hb dX0_isDoubted_68 rfl (lv_at hl 4 rfl) ?_
      have K_v_12 : ∀ v_12 : Int64, v_12 = (if p3 < x11 then (0 : Int64) else y_9) → W p l e rm_X0_isDoubted s m av below meth c H locs 0 0 Q (F0 m 78 ls [.long v_12, .long x7]) := by
        intro v_12 ev_12
        replace hw := hw v_12 ev_12
        refine lv_ladd (pc := 78) hx hb dX0_isDoubted_78 ?_
        refine lv_topl (fun y_13 ey_13 => ?_)
        replace hw := hw y_13 ey_13
        refine lv_lstore (pc := 79) (lv' := [(7, .long y_13), (5, .long y_10), (12, .long y_9), (0, .ref (q 41)), (2, .int p2), (3, .int p3), (9, .long x9), (11, .int x11)]) hx hb dX0_isDoubted_79 hl (by decide) rfl (fun ls hl => ?_)
        refine lv_lload (pc := 81) hx hb dX0_isDoubted_81 (lv_at hl 6 rfl) ?_
        refine lv_iload (pc := 83) hx hb dX0_isDoubted_83 (lv_at hl 7 rfl) ?_
        refine lv_iload_n (pc := 85) hx hb dX0_isDoubted_85 rfl (lv_at hl 5 rfl) ?_
        have K_v_15 : ∀ v_15 : Int64, v_15 = (if x11 < p3 then (0 : Int64) else y_9) → W p l e rm_X0_isDoubted s m av below meth c H locs 0 0 Q (F0 m 95 ls [.long v_15, .long x9]) := by
          intro v_15 ev_15
          replace hw := hw v_15 ev_15
          refine lv_ladd (pc := 95) hx hb dX0_isDoubted_95 ?_
          refine lv_topl (fun y_16 ey_16 => ?_)
          replace hw := hw y_16 ey_16
          refine lv_lstore (pc := 96) (lv' := [(9, .long y_16), (7, .long y_13), (5, .long y_10), (12, .long y_9), (0, .ref (q 41)), (2, .int p2), (3, .int p3), (11, .int x11)]) hx hb dX0_isDoubted_96 hl (by decide) rfl (fun ls hl => ?_)
          obtain ⟨y_17, ey_17⟩ : ∃ z : Int32, z = (x11 + (1 : Int32)) := ⟨_, rfl⟩
          replace hw := hw y_17 ey_17
          refine lv_iinc (pc := 98) (v := y_17) (lv' := [(11, .int y_17), (9, .long y_16), (7, .long y_13), (5, .long y_10), (12, .long y_9), (0, .ref (q 41)), (2, .int p2), (3, .int p3)]) hx hb dX0_isDoubted_98 hl (k := 7) rfl (by rw [ey_17]; rfl) (by decide) rfl (fun ls hl => ?_)
          refine lv_goto (pc := 101) (tgt := 32) hx hb dX0_isDoubted_101 (by decide) ?_
          exact hw _ _ _ hP hD hS (lv_sub hl [5, 6, 7, 3, 2, 1, 0] rfl)
        refine lv_icmp_lt (pc := 86) (tgt := 94) hx hb dX0_isDoubted_86 (by decide) (fun c_14 => ?_) (fun c_14 => ?_)
        · skip
          refine lv_lconst (pc := 94) (v := (0 : Int64)) hx hb dX0_isDoubted_94 (by decide) ?_
          exact K_v_15 _ (by rw [if_pos c_14])
        · skip
          refine lv_lload (pc := 89) hx hb dX0_isDoubted_89 (lv_at hl 2 rfl) ?_
          refine lv_goto (pc := 91) (tgt := 95) hx hb dX0_isDoubted_91 (by decide) ?_
          exact K_v_15 _ (by rw [if_neg c_14])
      refine lv_icmp_gt (pc := 69) (tgt := 77) hx hb dX0_isDoubted_69 (by decide) (fun c_11 => ?_) (fun c_11 => ?_)
      · skip
        refine lv_lconst (pc := 77) (v := (0 : Int64)) hx hb dX0_isDoubted_77 (by decide) ?_
        exact K_v_12 _ (by rw [if_pos c_11])
      · skip
        refine lv_lload (pc := 72) hx hb dX0_isDoubted_72 (lv_at hl 1 rfl) ?_
        refine lv_goto (pc := 74) (tgt := 78) hx hb dX0_isDoubted_74 (by decide) ?_
        exact K_v_12 _ (by rw [if_neg c_11]))
  refine lv_aload_n (pc := 0) hx hb dX0_isDoubted_0 rfl (lv_at hl 0 rfl) ?_
  refine va_get (pc := 1) (D := G) (ci := 0) (v := .ref (q 42)) (C := RX0) (T := TX0) (N := 2) hx hb hts iw_X0_isDoubted_X0 hown hK hP 0 rfl rfl 0 (by decide) (hts _ (List.mem_of_getElem? (i := 1) rfl)) (fun _ h9 => h9) rfl dX0_isDoubted_1 ?_
  refine lv_iload (pc := 4) hx hb dX0_isDoubted_4 (lv_at hl 4 rfl) ?_
  refine hCallV (pc := 6) (wr := [oX0 q, aJ K (q 43) 61 bg_fromOthers]) (wsf := fun (u : (Nat → Int64)) => [aJ K (q 42) 61 u]) [1] [0, 2] (va_runS (As := [.ref (q 42), .int p4]) (rest := []) ⟨hx, hb, hml, hown, hts⟩ (c_X0_choose l G K tb q s.heap.size (q 42) 61 _ p4 bg_fromHolding hw) (va_cwS 2 hts gX0_isDoubted_X0_choose rfl rfl rfl (by decide +kernel) ⟨Nat.le_of_ble_eq_true rfl, Nat.le_of_ble_eq_true rfl⟩) (hPreS hE hP hK hD hS hA [1] (by decide) rfl rfl) rfl rfl hl.1 rfl (lv_room (Nat.le_of_ble_eq_true rfl)) dX0_isDoubted_6 ⟨Nat.zero_le _, Nat.zero_le _⟩) hP hD hS hA rfl rfl (by decide) (by decide) (fun u H locs hw hP hD hS => ?_)
  obtain ⟨bg_fromHolding_1, rfl⟩ : ∃ z, z = u := ⟨_, rfl⟩
  have hP : va_P G vwCl [oX0 q, aJ K (q 42) 61 bg_fromHolding_1, aJ K (q 43) 61 bg_fromOthers] H := hP.sub [0, 2, 1] rfl
  have hD : va_D A [oX0 q, aJ K (q 42) 61 bg_fromHolding_1, aJ K (q 43) 61 bg_fromOthers] := hD.sub [0, 2, 1] (by decide) rfl
  refine lv_aload_n (pc := 9) hx hb dX0_isDoubted_9 rfl (lv_at hl 0 rfl) ?_
  refine va_get (pc := 10) (D := G) (ci := 0) (v := .ref (q 43)) (C := RX0) (T := TX0) (N := 2) hx hb hts iw_X0_isDoubted_X0 hown hK hP 0 rfl rfl 1 (by decide) (hts _ (List.mem_of_getElem? (i := 2) rfl)) (fun _ h9 => h9) rfl dX0_isDoubted_10 ?_
  refine lv_iload_n (pc := 13) hx hb dX0_isDoubted_13 rfl (lv_at hl 1 rfl) ?_
  refine lv_iload (pc := 14) hx hb dX0_isDoubted_14 (lv_at hl 4 rfl) ?_
  refine lv_isub (pc := 16) hx hb dX0_isDoubted_16 ?_
  refine hCallV (pc := 17) (wr := [oX0 q, aJ K (q 42) 61 bg_fromHolding_1]) (wsf := fun (u : (Nat → Int64)) => [aJ K (q 43) 61 u]) [2] [0, 1] (va_runS (As := [.ref (q 43), .int (p1 - p4)]) (rest := []) ⟨hx, hb, hml, hown, hts⟩ (c_X0_choose l G K tb q H.size (q 43) 61 _ (p1 - p4) bg_fromOthers hw) (va_cwS 2 hts gX0_isDoubted_X0_choose rfl rfl rfl (by decide +kernel) ⟨Nat.le_of_ble_eq_true rfl, Nat.le_of_ble_eq_true rfl⟩) (hPreS hE hP hK hD hS hA [2] (by decide) rfl rfl) rfl rfl hl.1 rfl (lv_room (Nat.le_of_ble_eq_true rfl)) dX0_isDoubted_17 ⟨Nat.zero_le _, Nat.zero_le _⟩) hP hD hS hA rfl rfl (by decide) (by decide) (fun u H locs hw hP hD hS => ?_)
  obtain ⟨bg_fromOthers_2, rfl⟩ : ∃ z, z = u := ⟨_, rfl⟩
  have hP : va_P G vwCl [oX0 q, aJ K (q 42) 61 bg_fromHolding_1, aJ K (q 43) 61 bg_fromOthers_2] H := hP.sub [0, 1, 2] rfl
  have hD : va_D A [oX0 q, aJ K (q 42) 61 bg_fromHolding_1, aJ K (q 43) 61 bg_fromOthers_2] := hD.sub [0, 1, 2] (by decide) rfl
  refine lv_lconst (pc := 20) (v := (0 : Int64)) hx hb dX0_isDoubted_20 (by decide) ?_
  refine lv_lstore (pc := 21) (lv' := [(5, .long (0 : Int64)), (0, .ref (q 41)), (1, .int p1), (2, .int p2), (3, .int p3), (4, .int p4)]) hx hb dX0_isDoubted_21 hl (by decide) rfl (fun ls hl => ?_)
  refine lv_lconst (pc := 23) (v := (0 : Int64)) hx hb dX0_isDoubted_23 (by decide) ?_
  refine lv_lstore (pc := 24) (lv' := [(7, .long (0 : Int64)), (5, .long (0 : Int64)), (0, .ref (q 41)), (1, .int p1), (2, .int p2), (3, .int p3), (4, .int p4)]) hx hb dX0_isDoubted_24 hl (by decide) rfl (fun ls hl => ?_)
  refine lv_lconst (pc := 26) (v := (0 : Int64)) hx hb dX0_isDoubted_26 (by decide) ?_
  refine lv_lstore (pc := 27) (lv' := [(9, .long (0 : Int64)), (7, .long (0 : Int64)), (5, .long (0 : Int64)), (0, .ref (q 41)), (1, .int p1), (2, .int p2), (3, .int p3), (4, .int p4)]) hx hb dX0_isDoubted_27 hl (by decide) rfl (fun ls hl => ?_)
  refine lv_iconst (pc := 29) (v := (0 : Int32)) hx hb dX0_isDoubted_29 (by decide) ?_
  refine lv_istore (pc := 30) (lv' := [(11, .int (0 : Int32)), (9, .long (0 : Int64)), (7, .long (0 : Int64)), (5, .long (0 : Int64)), (0, .ref (q 41)), (1, .int p1), (2, .int p2), (3, .int p3), (4, .int p4)]) hx hb dX0_isDoubted_30 hl (by decide) rfl (fun ls hl => ?_)
  exact hw _ _ _ hP hD hS (lv_sub hl [4, 6, 7, 3, 2, 1, 0] rfl)
def P_X0_greatestKept (post : Int32 → (Nat → Int64) → (Nat → Int64) → Prop) (p1 : Int32) (p2 : Int32) (p3 : Int32) (bg_fromHolding : Nat → Int64) (bg_fromOthers : Nat → Int64) : Prop :=
  ∀ (X7 : Int32 → (Nat → Int64) → (Nat → Int64) → Prop),
  (∀ (x4 : Int32) (bg_fromHolding : Nat → Int64) (bg_fromOthers : Nat → Int64), (((x4 < p3 → post (-9 : Int32) bg_fromHolding bg_fromOthers) ∧ (¬ x4 < p3 → P_X0_isDoubted (fun r_3 bg_fromHolding_4 bg_fromOthers_5 => ((r_3 = (0 : Int32) → post x4 bg_fromHolding_4 bg_fromOthers_5) ∧ (¬ r_3 = (0 : Int32) → ∀ y_7 : Int32, y_7 = (x4 + (-1 : Int32)) → X7 y_7 bg_fromHolding_4 bg_fromOthers_5))) p1 p2 p3 x4 bg_fromHolding bg_fromOthers))) → X7 x4 bg_fromHolding bg_fromOthers) →
  ∀ y_1 : Int32, y_1 = ((p1 - p2) + p3) → X7 y_1 bg_fromHolding bg_fromOthers
abbrev rm_X0_greatestKept : Room := { frames := 2, cells := 0, slots := 0, locals := 55 }
set_option maxHeartbeats 4000000 in
set_option maxRecDepth 100000 in
theorem c_X0_greatestKept (l : Launch) (G : va_G) (K : ClassId × ClassId × ClassId) (tb q : Nat → Nat) (sz : Nat) (post : Int32 → (Nat → Int64) → (Nat → Int64) → Prop) (p1 : Int32) (p2 : Int32) (p3 : Int32) (bg_fromHolding : Nat → Int64) (bg_fromOthers : Nat → Int64) (hw : P_X0_greatestKept post p1 p2 p3 bg_fromHolding bg_fromOthers) : Met l yX0_greatestKept wsX0_greatestKept rm_X0_greatestKept (va_Pc [.ref (q 41), .int p1, .int p2, .int p3] (hPre G K tb [oX0 q, aJ K (q 42) 61 bg_fromHolding, aJ K (q 43) 61 bg_fromOthers] sz)) (va_Qi (fun (r : Int32) (u : (Nat → Int64) × (Nat → Int64)) => post r u.1 u.2) (fun u => hB G K (va_A [oX0 q, aJ K (q 42) 61 bg_fromHolding, aJ K (q 43) 61 bg_fromOthers] sz) [oX0 q, aJ K (q 42) 61 u.1, aJ K (q 43) 61 u.2]) (va_A [oX0 q, aJ K (q 42) 61 bg_fromHolding, aJ K (q 43) 61 bg_fromOthers] sz)) 0 0 (va_A [oX0 q, aJ K (q 42) 61 bg_fromHolding, aJ K (q 43) 61 bg_fromOthers] sz) := by
  refine hMet (fun A => va_Qi (fun (r : Int32) (u : (Nat → Int64) × (Nat → Int64)) => post r u.1 u.2) (fun u => hB G K A [oX0 q, aJ K (q 42) 61 u.1, aJ K (q 43) 61 u.2]) A) (by decide) rfl (Nat.le_of_ble_eq_true rfl) ?_
  intro p e s m av below meth c A Q ls hx hb hr hml hts hown hlocks hnm hA hP hK hD hS hE hQ hl
  have hts : ∀ w ∈ wsX0_greatestKept, w.before av s = true := hts
  have hown : s.vm.findClass RX0 = some m.cls := hown
  have hl : lv_has ls 5 [(0, .ref (q 41)), (1, .int p1), (2, .int p2), (3, .int p3)] := hl
  unfold P_X0_greatestKept at hw
  replace hw := hw (fun (x4 : Int32) (bg_fromHolding : Nat → Int64) (bg_fromOthers : Nat → Int64) => ∀ (H : Heap) (locs : List Loc) (ls : Array Slot), va_P G vwCl [oX0 q, aJ K (q 42) 61 bg_fromHolding, aJ K (q 43) 61 bg_fromOthers] H → va_D A [oX0 q, aJ K (q 42) 61 bg_fromHolding, aJ K (q 43) 61 bg_fromOthers] → va_S A s.heap H locs → lv_has ls 5 [(0, .ref (q 41)), (1, .int p1), (2, .int p2), (3, .int p3), (4, .int x4)] → W p l e rm_X0_greatestKept s m av below meth c H locs 0 0 Q (F0 m 7 ls []))
  replace hw := hw (by
    intro x4 bg_fromHolding bg_fromOthers hw H locs ls hP hD hS hl
    refine lv_iload (pc := 7) hx hb dX0_greatestKept_7 (lv_at hl 4 rfl) ?_
    refine lv_iload_n (pc := 9) hx hb dX0_greatestKept_9 rfl (lv_at hl 3 rfl) ?_
    refine lv_icmp_lt (pc := 10) (tgt := 34) hx hb dX0_greatestKept_10 (by decide) (fun c_2 => ?_) (fun c_2 => ?_)
    · replace hw := hw.1 c_2
      refine lv_bipush (pc := 34) (v := (-9 : Int32)) hx hb dX0_greatestKept_34 (by decide) ?_
      exact hRetI (S := (Nat → Int64) × (Nat → Int64)) (bg_fromHolding, bg_fromOthers) hx hb hr hlocks hQ hw hP hK hD hS dX0_greatestKept_36
    · replace hw := hw.2 c_2
      refine lv_aload_n (pc := 13) hx hb dX0_greatestKept_13 rfl (lv_at hl 0 rfl) ?_
      refine lv_iload_n (pc := 14) hx hb dX0_greatestKept_14 rfl (lv_at hl 1 rfl) ?_
      refine lv_iload_n (pc := 15) hx hb dX0_greatestKept_15 rfl (lv_at hl 2 rfl) ?_
      refine lv_iload_n (pc := 16) hx hb dX0_greatestKept_16 rfl (lv_at hl 3 rfl) ?_
      refine lv_iload (pc := 17) hx hb dX0_greatestKept_17 (lv_at hl 4 rfl) ?_
      refine hCallI (pc := 19) (wr := []) (wsf := fun (u : (Nat → Int64) × (Nat → Int64)) => [oX0 q, aJ K (q 42) 61 u.1, aJ K (q 43) 61 u.2]) [0, 1, 2] [] (va_runV (As := [.int p1, .int p2, .int p3, .int x4]) (rest := []) ⟨hx, hb, hml, hown, hts⟩ (c_X0_isDoubted l G K tb q H.size _ p1 p2 p3 x4 bg_fromHolding bg_fromOthers hw) (cwV 4 hts gX0_greatestKept_X0_isDoubted rfl rfl rfl (by decide +kernel) ⟨Nat.le_of_ble_eq_true rfl, Nat.le_of_ble_eq_true rfl⟩) (hPreV hE hP hK hD hS hA [0, 1, 2] (by decide) rfl rfl rfl rfl (q0 := 0) (ci := 0) rfl) rfl rfl hl.1 rfl (lv_room (Nat.le_of_ble_eq_true rfl)) dX0_greatestKept_19 ⟨Nat.zero_le _, Nat.zero_le _⟩) hP hD hS hA rfl rfl (by decide) (by decide) (fun r_3 u H locs hw hP hD hS => ?_)
      obtain ⟨bg_fromHolding_4, bg_fromOthers_5⟩ := u
      have hP : va_P G vwCl [oX0 q, aJ K (q 42) 61 bg_fromHolding_4, aJ K (q 43) 61 bg_fromOthers_5] H := hP.sub [0, 1, 2] rfl
      have hD : va_D A [oX0 q, aJ K (q 42) 61 bg_fromHolding_4, aJ K (q 43) 61 bg_fromOthers_5] := hD.sub [0, 1, 2] (by decide) rfl
      refine lv_if_ne (pc := 22) (tgt := 28) hx hb dX0_greatestKept_22 (by decide) (fun c_6 => ?_) (fun c_6 => ?_)
      · replace hw := hw.2 c_6
        obtain ⟨y_7, ey_7⟩ : ∃ z : Int32, z = (x4 + (-1 : Int32)) := ⟨_, rfl⟩
        replace hw := hw y_7 ey_7
        refine lv_iinc (pc := 28) (v := y_7) (lv' := [(4, .int y_7), (0, .ref (q 41)), (1, .int p1), (2, .int p2), (3, .int p3)]) hx hb dX0_greatestKept_28 hl (k := 4) rfl (by rw [ey_7]; rfl) (by decide) rfl (fun ls hl => ?_)
        refine lv_goto (pc := 31) (tgt := 7) hx hb dX0_greatestKept_31 (by decide) ?_
        exact hw _ _ _ hP hD hS (lv_sub hl [1, 2, 3, 4, 0] rfl)
      · replace hw := hw.1 c_6
        refine lv_iload (pc := 25) hx hb dX0_greatestKept_25 (lv_at hl 4 rfl) ?_
        exact hRetI (S := (Nat → Int64) × (Nat → Int64)) (bg_fromHolding_4, bg_fromOthers_5) hx hb hr hlocks hQ hw hP hK hD hS dX0_greatestKept_27)
  refine lv_iload_n (pc := 0) hx hb dX0_greatestKept_0 rfl (lv_at hl 1 rfl) ?_
  refine lv_iload_n (pc := 1) hx hb dX0_greatestKept_1 rfl (lv_at hl 2 rfl) ?_
  refine lv_isub (pc := 2) hx hb dX0_greatestKept_2 ?_
  refine lv_iload_n (pc := 3) hx hb dX0_greatestKept_3 rfl (lv_at hl 3 rfl) ?_
  refine lv_iadd (pc := 4) hx hb dX0_greatestKept_4 ?_
  refine lv_topi (fun y_1 ey_1 => ?_)
  replace hw := hw y_1 ey_1
  refine lv_istore (pc := 5) (lv' := [(4, .int y_1), (0, .ref (q 41)), (1, .int p1), (2, .int p2), (3, .int p3)]) hx hb dX0_greatestKept_5 hl (by decide) rfl (fun ls hl => ?_)
  exact hw _ _ _ hP hD hS (lv_sub hl [1, 2, 3, 4, 0] rfl)
def P_X0_leastKept (post : Int32 → (Nat → Int64) → (Nat → Int64) → Prop) (p1 : Int32) (p2 : Int32) (p3 : Int32) (bg_fromHolding : Nat → Int64) (bg_fromOthers : Nat → Int64) : Prop :=
  ∀ (X3 : Int32 → (Nat → Int64) → (Nat → Int64) → Prop),
  (∀ (x4 : Int32) (bg_fromHolding : Nat → Int64) (bg_fromOthers : Nat → Int64), (((((p1 - p2) + p3) < x4 → post (-9 : Int32) bg_fromHolding bg_fromOthers) ∧ (¬ ((p1 - p2) + p3) < x4 → P_X0_isDoubted (fun r_2 bg_fromHolding_3 bg_fromOthers_4 => ((r_2 = (0 : Int32) → post x4 bg_fromHolding_3 bg_fromOthers_4) ∧ (¬ r_2 = (0 : Int32) → ∀ y_6 : Int32, y_6 = (x4 + (1 : Int32)) → X3 y_6 bg_fromHolding_3 bg_fromOthers_4))) p1 p2 p3 x4 bg_fromHolding bg_fromOthers))) → X3 x4 bg_fromHolding bg_fromOthers) →
  X3 p3 bg_fromHolding bg_fromOthers
abbrev rm_X0_leastKept : Room := { frames := 2, cells := 0, slots := 0, locals := 55 }
set_option maxHeartbeats 4000000 in
set_option maxRecDepth 100000 in
theorem c_X0_leastKept (l : Launch) (G : va_G) (K : ClassId × ClassId × ClassId) (tb q : Nat → Nat) (sz : Nat) (post : Int32 → (Nat → Int64) → (Nat → Int64) → Prop) (p1 : Int32) (p2 : Int32) (p3 : Int32) (bg_fromHolding : Nat → Int64) (bg_fromOthers : Nat → Int64) (hw : P_X0_leastKept post p1 p2 p3 bg_fromHolding bg_fromOthers) : Met l yX0_leastKept wsX0_leastKept rm_X0_leastKept (va_Pc [.ref (q 41), .int p1, .int p2, .int p3] (hPre G K tb [oX0 q, aJ K (q 42) 61 bg_fromHolding, aJ K (q 43) 61 bg_fromOthers] sz)) (va_Qi (fun (r : Int32) (u : (Nat → Int64) × (Nat → Int64)) => post r u.1 u.2) (fun u => hB G K (va_A [oX0 q, aJ K (q 42) 61 bg_fromHolding, aJ K (q 43) 61 bg_fromOthers] sz) [oX0 q, aJ K (q 42) 61 u.1, aJ K (q 43) 61 u.2]) (va_A [oX0 q, aJ K (q 42) 61 bg_fromHolding, aJ K (q 43) 61 bg_fromOthers] sz)) 0 0 (va_A [oX0 q, aJ K (q 42) 61 bg_fromHolding, aJ K (q 43) 61 bg_fromOthers] sz) := by
  refine hMet (fun A => va_Qi (fun (r : Int32) (u : (Nat → Int64) × (Nat → Int64)) => post r u.1 u.2) (fun u => hB G K A [oX0 q, aJ K (q 42) 61 u.1, aJ K (q 43) 61 u.2]) A) (by decide) rfl (Nat.le_of_ble_eq_true rfl) ?_
  intro p e s m av below meth c A Q ls hx hb hr hml hts hown hlocks hnm hA hP hK hD hS hE hQ hl
  have hts : ∀ w ∈ wsX0_leastKept, w.before av s = true := hts
  have hown : s.vm.findClass RX0 = some m.cls := hown
  have hl : lv_has ls 5 [(0, .ref (q 41)), (1, .int p1), (2, .int p2), (3, .int p3)] := hl
  unfold P_X0_leastKept at hw
  replace hw := hw (fun (x4 : Int32) (bg_fromHolding : Nat → Int64) (bg_fromOthers : Nat → Int64) => ∀ (H : Heap) (locs : List Loc) (ls : Array Slot), va_P G vwCl [oX0 q, aJ K (q 42) 61 bg_fromHolding, aJ K (q 43) 61 bg_fromOthers] H → va_D A [oX0 q, aJ K (q 42) 61 bg_fromHolding, aJ K (q 43) 61 bg_fromOthers] → va_S A s.heap H locs → lv_has ls 5 [(0, .ref (q 41)), (1, .int p1), (2, .int p2), (3, .int p3), (4, .int x4)] → W p l e rm_X0_leastKept s m av below meth c H locs 0 0 Q (F0 m 3 ls []))
  replace hw := hw (by
    intro x4 bg_fromHolding bg_fromOthers hw H locs ls hP hD hS hl
    refine lv_iload (pc := 3) hx hb dX0_leastKept_3 (lv_at hl 4 rfl) ?_
    refine lv_iload_n (pc := 5) hx hb dX0_leastKept_5 rfl (lv_at hl 1 rfl) ?_
    refine lv_iload_n (pc := 6) hx hb dX0_leastKept_6 rfl (lv_at hl 2 rfl) ?_
    refine lv_isub (pc := 7) hx hb dX0_leastKept_7 ?_
    refine lv_iload_n (pc := 8) hx hb dX0_leastKept_8 rfl (lv_at hl 3 rfl) ?_
    refine lv_iadd (pc := 9) hx hb dX0_leastKept_9 ?_
    refine lv_icmp_gt (pc := 10) (tgt := 34) hx hb dX0_leastKept_10 (by decide) (fun c_1 => ?_) (fun c_1 => ?_)
    · replace hw := hw.1 c_1
      refine lv_bipush (pc := 34) (v := (-9 : Int32)) hx hb dX0_leastKept_34 (by decide) ?_
      exact hRetI (S := (Nat → Int64) × (Nat → Int64)) (bg_fromHolding, bg_fromOthers) hx hb hr hlocks hQ hw hP hK hD hS dX0_leastKept_36
    · replace hw := hw.2 c_1
      refine lv_aload_n (pc := 13) hx hb dX0_leastKept_13 rfl (lv_at hl 0 rfl) ?_
      refine lv_iload_n (pc := 14) hx hb dX0_leastKept_14 rfl (lv_at hl 1 rfl) ?_
      refine lv_iload_n (pc := 15) hx hb dX0_leastKept_15 rfl (lv_at hl 2 rfl) ?_
      refine lv_iload_n (pc := 16) hx hb dX0_leastKept_16 rfl (lv_at hl 3 rfl) ?_
      refine lv_iload (pc := 17) hx hb dX0_leastKept_17 (lv_at hl 4 rfl) ?_
      refine hCallI (pc := 19) (wr := []) (wsf := fun (u : (Nat → Int64) × (Nat → Int64)) => [oX0 q, aJ K (q 42) 61 u.1, aJ K (q 43) 61 u.2]) [0, 1, 2] [] (va_runV (As := [.int p1, .int p2, .int p3, .int x4]) (rest := []) ⟨hx, hb, hml, hown, hts⟩ (c_X0_isDoubted l G K tb q H.size _ p1 p2 p3 x4 bg_fromHolding bg_fromOthers hw) (cwV 4 hts gX0_leastKept_X0_isDoubted rfl rfl rfl (by decide +kernel) ⟨Nat.le_of_ble_eq_true rfl, Nat.le_of_ble_eq_true rfl⟩) (hPreV hE hP hK hD hS hA [0, 1, 2] (by decide) rfl rfl rfl rfl (q0 := 0) (ci := 0) rfl) rfl rfl hl.1 rfl (lv_room (Nat.le_of_ble_eq_true rfl)) dX0_leastKept_19 ⟨Nat.zero_le _, Nat.zero_le _⟩) hP hD hS hA rfl rfl (by decide) (by decide) (fun r_2 u H locs hw hP hD hS => ?_)
      obtain ⟨bg_fromHolding_3, bg_fromOthers_4⟩ := u
      have hP : va_P G vwCl [oX0 q, aJ K (q 42) 61 bg_fromHolding_3, aJ K (q 43) 61 bg_fromOthers_4] H := hP.sub [0, 1, 2] rfl
      have hD : va_D A [oX0 q, aJ K (q 42) 61 bg_fromHolding_3, aJ K (q 43) 61 bg_fromOthers_4] := hD.sub [0, 1, 2] (by decide) rfl
      refine lv_if_ne (pc := 22) (tgt := 28) hx hb dX0_leastKept_22 (by decide) (fun c_5 => ?_) (fun c_5 => ?_)
      · replace hw := hw.2 c_5
        obtain ⟨y_6, ey_6⟩ : ∃ z : Int32, z = (x4 + (1 : Int32)) := ⟨_, rfl⟩
        replace hw := hw y_6 ey_6
        refine lv_iinc (pc := 28) (v := y_6) (lv' := [(4, .int y_6), (0, .ref (q 41)), (1, .int p1), (2, .int p2), (3, .int p3)]) hx hb dX0_leastKept_28 hl (k := 4) rfl (by rw [ey_6]; rfl) (by decide) rfl (fun ls hl => ?_)
        refine lv_goto (pc := 31) (tgt := 3) hx hb dX0_leastKept_31 (by decide) ?_
        exact hw _ _ _ hP hD hS (lv_sub hl [1, 2, 3, 4, 0] rfl)
      · replace hw := hw.1 c_5
        refine lv_iload (pc := 25) hx hb dX0_leastKept_25 (lv_at hl 4 rfl) ?_
        exact hRetI (S := (Nat → Int64) × (Nat → Int64)) (bg_fromHolding_3, bg_fromOthers_4) hx hb hr hlocks hQ hw hP hK hD hS dX0_leastKept_27)
  refine lv_iload_n (pc := 0) hx hb dX0_leastKept_0 rfl (lv_at hl 3 rfl) ?_
  refine lv_istore (pc := 1) (lv' := [(4, .int p3), (0, .ref (q 41)), (1, .int p1), (2, .int p2), (3, .int p3)]) hx hb dX0_leastKept_1 hl (by decide) rfl (fun ls hl => ?_)
  exact hw _ _ _ hP hD hS (lv_sub hl [1, 2, 3, 4, 0] rfl)
def P_X1_add (post : Int32 → (Nat → Int32) → (Nat → Int32) → (Nat → Int32) → Int32 → Prop) (p1 : Int32) (p2 : Int32) (p3 : Int32) (br_night : Nat → Int32) (br_shift : Nat → Int32) (br_pieces : Nat → Int32) (br_size : Int32) : Prop :=
  vp_in br_size 60 ∧ ∀ br_night_2 : Nat → Int32, br_night_2 = upd br_night br_size.toNatClampNeg p1 → ∀ br_shift_3 : Nat → Int32, br_shift_3 = upd br_shift br_size.toNatClampNeg p2 → ∀ br_pieces_4 : Nat → Int32, br_pieces_4 = upd br_pieces br_size.toNatClampNeg p3 → ∀ y_5 : Int32, y_5 = (br_size + (1 : Int32)) → post y_5 br_night_2 br_shift_3 br_pieces_4 y_5
abbrev rm_X1_add : Room := { frames := 0, cells := 0, slots := 0, locals := 0 }
theorem iw_X1_add_X1 : ∀ w ∈ wsX10, w ∈ wsX1_add := by decide +kernel
set_option maxHeartbeats 4000000 in
set_option maxRecDepth 100000 in
theorem c_X1_add (l : Launch) (G : va_G) (K : ClassId × ClassId × ClassId) (tb q : Nat → Nat) (sz : Nat) (post : Int32 → (Nat → Int32) → (Nat → Int32) → (Nat → Int32) → Int32 → Prop) (p1 : Int32) (p2 : Int32) (p3 : Int32) (br_night : Nat → Int32) (br_shift : Nat → Int32) (br_pieces : Nat → Int32) (br_size : Int32) (hw : P_X1_add post p1 p2 p3 br_night br_shift br_pieces br_size) : Met l yX1_add wsX1_add rm_X1_add (va_Pc [.ref (q 44), .int p1, .int p2, .int p3] (hPre G K tb [oX1 q br_size, aI K (q 45) 60 br_night, aI K (q 46) 60 br_shift, aI K (q 47) 60 br_pieces] sz)) (va_Qi (fun (r : Int32) (u : (Nat → Int32) × (Nat → Int32) × (Nat → Int32) × Int32) => post r u.1 u.2.1 u.2.2.1 u.2.2.2) (fun u => hB G K (va_A [oX1 q br_size, aI K (q 45) 60 br_night, aI K (q 46) 60 br_shift, aI K (q 47) 60 br_pieces] sz) [oX1 q u.2.2.2, aI K (q 45) 60 u.1, aI K (q 46) 60 u.2.1, aI K (q 47) 60 u.2.2.1]) (va_A [oX1 q br_size, aI K (q 45) 60 br_night, aI K (q 46) 60 br_shift, aI K (q 47) 60 br_pieces] sz)) 0 0 (va_A [oX1 q br_size, aI K (q 45) 60 br_night, aI K (q 46) 60 br_shift, aI K (q 47) 60 br_pieces] sz) := by
  refine hMet (fun A => va_Qi (fun (r : Int32) (u : (Nat → Int32) × (Nat → Int32) × (Nat → Int32) × Int32) => post r u.1 u.2.1 u.2.2.1 u.2.2.2) (fun u => hB G K A [oX1 q u.2.2.2, aI K (q 45) 60 u.1, aI K (q 46) 60 u.2.1, aI K (q 47) 60 u.2.2.1]) A) (by decide) rfl (Nat.le_of_ble_eq_true rfl) ?_
  intro p e s m av below meth c A Q ls hx hb hr hml hts hown hlocks hnm hA hP hK hD hS hE hQ hl
  have hts : ∀ w ∈ wsX1_add, w.before av s = true := hts
  have hown : s.vm.findClass RX1 = some m.cls := hown
  have hl : lv_has ls 4 [(0, .ref (q 44)), (1, .int p1), (2, .int p2), (3, .int p3)] := hl
  unfold P_X1_add at hw
  refine lv_aload_n (pc := 0) hx hb dX1_add_0 rfl (lv_at hl 0 rfl) ?_
  refine va_get (pc := 1) (D := G) (ci := 1) (v := .ref (q 45)) (C := RX1) (T := TX1) (N := 4) hx hb hts iw_X1_add_X1 hown hK hP 0 rfl rfl 0 (by decide) (hts _ (List.mem_of_getElem? (i := 1) rfl)) (fun _ h9 => h9) rfl dX1_add_1 ?_
  refine lv_aload_n (pc := 4) hx hb dX1_add_4 rfl (lv_at hl 0 rfl) ?_
  refine va_get (pc := 5) (D := G) (ci := 1) (v := .int br_size) (C := RX1) (T := TX1) (N := 4) hx hb hts iw_X1_add_X1 hown hK hP 0 rfl rfl 3 (by decide) (hts _ (List.mem_of_getElem? (i := 2) rfl)) (fun _ h9 => h9) rfl dX1_add_5 ?_
  refine lv_iload_n (pc := 8) hx hb dX1_add_8 rfl (lv_at hl 1 rfl) ?_
  obtain ⟨h_1, hw⟩ := hw
  refine va_iast (pc := 9) hx hb hK hP hD hS 1 0 rfl rfl h_1 dX1_add_9 (fun H locs hP hD hS => ?_)
  obtain ⟨br_night_2, ebr_night_2⟩ : ∃ z : Nat → Int32, z = upd br_night br_size.toNatClampNeg p1 := ⟨_, rfl⟩
  have hP : va_P G vwCl [oX1 q br_size, aI K (q 45) 60 br_night_2, aI K (q 46) 60 br_shift, aI K (q 47) 60 br_pieces] H := by rw [ebr_night_2]; exact hP
  have hD : va_D A [oX1 q br_size, aI K (q 45) 60 br_night_2, aI K (q 46) 60 br_shift, aI K (q 47) 60 br_pieces] := by rw [ebr_night_2]; exact hD
  replace hw := hw br_night_2 ebr_night_2
  refine lv_aload_n (pc := 10) hx hb dX1_add_10 rfl (lv_at hl 0 rfl) ?_
  refine va_get (pc := 11) (D := G) (ci := 1) (v := .ref (q 46)) (C := RX1) (T := TX1) (N := 4) hx hb hts iw_X1_add_X1 hown hK hP 0 rfl rfl 1 (by decide) (hts _ (List.mem_of_getElem? (i := 3) rfl)) (fun _ h9 => h9) rfl dX1_add_11 ?_
  refine lv_aload_n (pc := 14) hx hb dX1_add_14 rfl (lv_at hl 0 rfl) ?_
  refine va_get (pc := 15) (D := G) (ci := 1) (v := .int br_size) (C := RX1) (T := TX1) (N := 4) hx hb hts iw_X1_add_X1 hown hK hP 0 rfl rfl 3 (by decide) (hts _ (List.mem_of_getElem? (i := 2) rfl)) (fun _ h9 => h9) rfl dX1_add_15 ?_
  refine lv_iload_n (pc := 18) hx hb dX1_add_18 rfl (lv_at hl 2 rfl) ?_
  refine va_iast (pc := 19) hx hb hK hP hD hS 2 0 rfl rfl h_1 dX1_add_19 (fun H locs hP hD hS => ?_)
  obtain ⟨br_shift_3, ebr_shift_3⟩ : ∃ z : Nat → Int32, z = upd br_shift br_size.toNatClampNeg p2 := ⟨_, rfl⟩
  have hP : va_P G vwCl [oX1 q br_size, aI K (q 45) 60 br_night_2, aI K (q 46) 60 br_shift_3, aI K (q 47) 60 br_pieces] H := by rw [ebr_shift_3]; exact hP
  have hD : va_D A [oX1 q br_size, aI K (q 45) 60 br_night_2, aI K (q 46) 60 br_shift_3, aI K (q 47) 60 br_pieces] := by rw [ebr_shift_3]; exact hD
  replace hw := hw br_shift_3 ebr_shift_3
  refine lv_aload_n (pc := 20) hx hb dX1_add_20 rfl (lv_at hl 0 rfl) ?_
  refine va_get (pc := 21) (D := G) (ci := 1) (v := .ref (q 47)) (C := RX1) (T := TX1) (N := 4) hx hb hts iw_X1_add_X1 hown hK hP 0 rfl rfl 2 (by decide) (hts _ (List.mem_of_getElem? (i := 4) rfl)) (fun _ h9 => h9) rfl dX1_add_21 ?_
  refine lv_aload_n (pc := 24) hx hb dX1_add_24 rfl (lv_at hl 0 rfl) ?_
  refine va_get (pc := 25) (D := G) (ci := 1) (v := .int br_size) (C := RX1) (T := TX1) (N := 4) hx hb hts iw_X1_add_X1 hown hK hP 0 rfl rfl 3 (by decide) (hts _ (List.mem_of_getElem? (i := 2) rfl)) (fun _ h9 => h9) rfl dX1_add_25 ?_
  refine lv_iload_n (pc := 28) hx hb dX1_add_28 rfl (lv_at hl 3 rfl) ?_
  refine va_iast (pc := 29) hx hb hK hP hD hS 3 0 rfl rfl h_1 dX1_add_29 (fun H locs hP hD hS => ?_)
  obtain ⟨br_pieces_4, ebr_pieces_4⟩ : ∃ z : Nat → Int32, z = upd br_pieces br_size.toNatClampNeg p3 := ⟨_, rfl⟩
  have hP : va_P G vwCl [oX1 q br_size, aI K (q 45) 60 br_night_2, aI K (q 46) 60 br_shift_3, aI K (q 47) 60 br_pieces_4] H := by rw [ebr_pieces_4]; exact hP
  have hD : va_D A [oX1 q br_size, aI K (q 45) 60 br_night_2, aI K (q 46) 60 br_shift_3, aI K (q 47) 60 br_pieces_4] := by rw [ebr_pieces_4]; exact hD
  replace hw := hw br_pieces_4 ebr_pieces_4
  refine lv_aload_n (pc := 30) hx hb dX1_add_30 rfl (lv_at hl 0 rfl) ?_
  refine lv_dup (pc := 31) hx hb dX1_add_31 rfl ?_
  refine va_get (pc := 32) (D := G) (ci := 1) (v := .int br_size) (C := RX1) (T := TX1) (N := 4) hx hb hts iw_X1_add_X1 hown hK hP 0 rfl rfl 3 (by decide) (hts _ (List.mem_of_getElem? (i := 2) rfl)) (fun _ h9 => h9) rfl dX1_add_32 ?_
  refine lv_iconst (pc := 35) (v := (1 : Int32)) hx hb dX1_add_35 (by decide) ?_
  refine lv_iadd (pc := 36) hx hb dX1_add_36 ?_
  refine lv_topi (fun y_5 ey_5 => ?_)
  replace hw := hw y_5 ey_5
  refine va_put (pc := 37) (D := G) (ci := 1) (v := .int y_5) (ty := .int) (C := RX1) (T := TX1) (N := 4) hx hb hts iw_X1_add_X1 tyX1 tyX1_ok nmX1 hown hK hP hD hS 0 rfl rfl 3 (by decide) (hts _ (List.mem_of_getElem? (i := 2) rfl)) (fun _ h9 => h9) rfl (by decide +kernel) rfl rfl (Nat.le_of_ble_eq_true rfl) dX1_add_37 (fun H locs hP hD hS => ?_)
  have hP : va_P G vwCl [oX1 q y_5, aI K (q 45) 60 br_night_2, aI K (q 46) 60 br_shift_3, aI K (q 47) 60 br_pieces_4] H := hP
  have hD : va_D A [oX1 q y_5, aI K (q 45) 60 br_night_2, aI K (q 46) 60 br_shift_3, aI K (q 47) 60 br_pieces_4] := hD
  refine lv_aload_n (pc := 40) hx hb dX1_add_40 rfl (lv_at hl 0 rfl) ?_
  refine va_get (pc := 41) (D := G) (ci := 1) (v := .int y_5) (C := RX1) (T := TX1) (N := 4) hx hb hts iw_X1_add_X1 hown hK hP 0 rfl rfl 3 (by decide) (hts _ (List.mem_of_getElem? (i := 2) rfl)) (fun _ h9 => h9) rfl dX1_add_41 ?_
  exact hRetI (S := (Nat → Int32) × (Nat → Int32) × (Nat → Int32) × Int32) (br_night_2, br_shift_3, br_pieces_4, y_5) hx hb hr hlocks hQ hw hP hK hD hS dX1_add_44
def P_X1_isFirstOfNight (post : Int32 → Prop) (p1 : Int32) (br_night : Nat → Int32) (br_shift : Nat → Int32) : Prop :=
  ∀ (X2 : Int32 → Prop),
  (∀ (x2 : Int32), (((p1 ≤ x2 → post (1 : Int32)) ∧ (¬ p1 ≤ x2 → vp_in x2 60 ∧ vp_in p1 60 ∧ (((br_shift x2.toNatClampNeg) = (br_shift p1.toNatClampNeg) → (((br_night x2.toNatClampNeg) = (br_night p1.toNatClampNeg) → post (0 : Int32)) ∧ (¬ (br_night x2.toNatClampNeg) = (br_night p1.toNatClampNeg) → ∀ y_7 : Int32, y_7 = (x2 + (1 : Int32)) → X2 y_7))) ∧ (¬ (br_shift x2.toNatClampNeg) = (br_shift p1.toNatClampNeg) → ∀ y_5 : Int32, y_5 = (x2 + (1 : Int32)) → X2 y_5))))) → X2 x2) →
  X2 (0 : Int32)
abbrev rm_X1_isFirstOfNight : Room := { frames := 0, cells := 0, slots := 0, locals := 0 }
theorem iw_X1_isFirstOfNight_X1 : ∀ w ∈ wsX10, w ∈ wsX1_isFirstOfNight := by decide +kernel
set_option maxHeartbeats 4000000 in
set_option maxRecDepth 100000 in
theorem c_X1_isFirstOfNight (l : Launch) (G : va_G) (K : ClassId × ClassId × ClassId) (tb q : Nat → Nat) (sz : Nat) (br_size : Int32) (post : Int32 → Prop) (p1 : Int32) (br_night : Nat → Int32) (br_shift : Nat → Int32) (hw : P_X1_isFirstOfNight post p1 br_night br_shift) : Met l yX1_isFirstOfNight wsX1_isFirstOfNight rm_X1_isFirstOfNight (va_Pc [.ref (q 44), .int p1] (hPre G K tb [oX1 q br_size, aI K (q 45) 60 br_night, aI K (q 46) 60 br_shift] sz)) (va_Qi (fun (r : Int32) (u : Unit) => post r) (fun u => hB G K (va_A [oX1 q br_size, aI K (q 45) 60 br_night, aI K (q 46) 60 br_shift] sz) [oX1 q br_size, aI K (q 45) 60 br_night, aI K (q 46) 60 br_shift]) (va_A [oX1 q br_size, aI K (q 45) 60 br_night, aI K (q 46) 60 br_shift] sz)) 0 0 (va_A [oX1 q br_size, aI K (q 45) 60 br_night, aI K (q 46) 60 br_shift] sz) := by
  refine hMet (fun A => va_Qi (fun (r : Int32) (u : Unit) => post r) (fun u => hB G K A [oX1 q br_size, aI K (q 45) 60 br_night, aI K (q 46) 60 br_shift]) A) (by decide) rfl (Nat.le_of_ble_eq_true rfl) ?_
  intro p e s m av below meth c A Q ls hx hb hr hml hts hown hlocks hnm hA hP hK hD hS hE hQ hl
  have hts : ∀ w ∈ wsX1_isFirstOfNight, w.before av s = true := hts
  have hown : s.vm.findClass RX1 = some m.cls := hown
  have hl : lv_has ls 3 [(0, .ref (q 44)), (1, .int p1)] := hl
  unfold P_X1_isFirstOfNight at hw
  replace hw := hw (fun (x2 : Int32) => ∀ (H : Heap) (locs : List Loc) (ls : Array Slot), va_P G vwCl [oX1 q br_size, aI K (q 45) 60 br_night, aI K (q 46) 60 br_shift] H → va_D A [oX1 q br_size, aI K (q 45) 60 br_night, aI K (q 46) 60 br_shift] → va_S A s.heap H locs → lv_has ls 3 [(0, .ref (q 44)), (1, .int p1), (2, .int x2)] → W p l e rm_X1_isFirstOfNight s m av below meth c H locs 0 0 Q (F0 m 2 ls []))
  replace hw := hw (by
    intro x2 hw H locs ls hP hD hS hl
    refine lv_iload_n (pc := 2) hx hb dX1_isFirstOfNight_2 rfl (lv_at hl 2 rfl) ?_
    refine lv_iload_n (pc := 3) hx hb dX1_isFirstOfNight_3 rfl (lv_at hl 1 rfl) ?_
    refine lv_icmp_ge (pc := 4) (tgt := 45) hx hb dX1_isFirstOfNight_4 (by decide) (fun c_1 => ?_) (fun c_1 => ?_)
    · replace hw := hw.1 c_1
      refine lv_iconst (pc := 45) (v := (1 : Int32)) hx hb dX1_isFirstOfNight_45 (by decide) ?_
      exact hRetZ (S := Unit) () hx hb hr hlocks hQ (Or.inr rfl) hw hP hK hD hS dX1_isFirstOfNight_46
    · replace hw := hw.2 c_1
      refine lv_aload_n (pc := 7) hx hb dX1_isFirstOfNight_7 rfl (lv_at hl 0 rfl) ?_
      refine va_get (pc := 8) (D := G) (ci := 1) (v := .ref (q 46)) (C := RX1) (T := TX1) (N := 4) hx hb hts iw_X1_isFirstOfNight_X1 hown hK hP 0 rfl rfl 1 (by decide) (hts _ (List.mem_of_getElem? (i := 1) rfl)) (fun _ h9 => h9) rfl dX1_isFirstOfNight_8 ?_
      refine lv_iload_n (pc := 11) hx hb dX1_isFirstOfNight_11 rfl (lv_at hl 2 rfl) ?_
      obtain ⟨h_2, hw⟩ := hw
      refine va_iald (pc := 12) hx hb hK hP 2 0 rfl rfl h_2 dX1_isFirstOfNight_12 ?_
      refine lv_aload_n (pc := 13) hx hb dX1_isFirstOfNight_13 rfl (lv_at hl 0 rfl) ?_
      refine va_get (pc := 14) (D := G) (ci := 1) (v := .ref (q 46)) (C := RX1) (T := TX1) (N := 4) hx hb hts iw_X1_isFirstOfNight_X1 hown hK hP 0 rfl rfl 1 (by decide) (hts _ (List.mem_of_getElem? (i := 1) rfl)) (fun _ h9 => h9) rfl dX1_isFirstOfNight_14 ?_
      refine lv_iload_n (pc := 17) hx hb dX1_isFirstOfNight_17 rfl (lv_at hl 1 rfl) ?_
      obtain ⟨h_3, hw⟩ := hw
      refine va_iald (pc := 18) hx hb hK hP 2 0 rfl rfl h_3 dX1_isFirstOfNight_18 ?_
      refine lv_icmp_ne (pc := 19) (tgt := 39) hx hb dX1_isFirstOfNight_19 (by decide) (fun c_4 => ?_) (fun c_4 => ?_)
      · replace hw := hw.2 c_4
        obtain ⟨y_5, ey_5⟩ : ∃ z : Int32, z = (x2 + (1 : Int32)) := ⟨_, rfl⟩
        replace hw := hw y_5 ey_5
        refine lv_iinc (pc := 39) (v := y_5) (lv' := [(2, .int y_5), (0, .ref (q 44)), (1, .int p1)]) hx hb dX1_isFirstOfNight_39 hl (k := 2) rfl (by rw [ey_5]; rfl) (by decide) rfl (fun ls hl => ?_)
        refine lv_goto (pc := 42) (tgt := 2) hx hb dX1_isFirstOfNight_42 (by decide) ?_
        exact hw _ _ _ hP hD hS (lv_sub hl [1, 2, 0] rfl)
      · replace hw := hw.1 c_4
        refine lv_aload_n (pc := 22) hx hb dX1_isFirstOfNight_22 rfl (lv_at hl 0 rfl) ?_
        refine va_get (pc := 23) (D := G) (ci := 1) (v := .ref (q 45)) (C := RX1) (T := TX1) (N := 4) hx hb hts iw_X1_isFirstOfNight_X1 hown hK hP 0 rfl rfl 0 (by decide) (hts _ (List.mem_of_getElem? (i := 2) rfl)) (fun _ h9 => h9) rfl dX1_isFirstOfNight_23 ?_
        refine lv_iload_n (pc := 26) hx hb dX1_isFirstOfNight_26 rfl (lv_at hl 2 rfl) ?_
        refine va_iald (pc := 27) hx hb hK hP 1 0 rfl rfl h_2 dX1_isFirstOfNight_27 ?_
        refine lv_aload_n (pc := 28) hx hb dX1_isFirstOfNight_28 rfl (lv_at hl 0 rfl) ?_
        refine va_get (pc := 29) (D := G) (ci := 1) (v := .ref (q 45)) (C := RX1) (T := TX1) (N := 4) hx hb hts iw_X1_isFirstOfNight_X1 hown hK hP 0 rfl rfl 0 (by decide) (hts _ (List.mem_of_getElem? (i := 2) rfl)) (fun _ h9 => h9) rfl dX1_isFirstOfNight_29 ?_
        refine lv_iload_n (pc := 32) hx hb dX1_isFirstOfNight_32 rfl (lv_at hl 1 rfl) ?_
        refine va_iald (pc := 33) hx hb hK hP 1 0 rfl rfl h_3 dX1_isFirstOfNight_33 ?_
        refine lv_icmp_ne (pc := 34) (tgt := 39) hx hb dX1_isFirstOfNight_34 (by decide) (fun c_6 => ?_) (fun c_6 => ?_)
        · replace hw := hw.2 c_6
          obtain ⟨y_7, ey_7⟩ : ∃ z : Int32, z = (x2 + (1 : Int32)) := ⟨_, rfl⟩
          replace hw := hw y_7 ey_7
          refine lv_iinc (pc := 39) (v := y_7) (lv' := [(2, .int y_7), (0, .ref (q 44)), (1, .int p1)]) hx hb dX1_isFirstOfNight_39 hl (k := 2) rfl (by rw [ey_7]; rfl) (by decide) rfl (fun ls hl => ?_)
          refine lv_goto (pc := 42) (tgt := 2) hx hb dX1_isFirstOfNight_42 (by decide) ?_
          exact hw _ _ _ hP hD hS (lv_sub hl [1, 2, 0] rfl)
        · replace hw := hw.1 c_6
          refine lv_iconst (pc := 37) (v := (0 : Int32)) hx hb dX1_isFirstOfNight_37 (by decide) ?_
          exact hRetZ (S := Unit) () hx hb hr hlocks hQ (Or.inl rfl) hw hP hK hD hS dX1_isFirstOfNight_38)
  refine lv_iconst (pc := 0) (v := (0 : Int32)) hx hb dX1_isFirstOfNight_0 (by decide) ?_
  refine lv_istore_n (pc := 1) (lv' := [(2, .int (0 : Int32)), (0, .ref (q 44)), (1, .int p1)]) hx hb dX1_isFirstOfNight_1 rfl hl (by decide) rfl (fun ls hl => ?_)
  exact hw _ _ _ hP hD hS (lv_sub hl [1, 2, 0] rfl)
def P_X1_tell (post : Int32 → Prop) (p1 : Int32) (p2 : Int32) (p3 : Int32) (br_night : Nat → Int32) (br_shift : Nat → Int32) (br_pieces : Nat → Int32) (br_size : Int32) : Prop :=
  ∀ (X9 : Int32 → Int32 → Int32 → Prop),
  (∀ (x4 : Int32) (x5 : Int32) (x6 : Int32), (((br_size ≤ x6 → ∀ v_3 : Int32, v_3 = (if x5 < (3 : Int32) then (-9 : Int32) else x4) → post v_3) ∧ (¬ br_size ≤ x6 → vp_in x6 60 ∧ (((br_shift x6.toNatClampNeg) = p1 → P_X10_within (fun r_7 => ((r_7 = (0 : Int32) → ∀ y_9 : Int32, y_9 = (x6 + (1 : Int32)) → X9 x4 x5 y_9) ∧ (¬ r_7 = (0 : Int32) → ∀ y_10 : Int32, y_10 = (x4 + (br_pieces x6.toNatClampNeg)) → P_X1_isFirstOfNight (fun r_11 => ∀ v_13 : Int32, v_13 = (if r_11 = (0 : Int32) then (0 : Int32) else (1 : Int32)) → ∀ y_14 : Int32, y_14 = (x5 + v_13) → ∀ y_15 : Int32, y_15 = (x6 + (1 : Int32)) → X9 y_10 y_14 y_15) x6 br_night br_shift))) (br_night x6.toNatClampNeg) p2 p3) ∧ (¬ (br_shift x6.toNatClampNeg) = p1 → ∀ y_6 : Int32, y_6 = (x6 + (1 : Int32)) → X9 x4 x5 y_6))))) → X9 x4 x5 x6) →
  X9 (0 : Int32) (0 : Int32) (0 : Int32)
abbrev rm_X1_tell : Room := { frames := 1, cells := 0, slots := 0, locals := 22 }
theorem iw_X1_tell_X1 : ∀ w ∈ wsX10, w ∈ wsX1_tell := by decide +kernel
set_option maxHeartbeats 4000000 in
set_option maxRecDepth 100000 in
theorem c_X1_tell (l : Launch) (G : va_G) (K : ClassId × ClassId × ClassId) (tb q : Nat → Nat) (sz : Nat) (post : Int32 → Prop) (p1 : Int32) (p2 : Int32) (p3 : Int32) (br_night : Nat → Int32) (br_shift : Nat → Int32) (br_pieces : Nat → Int32) (br_size : Int32) (hw : P_X1_tell post p1 p2 p3 br_night br_shift br_pieces br_size) : Met l yX1_tell wsX1_tell rm_X1_tell (va_Pc [.ref (q 44), .int p1, .int p2, .int p3] (hPre G K tb [oX1 q br_size, aI K (q 45) 60 br_night, aI K (q 46) 60 br_shift, aI K (q 47) 60 br_pieces] sz)) (va_Qi (fun (r : Int32) (u : Unit) => post r) (fun u => hB G K (va_A [oX1 q br_size, aI K (q 45) 60 br_night, aI K (q 46) 60 br_shift, aI K (q 47) 60 br_pieces] sz) [oX1 q br_size, aI K (q 45) 60 br_night, aI K (q 46) 60 br_shift, aI K (q 47) 60 br_pieces]) (va_A [oX1 q br_size, aI K (q 45) 60 br_night, aI K (q 46) 60 br_shift, aI K (q 47) 60 br_pieces] sz)) 0 0 (va_A [oX1 q br_size, aI K (q 45) 60 br_night, aI K (q 46) 60 br_shift, aI K (q 47) 60 br_pieces] sz) := by
  refine hMet (fun A => va_Qi (fun (r : Int32) (u : Unit) => post r) (fun u => hB G K A [oX1 q br_size, aI K (q 45) 60 br_night, aI K (q 46) 60 br_shift, aI K (q 47) 60 br_pieces]) A) (by decide) rfl (Nat.le_of_ble_eq_true rfl) ?_
  intro p e s m av below meth c A Q ls hx hb hr hml hts hown hlocks hnm hA hP hK hD hS hE hQ hl
  have hts : ∀ w ∈ wsX1_tell, w.before av s = true := hts
  have hown : s.vm.findClass RX1 = some m.cls := hown
  have hl : lv_has ls 7 [(0, .ref (q 44)), (1, .int p1), (2, .int p2), (3, .int p3)] := hl
  unfold P_X1_tell at hw
  replace hw := hw (fun (x4 : Int32) (x5 : Int32) (x6 : Int32) => ∀ (H : Heap) (locs : List Loc) (ls : Array Slot), va_P G vwCl [oX1 q br_size, aI K (q 45) 60 br_night, aI K (q 46) 60 br_shift, aI K (q 47) 60 br_pieces] H → va_D A [oX1 q br_size, aI K (q 45) 60 br_night, aI K (q 46) 60 br_shift, aI K (q 47) 60 br_pieces] → va_S A s.heap H locs → lv_has ls 7 [(0, .ref (q 44)), (1, .int p1), (2, .int p2), (3, .int p3), (4, .int x4), (5, .int x5), (6, .int x6)] → W p l e rm_X1_tell s m av below meth c H locs 0 0 Q (F0 m 9 ls []))
  replace hw := hw (by
    intro x4 x5 x6 hw H locs ls hP hD hS hl
    refine lv_iload (pc := 9) hx hb dX1_tell_9 (lv_at hl 6 rfl) ?_
    refine lv_aload_n (pc := 11) hx hb dX1_tell_11 rfl (lv_at hl 0 rfl) ?_
    refine va_get (pc := 12) (D := G) (ci := 1) (v := .int br_size) (C := RX1) (T := TX1) (N := 4) hx hb hts iw_X1_tell_X1 hown hK hP 0 rfl rfl 3 (by decide) (hts _ (List.mem_of_getElem? (i := 1) rfl)) (fun _ h9 => h9) rfl dX1_tell_12 ?_
    refine lv_icmp_ge (pc := 15) (tgt := 81) hx hb dX1_tell_15 (by decide) (fun c_1 => ?_) (fun c_1 => ?_)
    · replace hw := hw.1 c_1
      refine lv_iload (pc := 81) hx hb dX1_tell_81 (lv_at hl 5 rfl) ?_
      refine lv_iconst (pc := 83) (v := (3 : Int32)) hx hb dX1_tell_83 (by decide) ?_
      have K_v_3 : ∀ v_3 : Int32, v_3 = (if x5 < (3 : Int32) then (-9 : Int32) else x4) → W p l e rm_X1_tell s m av below meth c H locs 0 0 Q (F0 m 94 ls [.int v_3]) := by
        intro v_3 ev_3
        replace hw := hw v_3 ev_3
        exact hRetI (S := Unit) () hx hb hr hlocks hQ hw hP hK hD hS dX1_tell_94
      refine lv_icmp_lt (pc := 84) (tgt := 92) hx hb dX1_tell_84 (by decide) (fun c_2 => ?_) (fun c_2 => ?_)
      · skip
        refine lv_bipush (pc := 92) (v := (-9 : Int32)) hx hb dX1_tell_92 (by decide) ?_
        exact K_v_3 _ (by rw [if_pos c_2])
      · skip
        refine lv_iload (pc := 87) hx hb dX1_tell_87 (lv_at hl 4 rfl) ?_
        refine lv_goto (pc := 89) (tgt := 94) hx hb dX1_tell_89 (by decide) ?_
        exact K_v_3 _ (by rw [if_neg c_2])
    · replace hw := hw.2 c_1
      refine lv_aload_n (pc := 18) hx hb dX1_tell_18 rfl (lv_at hl 0 rfl) ?_
      refine va_get (pc := 19) (D := G) (ci := 1) (v := .ref (q 46)) (C := RX1) (T := TX1) (N := 4) hx hb hts iw_X1_tell_X1 hown hK hP 0 rfl rfl 1 (by decide) (hts _ (List.mem_of_getElem? (i := 2) rfl)) (fun _ h9 => h9) rfl dX1_tell_19 ?_
      refine lv_iload (pc := 22) hx hb dX1_tell_22 (lv_at hl 6 rfl) ?_
      obtain ⟨h_4, hw⟩ := hw
      refine va_iald (pc := 24) hx hb hK hP 2 0 rfl rfl h_4 dX1_tell_24 ?_
      refine lv_iload_n (pc := 25) hx hb dX1_tell_25 rfl (lv_at hl 1 rfl) ?_
      refine lv_icmp_ne (pc := 26) (tgt := 75) hx hb dX1_tell_26 (by decide) (fun c_5 => ?_) (fun c_5 => ?_)
      · replace hw := hw.2 c_5
        obtain ⟨y_6, ey_6⟩ : ∃ z : Int32, z = (x6 + (1 : Int32)) := ⟨_, rfl⟩
        replace hw := hw y_6 ey_6
        refine lv_iinc (pc := 75) (v := y_6) (lv' := [(6, .int y_6), (0, .ref (q 44)), (1, .int p1), (2, .int p2), (3, .int p3), (4, .int x4), (5, .int x5)]) hx hb dX1_tell_75 hl (k := 6) rfl (by rw [ey_6]; rfl) (by decide) rfl (fun ls hl => ?_)
        refine lv_goto (pc := 78) (tgt := 9) hx hb dX1_tell_78 (by decide) ?_
        exact hw _ _ _ hP hD hS (lv_sub hl [1, 2, 3, 4, 5, 6, 0] rfl)
      · replace hw := hw.1 c_5
        refine lv_aload_n (pc := 29) hx hb dX1_tell_29 rfl (lv_at hl 0 rfl) ?_
        refine va_get (pc := 30) (D := G) (ci := 1) (v := .ref (q 45)) (C := RX1) (T := TX1) (N := 4) hx hb hts iw_X1_tell_X1 hown hK hP 0 rfl rfl 0 (by decide) (hts _ (List.mem_of_getElem? (i := 3) rfl)) (fun _ h9 => h9) rfl dX1_tell_30 ?_
        refine lv_iload (pc := 33) hx hb dX1_tell_33 (lv_at hl 6 rfl) ?_
        refine va_iald (pc := 35) hx hb hK hP 1 0 rfl rfl h_4 dX1_tell_35 ?_
        refine lv_iload_n (pc := 36) hx hb dX1_tell_36 rfl (lv_at hl 2 rfl) ?_
        refine lv_iload_n (pc := 37) hx hb dX1_tell_37 rfl (lv_at hl 3 rfl) ?_
        refine hCallI (pc := 38) (wr := [oX1 q br_size, aI K (q 45) 60 br_night, aI K (q 46) 60 br_shift, aI K (q 47) 60 br_pieces]) (wsf := fun (u : Unit) => []) [] [0, 1, 2, 3] (va_runSN (As := [.int (br_night x6.toNatClampNeg), .int p2, .int p3]) (rest := []) ⟨hx, hb, hml, hown, hts⟩ (c_X10_within l G K tb q H.size _ (br_night x6.toNatClampNeg) p2 p3 hw) ⟨va_cnB 3 hts gX1_tell_X10_within_n25 rfl rfl rfl (hE.nw 73 rfl) (hts _ (List.mem_of_getElem? (i := 6) rfl)) (by decide +kernel) ⟨Nat.le_of_ble_eq_true rfl, Nat.le_of_ble_eq_true rfl⟩, (hts _ (List.mem_of_getElem? (i := 5) rfl)), trivial⟩ (hPreS hE hP hK hD hS hA [] (by decide) rfl rfl) rfl rfl hl.1 rfl (lv_room (Nat.le_of_ble_eq_true rfl)) dX1_tell_38 ⟨Nat.zero_le _, Nat.zero_le _⟩) hP hD hS hA rfl rfl (by decide) (by decide) (fun r_7 u H locs hw hP hD hS => ?_)
        have hP : va_P G vwCl [oX1 q br_size, aI K (q 45) 60 br_night, aI K (q 46) 60 br_shift, aI K (q 47) 60 br_pieces] H := hP.sub [0, 1, 2, 3] rfl
        have hD : va_D A [oX1 q br_size, aI K (q 45) 60 br_night, aI K (q 46) 60 br_shift, aI K (q 47) 60 br_pieces] := hD.sub [0, 1, 2, 3] (by decide) rfl
        refine lv_if_eq (pc := 41) (tgt := 75) hx hb dX1_tell_41 (by decide) (fun c_8 => ?_) (fun c_8 => ?_)
        · replace hw := hw.1 c_8
          obtain ⟨y_9, ey_9⟩ : ∃ z : Int32, z = (x6 + (1 : Int32)) := ⟨_, rfl⟩
          replace hw := hw y_9 ey_9
          refine lv_iinc (pc := 75) (v := y_9) (lv' := [(6, .int y_9), (0, .ref (q 44)), (1, .int p1), (2, .int p2), (3, .int p3), (4, .int x4), (5, .int x5)]) hx hb dX1_tell_75 hl (k := 6) rfl (by rw [ey_9]; rfl) (by decide) rfl (fun ls hl => ?_)
          refine lv_goto (pc := 78) (tgt := 9) hx hb dX1_tell_78 (by decide) ?_
          exact hw _ _ _ hP hD hS (lv_sub hl [1, 2, 3, 4, 5, 6, 0] rfl)
        · replace hw := hw.2 c_8
          refine lv_iload (pc := 44) hx hb dX1_tell_44 (lv_at hl 4 rfl) ?_
          refine lv_aload_n (pc := 46) hx hb dX1_tell_46 rfl (lv_at hl 0 rfl) ?_
          refine va_get (pc := 47) (D := G) (ci := 1) (v := .ref (q 47)) (C := RX1) (T := TX1) (N := 4) hx hb hts iw_X1_tell_X1 hown hK hP 0 rfl rfl 2 (by decide) (hts _ (List.mem_of_getElem? (i := 4) rfl)) (fun _ h9 => h9) rfl dX1_tell_47 ?_
          refine lv_iload (pc := 50) hx hb dX1_tell_50 (lv_at hl 6 rfl) ?_
          refine va_iald (pc := 52) hx hb hK hP 3 0 rfl rfl h_4 dX1_tell_52 ?_
          refine lv_iadd (pc := 53) hx hb dX1_tell_53 ?_
          refine lv_topi (fun y_10 ey_10 => ?_)
          replace hw := hw y_10 ey_10
          refine lv_istore (pc := 54) (lv' := [(4, .int y_10), (0, .ref (q 44)), (1, .int p1), (2, .int p2), (3, .int p3), (5, .int x5), (6, .int x6)]) hx hb dX1_tell_54 hl (by decide) rfl (fun ls hl => ?_)
          refine lv_iload (pc := 56) hx hb dX1_tell_56 (lv_at hl 5 rfl) ?_
          refine lv_aload_n (pc := 58) hx hb dX1_tell_58 rfl (lv_at hl 1 rfl) ?_
          refine lv_iload (pc := 59) hx hb dX1_tell_59 (lv_at hl 6 rfl) ?_
          refine hCallI (pc := 61) (wr := [aI K (q 47) 60 br_pieces]) (wsf := fun (u : Unit) => [oX1 q br_size, aI K (q 45) 60 br_night, aI K (q 46) 60 br_shift]) [0, 1, 2] [3] (va_runV (As := [.int x6]) (rest := [.int x5]) ⟨hx, hb, hml, hown, hts⟩ (c_X1_isFirstOfNight l G K tb q H.size br_size _ x6 br_night br_shift hw) (cwV 1 hts gX1_tell_X1_isFirstOfNight rfl rfl rfl (by decide +kernel) ⟨Nat.le_of_ble_eq_true rfl, Nat.le_of_ble_eq_true rfl⟩) (hPreV hE hP hK hD hS hA [0, 1, 2] (by decide) rfl rfl rfl rfl (q0 := 0) (ci := 1) rfl) rfl rfl hl.1 rfl (lv_room (Nat.le_of_ble_eq_true rfl)) dX1_tell_61 ⟨Nat.zero_le _, Nat.zero_le _⟩) hP hD hS hA rfl rfl (by decide) (by decide) (fun r_11 u H locs hw hP hD hS => ?_)
          have hP : va_P G vwCl [oX1 q br_size, aI K (q 45) 60 br_night, aI K (q 46) 60 br_shift, aI K (q 47) 60 br_pieces] H := hP.sub [1, 2, 3, 0] rfl
          have hD : va_D A [oX1 q br_size, aI K (q 45) 60 br_night, aI K (q 46) 60 br_shift, aI K (q 47) 60 br_pieces] := hD.sub [1, 2, 3, 0] (by decide) rfl
          have K_v_13 : ∀ v_13 : Int32, v_13 = (if r_11 = (0 : Int32) then (0 : Int32) else (1 : Int32)) → W p l e rm_X1_tell s m av below meth c H locs 0 0 Q (F0 m 72 ls [.int v_13, .int x5]) := by
            intro v_13 ev_13
            replace hw := hw v_13 ev_13
            refine lv_iadd (pc := 72) hx hb dX1_tell_72 ?_
            refine lv_topi (fun y_14 ey_14 => ?_)
            replace hw := hw y_14 ey_14
            refine lv_istore (pc := 73) (lv' := [(5, .int y_14), (4, .int y_10), (0, .ref (q 44)), (1, .int p1), (2, .int p2), (3, .int p3), (6, .int x6)]) hx hb dX1_tell_73 hl (by decide) rfl (fun ls hl => ?_)
            obtain ⟨y_15, ey_15⟩ : ∃ z : Int32, z = (x6 + (1 : Int32)) := ⟨_, rfl⟩
            replace hw := hw y_15 ey_15
            refine lv_iinc (pc := 75) (v := y_15) (lv' := [(6, .int y_15), (5, .int y_14), (4, .int y_10), (0, .ref (q 44)), (1, .int p1), (2, .int p2), (3, .int p3)]) hx hb dX1_tell_75 hl (k := 6) rfl (by rw [ey_15]; rfl) (by decide) rfl (fun ls hl => ?_)
            refine lv_goto (pc := 78) (tgt := 9) hx hb dX1_tell_78 (by decide) ?_
            exact hw _ _ _ hP hD hS (lv_sub hl [3, 4, 5, 6, 2, 1, 0] rfl)
          refine lv_if_eq (pc := 64) (tgt := 71) hx hb dX1_tell_64 (by decide) (fun c_12 => ?_) (fun c_12 => ?_)
          · skip
            refine lv_iconst (pc := 71) (v := (0 : Int32)) hx hb dX1_tell_71 (by decide) ?_
            exact K_v_13 _ (by rw [if_pos c_12])
          · skip
            refine lv_iconst (pc := 67) (v := (1 : Int32)) hx hb dX1_tell_67 (by decide) ?_
            refine lv_goto (pc := 68) (tgt := 72) hx hb dX1_tell_68 (by decide) ?_
            exact K_v_13 _ (by rw [if_neg c_12]))
  refine lv_iconst (pc := 0) (v := (0 : Int32)) hx hb dX1_tell_0 (by decide) ?_
  refine lv_istore (pc := 1) (lv' := [(4, .int (0 : Int32)), (0, .ref (q 44)), (1, .int p1), (2, .int p2), (3, .int p3)]) hx hb dX1_tell_1 hl (by decide) rfl (fun ls hl => ?_)
  refine lv_iconst (pc := 3) (v := (0 : Int32)) hx hb dX1_tell_3 (by decide) ?_
  refine lv_istore (pc := 4) (lv' := [(5, .int (0 : Int32)), (4, .int (0 : Int32)), (0, .ref (q 44)), (1, .int p1), (2, .int p2), (3, .int p3)]) hx hb dX1_tell_4 hl (by decide) rfl (fun ls hl => ?_)
  refine lv_iconst (pc := 6) (v := (0 : Int32)) hx hb dX1_tell_6 (by decide) ?_
  refine lv_istore (pc := 7) (lv' := [(6, .int (0 : Int32)), (5, .int (0 : Int32)), (4, .int (0 : Int32)), (0, .ref (q 44)), (1, .int p1), (2, .int p2), (3, .int p3)]) hx hb dX1_tell_7 hl (by decide) rfl (fun ls hl => ?_)
  exact hw _ _ _ hP hD hS (lv_sub hl [3, 4, 5, 6, 2, 1, 0] rfl)
def P_X3_add (post : Int32 → (Nat → Int32) → (Nat → Int32) → (Nat → Int32) → (Nat → Int32) → (Nat → Int32) → Int32 → Prop) (p1 : Int32) (p2 : Int32) (p3 : Int32) (p4 : Int32) (ev_day : Nat → Int32) (ev_house : Nat → Int32) (ev_kind : Nat → Int32) (ev_need : Nat → Int32) (ev_on : Nat → Int32) (ev_size : Int32) : Prop :=
  vp_in ev_size 12 ∧ ∀ ev_day_2 : Nat → Int32, ev_day_2 = upd ev_day ev_size.toNatClampNeg p1 → ∀ ev_house_3 : Nat → Int32, ev_house_3 = upd ev_house ev_size.toNatClampNeg p2 → ∀ ev_kind_4 : Nat → Int32, ev_kind_4 = upd ev_kind ev_size.toNatClampNeg p3 → ∀ ev_need_5 : Nat → Int32, ev_need_5 = upd ev_need ev_size.toNatClampNeg p4 → ∀ ev_on_6 : Nat → Int32, ev_on_6 = upd ev_on ev_size.toNatClampNeg (vp_nar .boolean (1 : Int32)) → ∀ y_7 : Int32, y_7 = (ev_size + (1 : Int32)) → post (y_7 - (1 : Int32)) ev_day_2 ev_house_3 ev_kind_4 ev_need_5 ev_on_6 y_7
abbrev rm_X3_add : Room := { frames := 0, cells := 0, slots := 0, locals := 0 }
theorem iw_X3_add_X3 : ∀ w ∈ wsX30, w ∈ wsX3_add := by decide +kernel
set_option maxHeartbeats 4000000 in
set_option maxRecDepth 100000 in
theorem c_X3_add (l : Launch) (G : va_G) (K : ClassId × ClassId × ClassId) (tb q : Nat → Nat) (sz : Nat) (post : Int32 → (Nat → Int32) → (Nat → Int32) → (Nat → Int32) → (Nat → Int32) → (Nat → Int32) → Int32 → Prop) (p1 : Int32) (p2 : Int32) (p3 : Int32) (p4 : Int32) (ev_day : Nat → Int32) (ev_house : Nat → Int32) (ev_kind : Nat → Int32) (ev_need : Nat → Int32) (ev_on : Nat → Int32) (ev_size : Int32) (hw : P_X3_add post p1 p2 p3 p4 ev_day ev_house ev_kind ev_need ev_on ev_size) : Met l yX3_add wsX3_add rm_X3_add (va_Pc [.ref (q 12), .int p1, .int p2, .int p3, .int p4] (hPre G K tb [oX3 q ev_size, aI K (q 13) 12 ev_day, aI K (q 14) 12 ev_house, aI K (q 15) 12 ev_kind, aI K (q 16) 12 ev_need, aZ K (q 17) 12 ev_on] sz)) (va_Qi (fun (r : Int32) (u : (Nat → Int32) × (Nat → Int32) × (Nat → Int32) × (Nat → Int32) × (Nat → Int32) × Int32) => post r u.1 u.2.1 u.2.2.1 u.2.2.2.1 u.2.2.2.2.1 u.2.2.2.2.2) (fun u => hB G K (va_A [oX3 q ev_size, aI K (q 13) 12 ev_day, aI K (q 14) 12 ev_house, aI K (q 15) 12 ev_kind, aI K (q 16) 12 ev_need, aZ K (q 17) 12 ev_on] sz) [oX3 q u.2.2.2.2.2, aI K (q 13) 12 u.1, aI K (q 14) 12 u.2.1, aI K (q 15) 12 u.2.2.1, aI K (q 16) 12 u.2.2.2.1, aZ K (q 17) 12 u.2.2.2.2.1]) (va_A [oX3 q ev_size, aI K (q 13) 12 ev_day, aI K (q 14) 12 ev_house, aI K (q 15) 12 ev_kind, aI K (q 16) 12 ev_need, aZ K (q 17) 12 ev_on] sz)) 0 0 (va_A [oX3 q ev_size, aI K (q 13) 12 ev_day, aI K (q 14) 12 ev_house, aI K (q 15) 12 ev_kind, aI K (q 16) 12 ev_need, aZ K (q 17) 12 ev_on] sz) := by
  refine hMet (fun A => va_Qi (fun (r : Int32) (u : (Nat → Int32) × (Nat → Int32) × (Nat → Int32) × (Nat → Int32) × (Nat → Int32) × Int32) => post r u.1 u.2.1 u.2.2.1 u.2.2.2.1 u.2.2.2.2.1 u.2.2.2.2.2) (fun u => hB G K A [oX3 q u.2.2.2.2.2, aI K (q 13) 12 u.1, aI K (q 14) 12 u.2.1, aI K (q 15) 12 u.2.2.1, aI K (q 16) 12 u.2.2.2.1, aZ K (q 17) 12 u.2.2.2.2.1]) A) (by decide) rfl (Nat.le_of_ble_eq_true rfl) ?_
  intro p e s m av below meth c A Q ls hx hb hr hml hts hown hlocks hnm hA hP hK hD hS hE hQ hl
  have hts : ∀ w ∈ wsX3_add, w.before av s = true := hts
  have hown : s.vm.findClass RX3 = some m.cls := hown
  have hl : lv_has ls 5 [(0, .ref (q 12)), (1, .int p1), (2, .int p2), (3, .int p3), (4, .int p4)] := hl
  unfold P_X3_add at hw
  refine lv_aload_n (pc := 0) hx hb dX3_add_0 rfl (lv_at hl 0 rfl) ?_
  refine va_get (pc := 1) (D := G) (ci := 3) (v := .ref (q 13)) (C := RX3) (T := TX3) (N := 6) hx hb hts iw_X3_add_X3 hown hK hP 0 rfl rfl 0 (by decide) (hts _ (List.mem_of_getElem? (i := 1) rfl)) (fun _ h9 => h9) rfl dX3_add_1 ?_
  refine lv_aload_n (pc := 4) hx hb dX3_add_4 rfl (lv_at hl 0 rfl) ?_
  refine va_get (pc := 5) (D := G) (ci := 3) (v := .int ev_size) (C := RX3) (T := TX3) (N := 6) hx hb hts iw_X3_add_X3 hown hK hP 0 rfl rfl 5 (by decide) (hts _ (List.mem_of_getElem? (i := 2) rfl)) (fun _ h9 => h9) rfl dX3_add_5 ?_
  refine lv_iload_n (pc := 8) hx hb dX3_add_8 rfl (lv_at hl 1 rfl) ?_
  obtain ⟨h_1, hw⟩ := hw
  refine va_iast (pc := 9) hx hb hK hP hD hS 1 0 rfl rfl h_1 dX3_add_9 (fun H locs hP hD hS => ?_)
  obtain ⟨ev_day_2, eev_day_2⟩ : ∃ z : Nat → Int32, z = upd ev_day ev_size.toNatClampNeg p1 := ⟨_, rfl⟩
  have hP : va_P G vwCl [oX3 q ev_size, aI K (q 13) 12 ev_day_2, aI K (q 14) 12 ev_house, aI K (q 15) 12 ev_kind, aI K (q 16) 12 ev_need, aZ K (q 17) 12 ev_on] H := by rw [eev_day_2]; exact hP
  have hD : va_D A [oX3 q ev_size, aI K (q 13) 12 ev_day_2, aI K (q 14) 12 ev_house, aI K (q 15) 12 ev_kind, aI K (q 16) 12 ev_need, aZ K (q 17) 12 ev_on] := by rw [eev_day_2]; exact hD
  replace hw := hw ev_day_2 eev_day_2
  refine lv_aload_n (pc := 10) hx hb dX3_add_10 rfl (lv_at hl 0 rfl) ?_
  refine va_get (pc := 11) (D := G) (ci := 3) (v := .ref (q 14)) (C := RX3) (T := TX3) (N := 6) hx hb hts iw_X3_add_X3 hown hK hP 0 rfl rfl 1 (by decide) (hts _ (List.mem_of_getElem? (i := 3) rfl)) (fun _ h9 => h9) rfl dX3_add_11 ?_
  refine lv_aload_n (pc := 14) hx hb dX3_add_14 rfl (lv_at hl 0 rfl) ?_
  refine va_get (pc := 15) (D := G) (ci := 3) (v := .int ev_size) (C := RX3) (T := TX3) (N := 6) hx hb hts iw_X3_add_X3 hown hK hP 0 rfl rfl 5 (by decide) (hts _ (List.mem_of_getElem? (i := 2) rfl)) (fun _ h9 => h9) rfl dX3_add_15 ?_
  refine lv_iload_n (pc := 18) hx hb dX3_add_18 rfl (lv_at hl 2 rfl) ?_
  refine va_iast (pc := 19) hx hb hK hP hD hS 2 0 rfl rfl h_1 dX3_add_19 (fun H locs hP hD hS => ?_)
  obtain ⟨ev_house_3, eev_house_3⟩ : ∃ z : Nat → Int32, z = upd ev_house ev_size.toNatClampNeg p2 := ⟨_, rfl⟩
  have hP : va_P G vwCl [oX3 q ev_size, aI K (q 13) 12 ev_day_2, aI K (q 14) 12 ev_house_3, aI K (q 15) 12 ev_kind, aI K (q 16) 12 ev_need, aZ K (q 17) 12 ev_on] H := by rw [eev_house_3]; exact hP
  have hD : va_D A [oX3 q ev_size, aI K (q 13) 12 ev_day_2, aI K (q 14) 12 ev_house_3, aI K (q 15) 12 ev_kind, aI K (q 16) 12 ev_need, aZ K (q 17) 12 ev_on] := by rw [eev_house_3]; exact hD
  replace hw := hw ev_house_3 eev_house_3
  refine lv_aload_n (pc := 20) hx hb dX3_add_20 rfl (lv_at hl 0 rfl) ?_
  refine va_get (pc := 21) (D := G) (ci := 3) (v := .ref (q 15)) (C := RX3) (T := TX3) (N := 6) hx hb hts iw_X3_add_X3 hown hK hP 0 rfl rfl 2 (by decide) (hts _ (List.mem_of_getElem? (i := 4) rfl)) (fun _ h9 => h9) rfl dX3_add_21 ?_
  refine lv_aload_n (pc := 24) hx hb dX3_add_24 rfl (lv_at hl 0 rfl) ?_
  refine va_get (pc := 25) (D := G) (ci := 3) (v := .int ev_size) (C := RX3) (T := TX3) (N := 6) hx hb hts iw_X3_add_X3 hown hK hP 0 rfl rfl 5 (by decide) (hts _ (List.mem_of_getElem? (i := 2) rfl)) (fun _ h9 => h9) rfl dX3_add_25 ?_
  refine lv_iload_n (pc := 28) hx hb dX3_add_28 rfl (lv_at hl 3 rfl) ?_
  refine va_iast (pc := 29) hx hb hK hP hD hS 3 0 rfl rfl h_1 dX3_add_29 (fun H locs hP hD hS => ?_)
  obtain ⟨ev_kind_4, eev_kind_4⟩ : ∃ z : Nat → Int32, z = upd ev_kind ev_size.toNatClampNeg p3 := ⟨_, rfl⟩
  have hP : va_P G vwCl [oX3 q ev_size, aI K (q 13) 12 ev_day_2, aI K (q 14) 12 ev_house_3, aI K (q 15) 12 ev_kind_4, aI K (q 16) 12 ev_need, aZ K (q 17) 12 ev_on] H := by rw [eev_kind_4]; exact hP
  have hD : va_D A [oX3 q ev_size, aI K (q 13) 12 ev_day_2, aI K (q 14) 12 ev_house_3, aI K (q 15) 12 ev_kind_4, aI K (q 16) 12 ev_need, aZ K (q 17) 12 ev_on] := by rw [eev_kind_4]; exact hD
  replace hw := hw ev_kind_4 eev_kind_4
  refine lv_aload_n (pc := 30) hx hb dX3_add_30 rfl (lv_at hl 0 rfl) ?_
  refine va_get (pc := 31) (D := G) (ci := 3) (v := .ref (q 16)) (C := RX3) (T := TX3) (N := 6) hx hb hts iw_X3_add_X3 hown hK hP 0 rfl rfl 3 (by decide) (hts _ (List.mem_of_getElem? (i := 5) rfl)) (fun _ h9 => h9) rfl dX3_add_31 ?_
  refine lv_aload_n (pc := 34) hx hb dX3_add_34 rfl (lv_at hl 0 rfl) ?_
  refine va_get (pc := 35) (D := G) (ci := 3) (v := .int ev_size) (C := RX3) (T := TX3) (N := 6) hx hb hts iw_X3_add_X3 hown hK hP 0 rfl rfl 5 (by decide) (hts _ (List.mem_of_getElem? (i := 2) rfl)) (fun _ h9 => h9) rfl dX3_add_35 ?_
  refine lv_iload (pc := 38) hx hb dX3_add_38 (lv_at hl 4 rfl) ?_
  refine va_iast (pc := 40) hx hb hK hP hD hS 4 0 rfl rfl h_1 dX3_add_40 (fun H locs hP hD hS => ?_)
  obtain ⟨ev_need_5, eev_need_5⟩ : ∃ z : Nat → Int32, z = upd ev_need ev_size.toNatClampNeg p4 := ⟨_, rfl⟩
  have hP : va_P G vwCl [oX3 q ev_size, aI K (q 13) 12 ev_day_2, aI K (q 14) 12 ev_house_3, aI K (q 15) 12 ev_kind_4, aI K (q 16) 12 ev_need_5, aZ K (q 17) 12 ev_on] H := by rw [eev_need_5]; exact hP
  have hD : va_D A [oX3 q ev_size, aI K (q 13) 12 ev_day_2, aI K (q 14) 12 ev_house_3, aI K (q 15) 12 ev_kind_4, aI K (q 16) 12 ev_need_5, aZ K (q 17) 12 ev_on] := by rw [eev_need_5]; exact hD
  replace hw := hw ev_need_5 eev_need_5
  refine lv_aload_n (pc := 41) hx hb dX3_add_41 rfl (lv_at hl 0 rfl) ?_
  refine va_get (pc := 42) (D := G) (ci := 3) (v := .ref (q 17)) (C := RX3) (T := TX3) (N := 6) hx hb hts iw_X3_add_X3 hown hK hP 0 rfl rfl 4 (by decide) (hts _ (List.mem_of_getElem? (i := 6) rfl)) (fun _ h9 => h9) rfl dX3_add_42 ?_
  refine lv_aload_n (pc := 45) hx hb dX3_add_45 rfl (lv_at hl 0 rfl) ?_
  refine va_get (pc := 46) (D := G) (ci := 3) (v := .int ev_size) (C := RX3) (T := TX3) (N := 6) hx hb hts iw_X3_add_X3 hown hK hP 0 rfl rfl 5 (by decide) (hts _ (List.mem_of_getElem? (i := 2) rfl)) (fun _ h9 => h9) rfl dX3_add_46 ?_
  refine lv_iconst (pc := 49) (v := (1 : Int32)) hx hb dX3_add_49 (by decide) ?_
  refine va_zast (pc := 50) hx hb hK hP hD hS 5 2 rfl rfl h_1 dX3_add_50 (fun H locs hP hD hS => ?_)
  obtain ⟨ev_on_6, eev_on_6⟩ : ∃ z : Nat → Int32, z = upd ev_on ev_size.toNatClampNeg (vp_nar .boolean (1 : Int32)) := ⟨_, rfl⟩
  have hP : va_P G vwCl [oX3 q ev_size, aI K (q 13) 12 ev_day_2, aI K (q 14) 12 ev_house_3, aI K (q 15) 12 ev_kind_4, aI K (q 16) 12 ev_need_5, aZ K (q 17) 12 ev_on_6] H := by rw [eev_on_6]; exact hP
  have hD : va_D A [oX3 q ev_size, aI K (q 13) 12 ev_day_2, aI K (q 14) 12 ev_house_3, aI K (q 15) 12 ev_kind_4, aI K (q 16) 12 ev_need_5, aZ K (q 17) 12 ev_on_6] := by rw [eev_on_6]; exact hD
  replace hw := hw ev_on_6 eev_on_6
  refine lv_aload_n (pc := 51) hx hb dX3_add_51 rfl (lv_at hl 0 rfl) ?_
  refine lv_dup (pc := 52) hx hb dX3_add_52 rfl ?_
  refine va_get (pc := 53) (D := G) (ci := 3) (v := .int ev_size) (C := RX3) (T := TX3) (N := 6) hx hb hts iw_X3_add_X3 hown hK hP 0 rfl rfl 5 (by decide) (hts _ (List.mem_of_getElem? (i := 2) rfl)) (fun _ h9 => h9) rfl dX3_add_53 ?_
  refine lv_iconst (pc := 56) (v := (1 : Int32)) hx hb dX3_add_56 (by decide) ?_
  refine lv_iadd (pc := 57) hx hb dX3_add_57 ?_
  refine lv_topi (fun y_7 ey_7 => ?_)
  replace hw := hw y_7 ey_7
  refine va_put (pc := 58) (D := G) (ci := 3) (v := .int y_7) (ty := .int) (C := RX3) (T := TX3) (N := 6) hx hb hts iw_X3_add_X3 tyX3 tyX3_ok nmX3 hown hK hP hD hS 0 rfl rfl 5 (by decide) (hts _ (List.mem_of_getElem? (i := 2) rfl)) (fun _ h9 => h9) rfl (by decide +kernel) rfl rfl (Nat.le_of_ble_eq_true rfl) dX3_add_58 (fun H locs hP hD hS => ?_)
  have hP : va_P G vwCl [oX3 q y_7, aI K (q 13) 12 ev_day_2, aI K (q 14) 12 ev_house_3, aI K (q 15) 12 ev_kind_4, aI K (q 16) 12 ev_need_5, aZ K (q 17) 12 ev_on_6] H := hP
  have hD : va_D A [oX3 q y_7, aI K (q 13) 12 ev_day_2, aI K (q 14) 12 ev_house_3, aI K (q 15) 12 ev_kind_4, aI K (q 16) 12 ev_need_5, aZ K (q 17) 12 ev_on_6] := hD
  refine lv_aload_n (pc := 61) hx hb dX3_add_61 rfl (lv_at hl 0 rfl) ?_
  refine va_get (pc := 62) (D := G) (ci := 3) (v := .int y_7) (C := RX3) (T := TX3) (N := 6) hx hb hts iw_X3_add_X3 hown hK hP 0 rfl rfl 5 (by decide) (hts _ (List.mem_of_getElem? (i := 2) rfl)) (fun _ h9 => h9) rfl dX3_add_62 ?_
  refine lv_iconst (pc := 65) (v := (1 : Int32)) hx hb dX3_add_65 (by decide) ?_
  refine lv_isub (pc := 66) hx hb dX3_add_66 ?_
  exact hRetI (S := (Nat → Int32) × (Nat → Int32) × (Nat → Int32) × (Nat → Int32) × (Nat → Int32) × Int32) (ev_day_2, ev_house_3, ev_kind_4, ev_need_5, ev_on_6, y_7) hx hb hr hlocks hQ hw hP hK hD hS dX3_add_67
def P_X3_counting (post : Int32 → Prop) (ev_on : Nat → Int32) (ev_size : Int32) : Prop :=
  ∀ (X4 : Int32 → Int32 → Prop),
  (∀ (x1 : Int32) (x2 : Int32), (((ev_size ≤ x2 → post x1) ∧ (¬ ev_size ≤ x2 → vp_in x2 12 ∧ ∀ v_4 : Int32, v_4 = (if (ev_on x2.toNatClampNeg) = (0 : Int32) then (0 : Int32) else (1 : Int32)) → ∀ y_5 : Int32, y_5 = (x1 + v_4) → ∀ y_6 : Int32, y_6 = (x2 + (1 : Int32)) → X4 y_5 y_6))) → X4 x1 x2) →
  X4 (0 : Int32) (0 : Int32)
abbrev rm_X3_counting : Room := { frames := 0, cells := 0, slots := 0, locals := 0 }
theorem iw_X3_counting_X3 : ∀ w ∈ wsX30, w ∈ wsX3_counting := by decide +kernel
set_option maxHeartbeats 4000000 in
set_option maxRecDepth 100000 in
theorem c_X3_counting (l : Launch) (G : va_G) (K : ClassId × ClassId × ClassId) (tb q : Nat → Nat) (sz : Nat) (post : Int32 → Prop) (ev_on : Nat → Int32) (ev_size : Int32) (hw : P_X3_counting post ev_on ev_size) : Met l yX3_counting wsX3_counting rm_X3_counting (va_Pc [.ref (q 12)] (hPre G K tb [oX3 q ev_size, aZ K (q 17) 12 ev_on] sz)) (va_Qi (fun (r : Int32) (u : Unit) => post r) (fun u => hB G K (va_A [oX3 q ev_size, aZ K (q 17) 12 ev_on] sz) [oX3 q ev_size, aZ K (q 17) 12 ev_on]) (va_A [oX3 q ev_size, aZ K (q 17) 12 ev_on] sz)) 0 0 (va_A [oX3 q ev_size, aZ K (q 17) 12 ev_on] sz) := by
  refine hMet (fun A => va_Qi (fun (r : Int32) (u : Unit) => post r) (fun u => hB G K A [oX3 q ev_size, aZ K (q 17) 12 ev_on]) A) (by decide) rfl (Nat.le_of_ble_eq_true rfl) ?_
  intro p e s m av below meth c A Q ls hx hb hr hml hts hown hlocks hnm hA hP hK hD hS hE hQ hl
  have hts : ∀ w ∈ wsX3_counting, w.before av s = true := hts
  have hown : s.vm.findClass RX3 = some m.cls := hown
  have hl : lv_has ls 3 [(0, .ref (q 12))] := hl
  unfold P_X3_counting at hw
  replace hw := hw (fun (x1 : Int32) (x2 : Int32) => ∀ (H : Heap) (locs : List Loc) (ls : Array Slot), va_P G vwCl [oX3 q ev_size, aZ K (q 17) 12 ev_on] H → va_D A [oX3 q ev_size, aZ K (q 17) 12 ev_on] → va_S A s.heap H locs → lv_has ls 3 [(0, .ref (q 12)), (1, .int x1), (2, .int x2)] → W p l e rm_X3_counting s m av below meth c H locs 0 0 Q (F0 m 4 ls []))
  replace hw := hw (by
    intro x1 x2 hw H locs ls hP hD hS hl
    refine lv_iload_n (pc := 4) hx hb dX3_counting_4 rfl (lv_at hl 2 rfl) ?_
    refine lv_aload_n (pc := 5) hx hb dX3_counting_5 rfl (lv_at hl 0 rfl) ?_
    refine va_get (pc := 6) (D := G) (ci := 3) (v := .int ev_size) (C := RX3) (T := TX3) (N := 6) hx hb hts iw_X3_counting_X3 hown hK hP 0 rfl rfl 5 (by decide) (hts _ (List.mem_of_getElem? (i := 1) rfl)) (fun _ h9 => h9) rfl dX3_counting_6 ?_
    refine lv_icmp_ge (pc := 9) (tgt := 35) hx hb dX3_counting_9 (by decide) (fun c_1 => ?_) (fun c_1 => ?_)
    · replace hw := hw.1 c_1
      refine lv_iload_n (pc := 35) hx hb dX3_counting_35 rfl (lv_at hl 1 rfl) ?_
      exact hRetI (S := Unit) () hx hb hr hlocks hQ hw hP hK hD hS dX3_counting_36
    · replace hw := hw.2 c_1
      refine lv_iload_n (pc := 12) hx hb dX3_counting_12 rfl (lv_at hl 1 rfl) ?_
      refine lv_aload_n (pc := 13) hx hb dX3_counting_13 rfl (lv_at hl 0 rfl) ?_
      refine va_get (pc := 14) (D := G) (ci := 3) (v := .ref (q 17)) (C := RX3) (T := TX3) (N := 6) hx hb hts iw_X3_counting_X3 hown hK hP 0 rfl rfl 4 (by decide) (hts _ (List.mem_of_getElem? (i := 2) rfl)) (fun _ h9 => h9) rfl dX3_counting_14 ?_
      refine lv_iload_n (pc := 17) hx hb dX3_counting_17 rfl (lv_at hl 2 rfl) ?_
      obtain ⟨h_2, hw⟩ := hw
      refine va_zald (pc := 18) hx hb hK hP 1 2 rfl rfl h_2 dX3_counting_18 ?_
      have K_v_4 : ∀ v_4 : Int32, v_4 = (if (ev_on x2.toNatClampNeg) = (0 : Int32) then (0 : Int32) else (1 : Int32)) → W p l e rm_X3_counting s m av below meth c H locs 0 0 Q (F0 m 27 ls [.int v_4, .int x1]) := by
        intro v_4 ev_4
        replace hw := hw v_4 ev_4
        refine lv_iadd (pc := 27) hx hb dX3_counting_27 ?_
        refine lv_topi (fun y_5 ey_5 => ?_)
        replace hw := hw y_5 ey_5
        refine lv_istore_n (pc := 28) (lv' := [(1, .int y_5), (0, .ref (q 12)), (2, .int x2)]) hx hb dX3_counting_28 rfl hl (by decide) rfl (fun ls hl => ?_)
        obtain ⟨y_6, ey_6⟩ : ∃ z : Int32, z = (x2 + (1 : Int32)) := ⟨_, rfl⟩
        replace hw := hw y_6 ey_6
        refine lv_iinc (pc := 29) (v := y_6) (lv' := [(2, .int y_6), (1, .int y_5), (0, .ref (q 12))]) hx hb dX3_counting_29 hl (k := 2) rfl (by rw [ey_6]; rfl) (by decide) rfl (fun ls hl => ?_)
        refine lv_goto (pc := 32) (tgt := 4) hx hb dX3_counting_32 (by decide) ?_
        exact hw _ _ _ hP hD hS (lv_sub hl [2, 1, 0] rfl)
      refine lv_if_eq (pc := 19) (tgt := 26) hx hb dX3_counting_19 (by decide) (fun c_3 => ?_) (fun c_3 => ?_)
      · skip
        refine lv_iconst (pc := 26) (v := (0 : Int32)) hx hb dX3_counting_26 (by decide) ?_
        exact K_v_4 _ (by rw [if_pos c_3])
      · skip
        refine lv_iconst (pc := 22) (v := (1 : Int32)) hx hb dX3_counting_22 (by decide) ?_
        refine lv_goto (pc := 23) (tgt := 27) hx hb dX3_counting_23 (by decide) ?_
        exact K_v_4 _ (by rw [if_neg c_3]))
  refine lv_iconst (pc := 0) (v := (0 : Int32)) hx hb dX3_counting_0 (by decide) ?_
  refine lv_istore_n (pc := 1) (lv' := [(1, .int (0 : Int32)), (0, .ref (q 12))]) hx hb dX3_counting_1 rfl hl (by decide) rfl (fun ls hl => ?_)
  refine lv_iconst (pc := 2) (v := (0 : Int32)) hx hb dX3_counting_2 (by decide) ?_
  refine lv_istore_n (pc := 3) (lv' := [(2, .int (0 : Int32)), (1, .int (0 : Int32)), (0, .ref (q 12))]) hx hb dX3_counting_3 rfl hl (by decide) rfl (fun ls hl => ?_)
  exact hw _ _ _ hP hD hS (lv_sub hl [2, 1, 0] rfl)
def P_X3_has (post : Int32 → Prop) (p1 : Int32) (ev_size : Int32) : Prop :=
  P_X10_within (fun r_1 => (r_1 = 0 ∨ r_1 = 1) ∧ post r_1) p1 (0 : Int32) (ev_size - (1 : Int32))
abbrev rm_X3_has : Room := { frames := 1, cells := 0, slots := 0, locals := 22 }
theorem iw_X3_has_X3 : ∀ w ∈ wsX30, w ∈ wsX3_has := by decide +kernel
set_option maxHeartbeats 4000000 in
set_option maxRecDepth 100000 in
theorem c_X3_has (l : Launch) (G : va_G) (K : ClassId × ClassId × ClassId) (tb q : Nat → Nat) (sz : Nat) (post : Int32 → Prop) (p1 : Int32) (ev_size : Int32) (hw : P_X3_has post p1 ev_size) : Met l yX3_has wsX3_has rm_X3_has (va_Pc [.ref (q 12), .int p1] (hPre G K tb [oX3 q ev_size] sz)) (va_Qi (fun (r : Int32) (u : Unit) => post r) (fun u => hB G K (va_A [oX3 q ev_size] sz) [oX3 q ev_size]) (va_A [oX3 q ev_size] sz)) 0 0 (va_A [oX3 q ev_size] sz) := by
  refine hMet (fun A => va_Qi (fun (r : Int32) (u : Unit) => post r) (fun u => hB G K A [oX3 q ev_size]) A) (by decide) rfl (Nat.le_of_ble_eq_true rfl) ?_
  intro p e s m av below meth c A Q ls hx hb hr hml hts hown hlocks hnm hA hP hK hD hS hE hQ hl
  have hts : ∀ w ∈ wsX3_has, w.before av s = true := hts
  have hown : s.vm.findClass RX3 = some m.cls := hown
  have hl : lv_has ls 2 [(0, .ref (q 12)), (1, .int p1)] := hl
  unfold P_X3_has at hw
  refine lv_iload_n (pc := 0) hx hb dX3_has_0 rfl (lv_at hl 1 rfl) ?_
  refine lv_iconst (pc := 1) (v := (0 : Int32)) hx hb dX3_has_1 (by decide) ?_
  refine lv_aload_n (pc := 2) hx hb dX3_has_2 rfl (lv_at hl 0 rfl) ?_
  refine va_get (pc := 3) (D := G) (ci := 3) (v := .int ev_size) (C := RX3) (T := TX3) (N := 6) hx hb hts iw_X3_has_X3 hown hK hP 0 rfl rfl 5 (by decide) (hts _ (List.mem_of_getElem? (i := 1) rfl)) (fun _ h9 => h9) rfl dX3_has_3 ?_
  refine lv_iconst (pc := 6) (v := (1 : Int32)) hx hb dX3_has_6 (by decide) ?_
  refine lv_isub (pc := 7) hx hb dX3_has_7 ?_
  refine hCallI (pc := 8) (wr := [oX3 q ev_size]) (wsf := fun (u : Unit) => []) [] [0] (va_runSN (As := [.int p1, .int (0 : Int32), .int (ev_size - (1 : Int32))]) (rest := []) ⟨hx, hb, hml, hown, hts⟩ (c_X10_within l G K tb q s.heap.size _ p1 (0 : Int32) (ev_size - (1 : Int32)) hw) ⟨va_cnB 3 hts gX3_has_X10_within_n32 rfl rfl rfl (hE.nw 45 rfl) (hts _ (List.mem_of_getElem? (i := 3) rfl)) (by decide +kernel) ⟨Nat.le_of_ble_eq_true rfl, Nat.le_of_ble_eq_true rfl⟩, (hts _ (List.mem_of_getElem? (i := 2) rfl)), trivial⟩ (hPreS hE hP hK hD hS hA [] (by decide) rfl rfl) rfl rfl hl.1 rfl (lv_room (Nat.le_of_ble_eq_true rfl)) dX3_has_8 ⟨Nat.zero_le _, Nat.zero_le _⟩) hP hD hS hA rfl rfl (by decide) (by decide) (fun r_1 u H locs hw hP hD hS => ?_)
  have hP : va_P G vwCl [oX3 q ev_size] H := hP.sub [0] rfl
  have hD : va_D A [oX3 q ev_size] := hD.sub [0] (by decide) rfl
  obtain ⟨h_2, hw⟩ := hw
  exact hRetZ (S := Unit) () hx hb hr hlocks hQ h_2 hw hP hK hD hS dX3_has_11
def P_X3_stop (post : Int32 → (Nat → Int32) → Prop) (p1 : Int32) (ev_on : Nat → Int32) : Prop :=
  vp_in p1 12 ∧ ∀ y_2 : Int32, y_2 = (ev_on p1.toNatClampNeg) → ∀ ev_on_3 : Nat → Int32, ev_on_3 = upd ev_on p1.toNatClampNeg (vp_nar .boolean (0 : Int32)) → (y_2 = 0 ∨ y_2 = 1) ∧ post y_2 ev_on_3
abbrev rm_X3_stop : Room := { frames := 0, cells := 0, slots := 0, locals := 0 }
theorem iw_X3_stop_X3 : ∀ w ∈ wsX30, w ∈ wsX3_stop := by decide +kernel
set_option maxHeartbeats 4000000 in
set_option maxRecDepth 100000 in
theorem c_X3_stop (l : Launch) (G : va_G) (K : ClassId × ClassId × ClassId) (tb q : Nat → Nat) (sz : Nat) (ev_size : Int32) (post : Int32 → (Nat → Int32) → Prop) (p1 : Int32) (ev_on : Nat → Int32) (hw : P_X3_stop post p1 ev_on) : Met l yX3_stop wsX3_stop rm_X3_stop (va_Pc [.ref (q 12), .int p1] (hPre G K tb [oX3 q ev_size, aZ K (q 17) 12 ev_on] sz)) (va_Qi (fun (r : Int32) (u : (Nat → Int32)) => post r u) (fun u => hB G K (va_A [oX3 q ev_size, aZ K (q 17) 12 ev_on] sz) [oX3 q ev_size, aZ K (q 17) 12 u]) (va_A [oX3 q ev_size, aZ K (q 17) 12 ev_on] sz)) 0 0 (va_A [oX3 q ev_size, aZ K (q 17) 12 ev_on] sz) := by
  refine hMet (fun A => va_Qi (fun (r : Int32) (u : (Nat → Int32)) => post r u) (fun u => hB G K A [oX3 q ev_size, aZ K (q 17) 12 u]) A) (by decide) rfl (Nat.le_of_ble_eq_true rfl) ?_
  intro p e s m av below meth c A Q ls hx hb hr hml hts hown hlocks hnm hA hP hK hD hS hE hQ hl
  have hts : ∀ w ∈ wsX3_stop, w.before av s = true := hts
  have hown : s.vm.findClass RX3 = some m.cls := hown
  have hl : lv_has ls 3 [(0, .ref (q 12)), (1, .int p1)] := hl
  unfold P_X3_stop at hw
  refine lv_aload_n (pc := 0) hx hb dX3_stop_0 rfl (lv_at hl 0 rfl) ?_
  refine va_get (pc := 1) (D := G) (ci := 3) (v := .ref (q 17)) (C := RX3) (T := TX3) (N := 6) hx hb hts iw_X3_stop_X3 hown hK hP 0 rfl rfl 4 (by decide) (hts _ (List.mem_of_getElem? (i := 1) rfl)) (fun _ h9 => h9) rfl dX3_stop_1 ?_
  refine lv_iload_n (pc := 4) hx hb dX3_stop_4 rfl (lv_at hl 1 rfl) ?_
  obtain ⟨h_1, hw⟩ := hw
  refine va_zald (pc := 5) hx hb hK hP 1 2 rfl rfl h_1 dX3_stop_5 ?_
  refine lv_topi (fun y_2 ey_2 => ?_)
  replace hw := hw y_2 ey_2
  refine lv_istore_n (pc := 6) (lv' := [(2, .int y_2), (0, .ref (q 12)), (1, .int p1)]) hx hb dX3_stop_6 rfl hl (by decide) rfl (fun ls hl => ?_)
  refine lv_aload_n (pc := 7) hx hb dX3_stop_7 rfl (lv_at hl 1 rfl) ?_
  refine va_get (pc := 8) (D := G) (ci := 3) (v := .ref (q 17)) (C := RX3) (T := TX3) (N := 6) hx hb hts iw_X3_stop_X3 hown hK hP 0 rfl rfl 4 (by decide) (hts _ (List.mem_of_getElem? (i := 1) rfl)) (fun _ h9 => h9) rfl dX3_stop_8 ?_
  refine lv_iload_n (pc := 11) hx hb dX3_stop_11 rfl (lv_at hl 2 rfl) ?_
  refine lv_iconst (pc := 12) (v := (0 : Int32)) hx hb dX3_stop_12 (by decide) ?_
  refine va_zast (pc := 13) hx hb hK hP hD hS 1 2 rfl rfl h_1 dX3_stop_13 (fun H locs hP hD hS => ?_)
  obtain ⟨ev_on_3, eev_on_3⟩ : ∃ z : Nat → Int32, z = upd ev_on p1.toNatClampNeg (vp_nar .boolean (0 : Int32)) := ⟨_, rfl⟩
  have hP : va_P G vwCl [oX3 q ev_size, aZ K (q 17) 12 ev_on_3] H := by rw [eev_on_3]; exact hP
  have hD : va_D A [oX3 q ev_size, aZ K (q 17) 12 ev_on_3] := by rw [eev_on_3]; exact hD
  replace hw := hw ev_on_3 eev_on_3
  refine lv_iload_n (pc := 14) hx hb dX3_stop_14 rfl (lv_at hl 0 rfl) ?_
  obtain ⟨h_4, hw⟩ := hw
  exact hRetZ (S := (Nat → Int32)) ev_on_3 hx hb hr hlocks hQ h_4 hw hP hK hD hS dX3_stop_15
def P_X4_add (post : Int32 → (Nat → Int32) → (Nat → Int32) → Int32 → Prop) (p1 : Int32) (p2 : Int32) (kd_low : Nat → Int32) (kd_high : Nat → Int32) (kd_size : Int32) : Prop :=
  vp_in kd_size 6 ∧ ∀ kd_low_2 : Nat → Int32, kd_low_2 = upd kd_low kd_size.toNatClampNeg p1 → ∀ kd_high_3 : Nat → Int32, kd_high_3 = upd kd_high kd_size.toNatClampNeg p2 → ∀ y_4 : Int32, y_4 = (kd_size + (1 : Int32)) → post (y_4 - (1 : Int32)) kd_low_2 kd_high_3 y_4
abbrev rm_X4_add : Room := { frames := 0, cells := 0, slots := 0, locals := 0 }
theorem iw_X4_add_X4 : ∀ w ∈ wsX40, w ∈ wsX4_add := by decide +kernel
set_option maxHeartbeats 4000000 in
set_option maxRecDepth 100000 in
theorem c_X4_add (l : Launch) (G : va_G) (K : ClassId × ClassId × ClassId) (tb q : Nat → Nat) (sz : Nat) (post : Int32 → (Nat → Int32) → (Nat → Int32) → Int32 → Prop) (p1 : Int32) (p2 : Int32) (kd_low : Nat → Int32) (kd_high : Nat → Int32) (kd_size : Int32) (hw : P_X4_add post p1 p2 kd_low kd_high kd_size) : Met l yX4_add wsX4_add rm_X4_add (va_Pc [.ref (q 1), .int p1, .int p2] (hPre G K tb [oX4 q kd_size, aI K (q 2) 6 kd_low, aI K (q 3) 6 kd_high] sz)) (va_Qi (fun (r : Int32) (u : (Nat → Int32) × (Nat → Int32) × Int32) => post r u.1 u.2.1 u.2.2) (fun u => hB G K (va_A [oX4 q kd_size, aI K (q 2) 6 kd_low, aI K (q 3) 6 kd_high] sz) [oX4 q u.2.2, aI K (q 2) 6 u.1, aI K (q 3) 6 u.2.1]) (va_A [oX4 q kd_size, aI K (q 2) 6 kd_low, aI K (q 3) 6 kd_high] sz)) 0 0 (va_A [oX4 q kd_size, aI K (q 2) 6 kd_low, aI K (q 3) 6 kd_high] sz) := by
  refine hMet (fun A => va_Qi (fun (r : Int32) (u : (Nat → Int32) × (Nat → Int32) × Int32) => post r u.1 u.2.1 u.2.2) (fun u => hB G K A [oX4 q u.2.2, aI K (q 2) 6 u.1, aI K (q 3) 6 u.2.1]) A) (by decide) rfl (Nat.le_of_ble_eq_true rfl) ?_
  intro p e s m av below meth c A Q ls hx hb hr hml hts hown hlocks hnm hA hP hK hD hS hE hQ hl
  have hts : ∀ w ∈ wsX4_add, w.before av s = true := hts
  have hown : s.vm.findClass RX4 = some m.cls := hown
  have hl : lv_has ls 3 [(0, .ref (q 1)), (1, .int p1), (2, .int p2)] := hl
  unfold P_X4_add at hw
  refine lv_aload_n (pc := 0) hx hb dX4_add_0 rfl (lv_at hl 0 rfl) ?_
  refine va_get (pc := 1) (D := G) (ci := 4) (v := .ref (q 2)) (C := RX4) (T := TX4) (N := 3) hx hb hts iw_X4_add_X4 hown hK hP 0 rfl rfl 0 (by decide) (hts _ (List.mem_of_getElem? (i := 1) rfl)) (fun _ h9 => h9) rfl dX4_add_1 ?_
  refine lv_aload_n (pc := 4) hx hb dX4_add_4 rfl (lv_at hl 0 rfl) ?_
  refine va_get (pc := 5) (D := G) (ci := 4) (v := .int kd_size) (C := RX4) (T := TX4) (N := 3) hx hb hts iw_X4_add_X4 hown hK hP 0 rfl rfl 2 (by decide) (hts _ (List.mem_of_getElem? (i := 2) rfl)) (fun _ h9 => h9) rfl dX4_add_5 ?_
  refine lv_iload_n (pc := 8) hx hb dX4_add_8 rfl (lv_at hl 1 rfl) ?_
  obtain ⟨h_1, hw⟩ := hw
  refine va_iast (pc := 9) hx hb hK hP hD hS 1 0 rfl rfl h_1 dX4_add_9 (fun H locs hP hD hS => ?_)
  obtain ⟨kd_low_2, ekd_low_2⟩ : ∃ z : Nat → Int32, z = upd kd_low kd_size.toNatClampNeg p1 := ⟨_, rfl⟩
  have hP : va_P G vwCl [oX4 q kd_size, aI K (q 2) 6 kd_low_2, aI K (q 3) 6 kd_high] H := by rw [ekd_low_2]; exact hP
  have hD : va_D A [oX4 q kd_size, aI K (q 2) 6 kd_low_2, aI K (q 3) 6 kd_high] := by rw [ekd_low_2]; exact hD
  replace hw := hw kd_low_2 ekd_low_2
  refine lv_aload_n (pc := 10) hx hb dX4_add_10 rfl (lv_at hl 0 rfl) ?_
  refine va_get (pc := 11) (D := G) (ci := 4) (v := .ref (q 3)) (C := RX4) (T := TX4) (N := 3) hx hb hts iw_X4_add_X4 hown hK hP 0 rfl rfl 1 (by decide) (hts _ (List.mem_of_getElem? (i := 3) rfl)) (fun _ h9 => h9) rfl dX4_add_11 ?_
  refine lv_aload_n (pc := 14) hx hb dX4_add_14 rfl (lv_at hl 0 rfl) ?_
  refine va_get (pc := 15) (D := G) (ci := 4) (v := .int kd_size) (C := RX4) (T := TX4) (N := 3) hx hb hts iw_X4_add_X4 hown hK hP 0 rfl rfl 2 (by decide) (hts _ (List.mem_of_getElem? (i := 2) rfl)) (fun _ h9 => h9) rfl dX4_add_15 ?_
  refine lv_iload_n (pc := 18) hx hb dX4_add_18 rfl (lv_at hl 2 rfl) ?_
  refine va_iast (pc := 19) hx hb hK hP hD hS 2 0 rfl rfl h_1 dX4_add_19 (fun H locs hP hD hS => ?_)
  obtain ⟨kd_high_3, ekd_high_3⟩ : ∃ z : Nat → Int32, z = upd kd_high kd_size.toNatClampNeg p2 := ⟨_, rfl⟩
  have hP : va_P G vwCl [oX4 q kd_size, aI K (q 2) 6 kd_low_2, aI K (q 3) 6 kd_high_3] H := by rw [ekd_high_3]; exact hP
  have hD : va_D A [oX4 q kd_size, aI K (q 2) 6 kd_low_2, aI K (q 3) 6 kd_high_3] := by rw [ekd_high_3]; exact hD
  replace hw := hw kd_high_3 ekd_high_3
  refine lv_aload_n (pc := 20) hx hb dX4_add_20 rfl (lv_at hl 0 rfl) ?_
  refine lv_dup (pc := 21) hx hb dX4_add_21 rfl ?_
  refine va_get (pc := 22) (D := G) (ci := 4) (v := .int kd_size) (C := RX4) (T := TX4) (N := 3) hx hb hts iw_X4_add_X4 hown hK hP 0 rfl rfl 2 (by decide) (hts _ (List.mem_of_getElem? (i := 2) rfl)) (fun _ h9 => h9) rfl dX4_add_22 ?_
  refine lv_iconst (pc := 25) (v := (1 : Int32)) hx hb dX4_add_25 (by decide) ?_
  refine lv_iadd (pc := 26) hx hb dX4_add_26 ?_
  refine lv_topi (fun y_4 ey_4 => ?_)
  replace hw := hw y_4 ey_4
  refine va_put (pc := 27) (D := G) (ci := 4) (v := .int y_4) (ty := .int) (C := RX4) (T := TX4) (N := 3) hx hb hts iw_X4_add_X4 tyX4 tyX4_ok nmX4 hown hK hP hD hS 0 rfl rfl 2 (by decide) (hts _ (List.mem_of_getElem? (i := 2) rfl)) (fun _ h9 => h9) rfl (by decide +kernel) rfl rfl (Nat.le_of_ble_eq_true rfl) dX4_add_27 (fun H locs hP hD hS => ?_)
  have hP : va_P G vwCl [oX4 q y_4, aI K (q 2) 6 kd_low_2, aI K (q 3) 6 kd_high_3] H := hP
  have hD : va_D A [oX4 q y_4, aI K (q 2) 6 kd_low_2, aI K (q 3) 6 kd_high_3] := hD
  refine lv_aload_n (pc := 30) hx hb dX4_add_30 rfl (lv_at hl 0 rfl) ?_
  refine va_get (pc := 31) (D := G) (ci := 4) (v := .int y_4) (C := RX4) (T := TX4) (N := 3) hx hb hts iw_X4_add_X4 hown hK hP 0 rfl rfl 2 (by decide) (hts _ (List.mem_of_getElem? (i := 2) rfl)) (fun _ h9 => h9) rfl dX4_add_31 ?_
  refine lv_iconst (pc := 34) (v := (1 : Int32)) hx hb dX4_add_34 (by decide) ?_
  refine lv_isub (pc := 35) hx hb dX4_add_35 ?_
  exact hRetI (S := (Nat → Int32) × (Nat → Int32) × Int32) (kd_low_2, kd_high_3, y_4) hx hb hr hlocks hQ hw hP hK hD hS dX4_add_36
def P_X4_fewestReaching (post : Int32 → Prop) (p1 : Int32) (p2 : Int32) (kd_high : Nat → Int32) : Prop :=
  vp_in p1 6 ∧ ∀ y_2 : Int32, y_2 = (kd_high p1.toNatClampNeg) → ((p2 ≤ (0 : Int32) → True) ∧ (¬ p2 ≤ (0 : Int32) → (((1 : Int32) ≤ y_2 → (¬ y_2 = 0 ∧ True)) ∧ (¬ (1 : Int32) ≤ y_2 → True)))) ∧ ∀ v_6 : Int32, v_6 = (if p2 ≤ (0 : Int32) then (0 : Int32) else (if (1 : Int32) ≤ y_2 then (((p2 + y_2) - (1 : Int32)) / y_2) else (0 : Int32))) → post v_6
abbrev rm_X4_fewestReaching : Room := { frames := 0, cells := 0, slots := 0, locals := 0 }
theorem iw_X4_fewestReaching_X4 : ∀ w ∈ wsX40, w ∈ wsX4_fewestReaching := by decide +kernel
set_option maxHeartbeats 4000000 in
set_option maxRecDepth 100000 in
theorem c_X4_fewestReaching (l : Launch) (G : va_G) (K : ClassId × ClassId × ClassId) (tb q : Nat → Nat) (sz : Nat) (kd_size : Int32) (post : Int32 → Prop) (p1 : Int32) (p2 : Int32) (kd_high : Nat → Int32) (hw : P_X4_fewestReaching post p1 p2 kd_high) : Met l yX4_fewestReaching wsX4_fewestReaching rm_X4_fewestReaching (va_Pc [.ref (q 1), .int p1, .int p2] (hPre G K tb [oX4 q kd_size, aI K (q 3) 6 kd_high] sz)) (va_Qi (fun (r : Int32) (u : Unit) => post r) (fun u => hB G K (va_A [oX4 q kd_size, aI K (q 3) 6 kd_high] sz) [oX4 q kd_size, aI K (q 3) 6 kd_high]) (va_A [oX4 q kd_size, aI K (q 3) 6 kd_high] sz)) 0 0 (va_A [oX4 q kd_size, aI K (q 3) 6 kd_high] sz) := by
  refine hMet (fun A => va_Qi (fun (r : Int32) (u : Unit) => post r) (fun u => hB G K A [oX4 q kd_size, aI K (q 3) 6 kd_high]) A) (by decide) rfl (Nat.le_of_ble_eq_true rfl) ?_
  intro p e s m av below meth c A Q ls hx hb hr hml hts hown hlocks hnm hA hP hK hD hS hE hQ hl
  have hts : ∀ w ∈ wsX4_fewestReaching, w.before av s = true := hts
  have hown : s.vm.findClass RX4 = some m.cls := hown
  have hl : lv_has ls 4 [(0, .ref (q 1)), (1, .int p1), (2, .int p2)] := hl
  unfold P_X4_fewestReaching at hw
  refine lv_aload_n (pc := 0) hx hb dX4_fewestReaching_0 rfl (lv_at hl 0 rfl) ?_
  refine va_get (pc := 1) (D := G) (ci := 4) (v := .ref (q 3)) (C := RX4) (T := TX4) (N := 3) hx hb hts iw_X4_fewestReaching_X4 hown hK hP 0 rfl rfl 1 (by decide) (hts _ (List.mem_of_getElem? (i := 1) rfl)) (fun _ h9 => h9) rfl dX4_fewestReaching_1 ?_
  refine lv_iload_n (pc := 4) hx hb dX4_fewestReaching_4 rfl (lv_at hl 1 rfl) ?_
  obtain ⟨h_1, hw⟩ := hw
  refine va_iald (pc := 5) hx hb hK hP 1 0 rfl rfl h_1 dX4_fewestReaching_5 ?_
  refine lv_topi (fun y_2 ey_2 => ?_)
  replace hw := hw y_2 ey_2
  refine lv_istore_n (pc := 6) (lv' := [(3, .int y_2), (0, .ref (q 1)), (1, .int p1), (2, .int p2)]) hx hb dX4_fewestReaching_6 rfl hl (by decide) rfl (fun ls hl => ?_)
  refine lv_iload_n (pc := 7) hx hb dX4_fewestReaching_7 rfl (lv_at hl 3 rfl) ?_
  obtain ⟨hsf, hw⟩ := hw
  have K_v_6 : ∀ v_6 : Int32, v_6 = (if p2 ≤ (0 : Int32) then (0 : Int32) else (if (1 : Int32) ≤ y_2 then (((p2 + y_2) - (1 : Int32)) / y_2) else (0 : Int32))) → W p l e rm_X4_fewestReaching s m av below meth c s.heap [] 0 0 Q (F0 m 27 ls [.int v_6]) := by
    intro v_6 ev_6
    replace hw := hw v_6 ev_6
    exact hRetI (S := Unit) () hx hb hr hlocks hQ hw hP hK hD hS dX4_fewestReaching_27
  refine lv_if_le (pc := 8) (tgt := 16) hx hb dX4_fewestReaching_8 (by decide) (fun c_3 => ?_) (fun c_3 => ?_)
  · replace hsf := hsf.1 c_3
    refine lv_iconst (pc := 16) (v := (0 : Int32)) hx hb dX4_fewestReaching_16 (by decide) ?_
    refine lv_goto (pc := 17) (tgt := 27) hx hb dX4_fewestReaching_17 (by decide) ?_
    exact K_v_6 _ (by rw [if_pos c_3])
  · replace hsf := hsf.2 c_3
    refine lv_iload_n (pc := 11) hx hb dX4_fewestReaching_11 rfl (lv_at hl 0 rfl) ?_
    refine lv_iconst (pc := 12) (v := (1 : Int32)) hx hb dX4_fewestReaching_12 (by decide) ?_
    refine lv_icmp_ge (pc := 13) (tgt := 20) hx hb dX4_fewestReaching_13 (by decide) (fun c_4 => ?_) (fun c_4 => ?_)
    · replace hsf := hsf.1 c_4
      refine lv_iload_n (pc := 20) hx hb dX4_fewestReaching_20 rfl (lv_at hl 3 rfl) ?_
      refine lv_iload_n (pc := 21) hx hb dX4_fewestReaching_21 rfl (lv_at hl 0 rfl) ?_
      refine lv_iadd (pc := 22) hx hb dX4_fewestReaching_22 ?_
      refine lv_iconst (pc := 23) (v := (1 : Int32)) hx hb dX4_fewestReaching_23 (by decide) ?_
      refine lv_isub (pc := 24) hx hb dX4_fewestReaching_24 ?_
      refine lv_iload_n (pc := 25) hx hb dX4_fewestReaching_25 rfl (lv_at hl 0 rfl) ?_
      obtain ⟨h_5, hsf⟩ := hsf
      refine lv_idiv (pc := 26) hx hb dX4_fewestReaching_26 h_5 ?_
      exact K_v_6 _ (by rw [if_neg c_3, if_pos c_4])
    · replace hsf := hsf.2 c_4
      refine lv_iconst (pc := 16) (v := (0 : Int32)) hx hb dX4_fewestReaching_16 (by decide) ?_
      refine lv_goto (pc := 17) (tgt := 27) hx hb dX4_fewestReaching_17 (by decide) ?_
      exact K_v_6 _ (by rw [if_neg c_3, if_neg c_4])
def P_X4_fewestBeside (post : Int32 → Prop) (p1 : Int32) (p2 : Int32) (p3 : Int32) (p4 : Int32) (kd_high : Nat → Int32) : Prop :=
  vp_in p1 6 ∧ P_X4_fewestReaching (fun r_2 => post r_2) p3 (p4 - (p2 * (kd_high p1.toNatClampNeg))) kd_high
abbrev rm_X4_fewestBeside : Room := { frames := 1, cells := 0, slots := 0, locals := 23 }
theorem iw_X4_fewestBeside_X4 : ∀ w ∈ wsX40, w ∈ wsX4_fewestBeside := by decide +kernel
set_option maxHeartbeats 4000000 in
set_option maxRecDepth 100000 in
theorem c_X4_fewestBeside (l : Launch) (G : va_G) (K : ClassId × ClassId × ClassId) (tb q : Nat → Nat) (sz : Nat) (kd_size : Int32) (post : Int32 → Prop) (p1 : Int32) (p2 : Int32) (p3 : Int32) (p4 : Int32) (kd_high : Nat → Int32) (hw : P_X4_fewestBeside post p1 p2 p3 p4 kd_high) : Met l yX4_fewestBeside wsX4_fewestBeside rm_X4_fewestBeside (va_Pc [.ref (q 1), .int p1, .int p2, .int p3, .int p4] (hPre G K tb [oX4 q kd_size, aI K (q 3) 6 kd_high] sz)) (va_Qi (fun (r : Int32) (u : Unit) => post r) (fun u => hB G K (va_A [oX4 q kd_size, aI K (q 3) 6 kd_high] sz) [oX4 q kd_size, aI K (q 3) 6 kd_high]) (va_A [oX4 q kd_size, aI K (q 3) 6 kd_high] sz)) 0 0 (va_A [oX4 q kd_size, aI K (q 3) 6 kd_high] sz) := by
  refine hMet (fun A => va_Qi (fun (r : Int32) (u : Unit) => post r) (fun u => hB G K A [oX4 q kd_size, aI K (q 3) 6 kd_high]) A) (by decide) rfl (Nat.le_of_ble_eq_true rfl) ?_
  intro p e s m av below meth c A Q ls hx hb hr hml hts hown hlocks hnm hA hP hK hD hS hE hQ hl
  have hts : ∀ w ∈ wsX4_fewestBeside, w.before av s = true := hts
  have hown : s.vm.findClass RX4 = some m.cls := hown
  have hl : lv_has ls 5 [(0, .ref (q 1)), (1, .int p1), (2, .int p2), (3, .int p3), (4, .int p4)] := hl
  unfold P_X4_fewestBeside at hw
  refine lv_aload_n (pc := 0) hx hb dX4_fewestBeside_0 rfl (lv_at hl 0 rfl) ?_
  refine lv_iload_n (pc := 1) hx hb dX4_fewestBeside_1 rfl (lv_at hl 3 rfl) ?_
  refine lv_iload (pc := 2) hx hb dX4_fewestBeside_2 (lv_at hl 4 rfl) ?_
  refine lv_iload_n (pc := 4) hx hb dX4_fewestBeside_4 rfl (lv_at hl 2 rfl) ?_
  refine lv_aload_n (pc := 5) hx hb dX4_fewestBeside_5 rfl (lv_at hl 0 rfl) ?_
  refine va_get (pc := 6) (D := G) (ci := 4) (v := .ref (q 3)) (C := RX4) (T := TX4) (N := 3) hx hb hts iw_X4_fewestBeside_X4 hown hK hP 0 rfl rfl 1 (by decide) (hts _ (List.mem_of_getElem? (i := 1) rfl)) (fun _ h9 => h9) rfl dX4_fewestBeside_6 ?_
  refine lv_iload_n (pc := 9) hx hb dX4_fewestBeside_9 rfl (lv_at hl 1 rfl) ?_
  obtain ⟨h_1, hw⟩ := hw
  refine va_iald (pc := 10) hx hb hK hP 1 0 rfl rfl h_1 dX4_fewestBeside_10 ?_
  refine lv_imul (pc := 11) hx hb dX4_fewestBeside_11 ?_
  refine lv_isub (pc := 12) hx hb dX4_fewestBeside_12 ?_
  refine hCallI (pc := 13) (wr := []) (wsf := fun (u : Unit) => [oX4 q kd_size, aI K (q 3) 6 kd_high]) [0, 1] [] (va_runV (As := [.int p3, .int (p4 - (p2 * (kd_high p1.toNatClampNeg)))]) (rest := []) ⟨hx, hb, hml, hown, hts⟩ (c_X4_fewestReaching l G K tb q s.heap.size kd_size _ p3 (p4 - (p2 * (kd_high p1.toNatClampNeg))) kd_high hw) (cwV 2 hts gX4_fewestBeside_X4_fewestReaching rfl rfl rfl (by decide +kernel) ⟨Nat.le_of_ble_eq_true rfl, Nat.le_of_ble_eq_true rfl⟩) (hPreV hE hP hK hD hS hA [0, 1] (by decide) rfl rfl rfl rfl (q0 := 0) (ci := 4) rfl) rfl rfl hl.1 rfl (lv_room (Nat.le_of_ble_eq_true rfl)) dX4_fewestBeside_13 ⟨Nat.zero_le _, Nat.zero_le _⟩) hP hD hS hA rfl rfl (by decide) (by decide) (fun r_2 u H locs hw hP hD hS => ?_)
  have hP : va_P G vwCl [oX4 q kd_size, aI K (q 3) 6 kd_high] H := hP.sub [0, 1] rfl
  have hD : va_D A [oX4 q kd_size, aI K (q 3) 6 kd_high] := hD.sub [0, 1] (by decide) rfl
  exact hRetI (S := Unit) () hx hb hr hlocks hQ hw hP hK hD hS dX4_fewestBeside_16
def P_X4_has (post : Int32 → Prop) (p1 : Int32) (kd_size : Int32) : Prop :=
  P_X10_within (fun r_1 => (r_1 = 0 ∨ r_1 = 1) ∧ post r_1) p1 (0 : Int32) (kd_size - (1 : Int32))
abbrev rm_X4_has : Room := { frames := 1, cells := 0, slots := 0, locals := 22 }
theorem iw_X4_has_X4 : ∀ w ∈ wsX40, w ∈ wsX4_has := by decide +kernel
set_option maxHeartbeats 4000000 in
set_option maxRecDepth 100000 in
theorem c_X4_has (l : Launch) (G : va_G) (K : ClassId × ClassId × ClassId) (tb q : Nat → Nat) (sz : Nat) (post : Int32 → Prop) (p1 : Int32) (kd_size : Int32) (hw : P_X4_has post p1 kd_size) : Met l yX4_has wsX4_has rm_X4_has (va_Pc [.ref (q 1), .int p1] (hPre G K tb [oX4 q kd_size] sz)) (va_Qi (fun (r : Int32) (u : Unit) => post r) (fun u => hB G K (va_A [oX4 q kd_size] sz) [oX4 q kd_size]) (va_A [oX4 q kd_size] sz)) 0 0 (va_A [oX4 q kd_size] sz) := by
  refine hMet (fun A => va_Qi (fun (r : Int32) (u : Unit) => post r) (fun u => hB G K A [oX4 q kd_size]) A) (by decide) rfl (Nat.le_of_ble_eq_true rfl) ?_
  intro p e s m av below meth c A Q ls hx hb hr hml hts hown hlocks hnm hA hP hK hD hS hE hQ hl
  have hts : ∀ w ∈ wsX4_has, w.before av s = true := hts
  have hown : s.vm.findClass RX4 = some m.cls := hown
  have hl : lv_has ls 2 [(0, .ref (q 1)), (1, .int p1)] := hl
  unfold P_X4_has at hw
  refine lv_iload_n (pc := 0) hx hb dX4_has_0 rfl (lv_at hl 1 rfl) ?_
  refine lv_iconst (pc := 1) (v := (0 : Int32)) hx hb dX4_has_1 (by decide) ?_
  refine lv_aload_n (pc := 2) hx hb dX4_has_2 rfl (lv_at hl 0 rfl) ?_
  refine va_get (pc := 3) (D := G) (ci := 4) (v := .int kd_size) (C := RX4) (T := TX4) (N := 3) hx hb hts iw_X4_has_X4 hown hK hP 0 rfl rfl 2 (by decide) (hts _ (List.mem_of_getElem? (i := 1) rfl)) (fun _ h9 => h9) rfl dX4_has_3 ?_
  refine lv_iconst (pc := 6) (v := (1 : Int32)) hx hb dX4_has_6 (by decide) ?_
  refine lv_isub (pc := 7) hx hb dX4_has_7 ?_
  refine hCallI (pc := 8) (wr := [oX4 q kd_size]) (wsf := fun (u : Unit) => []) [] [0] (va_runSN (As := [.int p1, .int (0 : Int32), .int (kd_size - (1 : Int32))]) (rest := []) ⟨hx, hb, hml, hown, hts⟩ (c_X10_within l G K tb q s.heap.size _ p1 (0 : Int32) (kd_size - (1 : Int32)) hw) ⟨va_cnB 3 hts gX4_has_X10_within_n22 rfl rfl rfl (hE.nw 30 rfl) (hts _ (List.mem_of_getElem? (i := 3) rfl)) (by decide +kernel) ⟨Nat.le_of_ble_eq_true rfl, Nat.le_of_ble_eq_true rfl⟩, (hts _ (List.mem_of_getElem? (i := 2) rfl)), trivial⟩ (hPreS hE hP hK hD hS hA [] (by decide) rfl rfl) rfl rfl hl.1 rfl (lv_room (Nat.le_of_ble_eq_true rfl)) dX4_has_8 ⟨Nat.zero_le _, Nat.zero_le _⟩) hP hD hS hA rfl rfl (by decide) (by decide) (fun r_1 u H locs hw hP hD hS => ?_)
  have hP : va_P G vwCl [oX4 q kd_size] H := hP.sub [0] rfl
  have hD : va_D A [oX4 q kd_size] := hD.sub [0] (by decide) rfl
  obtain ⟨h_2, hw⟩ := hw
  exact hRetZ (S := Unit) () hx hb hr hlocks hQ h_2 hw hP hK hD hS dX4_has_11
def P_X4_mostWithin (post : Int32 → Prop) (p1 : Int32) (p2 : Int32) (kd_low : Nat → Int32) : Prop :=
  vp_in p1 6 ∧ ∀ y_2 : Int32, y_2 = (kd_low p1.toNatClampNeg) → ((p2 < (0 : Int32) → True) ∧ (¬ p2 < (0 : Int32) → (((1 : Int32) ≤ y_2 → (¬ y_2 = 0 ∧ True)) ∧ (¬ (1 : Int32) ≤ y_2 → True)))) ∧ ∀ v_6 : Int32, v_6 = (if p2 < (0 : Int32) then (-1 : Int32) else (if (1 : Int32) ≤ y_2 then (p2 / y_2) else (-1 : Int32))) → post v_6
abbrev rm_X4_mostWithin : Room := { frames := 0, cells := 0, slots := 0, locals := 0 }
theorem iw_X4_mostWithin_X4 : ∀ w ∈ wsX40, w ∈ wsX4_mostWithin := by decide +kernel
set_option maxHeartbeats 4000000 in
set_option maxRecDepth 100000 in
theorem c_X4_mostWithin (l : Launch) (G : va_G) (K : ClassId × ClassId × ClassId) (tb q : Nat → Nat) (sz : Nat) (kd_size : Int32) (post : Int32 → Prop) (p1 : Int32) (p2 : Int32) (kd_low : Nat → Int32) (hw : P_X4_mostWithin post p1 p2 kd_low) : Met l yX4_mostWithin wsX4_mostWithin rm_X4_mostWithin (va_Pc [.ref (q 1), .int p1, .int p2] (hPre G K tb [oX4 q kd_size, aI K (q 2) 6 kd_low] sz)) (va_Qi (fun (r : Int32) (u : Unit) => post r) (fun u => hB G K (va_A [oX4 q kd_size, aI K (q 2) 6 kd_low] sz) [oX4 q kd_size, aI K (q 2) 6 kd_low]) (va_A [oX4 q kd_size, aI K (q 2) 6 kd_low] sz)) 0 0 (va_A [oX4 q kd_size, aI K (q 2) 6 kd_low] sz) := by
  refine hMet (fun A => va_Qi (fun (r : Int32) (u : Unit) => post r) (fun u => hB G K A [oX4 q kd_size, aI K (q 2) 6 kd_low]) A) (by decide) rfl (Nat.le_of_ble_eq_true rfl) ?_
  intro p e s m av below meth c A Q ls hx hb hr hml hts hown hlocks hnm hA hP hK hD hS hE hQ hl
  have hts : ∀ w ∈ wsX4_mostWithin, w.before av s = true := hts
  have hown : s.vm.findClass RX4 = some m.cls := hown
  have hl : lv_has ls 4 [(0, .ref (q 1)), (1, .int p1), (2, .int p2)] := hl
  unfold P_X4_mostWithin at hw
  refine lv_aload_n (pc := 0) hx hb dX4_mostWithin_0 rfl (lv_at hl 0 rfl) ?_
  refine va_get (pc := 1) (D := G) (ci := 4) (v := .ref (q 2)) (C := RX4) (T := TX4) (N := 3) hx hb hts iw_X4_mostWithin_X4 hown hK hP 0 rfl rfl 0 (by decide) (hts _ (List.mem_of_getElem? (i := 1) rfl)) (fun _ h9 => h9) rfl dX4_mostWithin_1 ?_
  refine lv_iload_n (pc := 4) hx hb dX4_mostWithin_4 rfl (lv_at hl 1 rfl) ?_
  obtain ⟨h_1, hw⟩ := hw
  refine va_iald (pc := 5) hx hb hK hP 1 0 rfl rfl h_1 dX4_mostWithin_5 ?_
  refine lv_topi (fun y_2 ey_2 => ?_)
  replace hw := hw y_2 ey_2
  refine lv_istore_n (pc := 6) (lv' := [(3, .int y_2), (0, .ref (q 1)), (1, .int p1), (2, .int p2)]) hx hb dX4_mostWithin_6 rfl hl (by decide) rfl (fun ls hl => ?_)
  refine lv_iload_n (pc := 7) hx hb dX4_mostWithin_7 rfl (lv_at hl 3 rfl) ?_
  obtain ⟨hsf, hw⟩ := hw
  have K_v_6 : ∀ v_6 : Int32, v_6 = (if p2 < (0 : Int32) then (-1 : Int32) else (if (1 : Int32) ≤ y_2 then (p2 / y_2) else (-1 : Int32))) → W p l e rm_X4_mostWithin s m av below meth c s.heap [] 0 0 Q (F0 m 23 ls [.int v_6]) := by
    intro v_6 ev_6
    replace hw := hw v_6 ev_6
    exact hRetI (S := Unit) () hx hb hr hlocks hQ hw hP hK hD hS dX4_mostWithin_23
  refine lv_if_lt (pc := 8) (tgt := 16) hx hb dX4_mostWithin_8 (by decide) (fun c_3 => ?_) (fun c_3 => ?_)
  · replace hsf := hsf.1 c_3
    refine lv_iconst (pc := 16) (v := (-1 : Int32)) hx hb dX4_mostWithin_16 (by decide) ?_
    refine lv_goto (pc := 17) (tgt := 23) hx hb dX4_mostWithin_17 (by decide) ?_
    exact K_v_6 _ (by rw [if_pos c_3])
  · replace hsf := hsf.2 c_3
    refine lv_iload_n (pc := 11) hx hb dX4_mostWithin_11 rfl (lv_at hl 0 rfl) ?_
    refine lv_iconst (pc := 12) (v := (1 : Int32)) hx hb dX4_mostWithin_12 (by decide) ?_
    refine lv_icmp_ge (pc := 13) (tgt := 20) hx hb dX4_mostWithin_13 (by decide) (fun c_4 => ?_) (fun c_4 => ?_)
    · replace hsf := hsf.1 c_4
      refine lv_iload_n (pc := 20) hx hb dX4_mostWithin_20 rfl (lv_at hl 3 rfl) ?_
      refine lv_iload_n (pc := 21) hx hb dX4_mostWithin_21 rfl (lv_at hl 0 rfl) ?_
      obtain ⟨h_5, hsf⟩ := hsf
      refine lv_idiv (pc := 22) hx hb dX4_mostWithin_22 h_5 ?_
      exact K_v_6 _ (by rw [if_neg c_3, if_pos c_4])
    · replace hsf := hsf.2 c_4
      refine lv_iconst (pc := 16) (v := (-1 : Int32)) hx hb dX4_mostWithin_16 (by decide) ?_
      refine lv_goto (pc := 17) (tgt := 23) hx hb dX4_mostWithin_17 (by decide) ?_
      exact K_v_6 _ (by rw [if_neg c_3, if_neg c_4])
def P_X4_mostBeside (post : Int32 → Prop) (p1 : Int32) (p2 : Int32) (p3 : Int32) (p4 : Int32) (kd_low : Nat → Int32) : Prop :=
  vp_in p1 6 ∧ P_X4_mostWithin (fun r_2 => ∀ y_3 : Int32, y_3 = (if r_2 < (200 : Int32) then r_2 else (200 : Int32)) → post y_3) p3 (p4 - (p2 * (kd_low p1.toNatClampNeg))) kd_low
abbrev rm_X4_mostBeside : Room := { frames := 1, cells := 0, slots := 0, locals := 23 }
theorem iw_X4_mostBeside_X4 : ∀ w ∈ wsX40, w ∈ wsX4_mostBeside := by decide +kernel
set_option maxHeartbeats 4000000 in
set_option maxRecDepth 100000 in
theorem c_X4_mostBeside (l : Launch) (G : va_G) (K : ClassId × ClassId × ClassId) (tb q : Nat → Nat) (sz : Nat) (kd_size : Int32) (post : Int32 → Prop) (p1 : Int32) (p2 : Int32) (p3 : Int32) (p4 : Int32) (kd_low : Nat → Int32) (hw : P_X4_mostBeside post p1 p2 p3 p4 kd_low) : Met l yX4_mostBeside wsX4_mostBeside rm_X4_mostBeside (va_Pc [.ref (q 1), .int p1, .int p2, .int p3, .int p4] (hPre G K tb [oX4 q kd_size, aI K (q 2) 6 kd_low] sz)) (va_Qi (fun (r : Int32) (u : Unit) => post r) (fun u => hB G K (va_A [oX4 q kd_size, aI K (q 2) 6 kd_low] sz) [oX4 q kd_size, aI K (q 2) 6 kd_low]) (va_A [oX4 q kd_size, aI K (q 2) 6 kd_low] sz)) 0 0 (va_A [oX4 q kd_size, aI K (q 2) 6 kd_low] sz) := by
  refine hMet (fun A => va_Qi (fun (r : Int32) (u : Unit) => post r) (fun u => hB G K A [oX4 q kd_size, aI K (q 2) 6 kd_low]) A) (by decide) rfl (Nat.le_of_ble_eq_true rfl) ?_
  intro p e s m av below meth c A Q ls hx hb hr hml hts hown hlocks hnm hA hP hK hD hS hE hQ hl
  have hts : ∀ w ∈ wsX4_mostBeside, w.before av s = true := hts
  have hown : s.vm.findClass RX4 = some m.cls := hown
  have hl : lv_has ls 5 [(0, .ref (q 1)), (1, .int p1), (2, .int p2), (3, .int p3), (4, .int p4)] := hl
  unfold P_X4_mostBeside at hw
  refine lv_sipush (pc := 0) (v := (200 : Int32)) hx hb dX4_mostBeside_0 (by decide) ?_
  refine lv_aload_n (pc := 3) hx hb dX4_mostBeside_3 rfl (lv_at hl 0 rfl) ?_
  refine lv_iload_n (pc := 4) hx hb dX4_mostBeside_4 rfl (lv_at hl 3 rfl) ?_
  refine lv_iload (pc := 5) hx hb dX4_mostBeside_5 (lv_at hl 4 rfl) ?_
  refine lv_iload_n (pc := 7) hx hb dX4_mostBeside_7 rfl (lv_at hl 2 rfl) ?_
  refine lv_aload_n (pc := 8) hx hb dX4_mostBeside_8 rfl (lv_at hl 0 rfl) ?_
  refine va_get (pc := 9) (D := G) (ci := 4) (v := .ref (q 2)) (C := RX4) (T := TX4) (N := 3) hx hb hts iw_X4_mostBeside_X4 hown hK hP 0 rfl rfl 0 (by decide) (hts _ (List.mem_of_getElem? (i := 1) rfl)) (fun _ h9 => h9) rfl dX4_mostBeside_9 ?_
  refine lv_iload_n (pc := 12) hx hb dX4_mostBeside_12 rfl (lv_at hl 1 rfl) ?_
  obtain ⟨h_1, hw⟩ := hw
  refine va_iald (pc := 13) hx hb hK hP 1 0 rfl rfl h_1 dX4_mostBeside_13 ?_
  refine lv_imul (pc := 14) hx hb dX4_mostBeside_14 ?_
  refine lv_isub (pc := 15) hx hb dX4_mostBeside_15 ?_
  refine hCallI (pc := 16) (wr := []) (wsf := fun (u : Unit) => [oX4 q kd_size, aI K (q 2) 6 kd_low]) [0, 1] [] (va_runV (As := [.int p3, .int (p4 - (p2 * (kd_low p1.toNatClampNeg)))]) (rest := [.int (200 : Int32)]) ⟨hx, hb, hml, hown, hts⟩ (c_X4_mostWithin l G K tb q s.heap.size kd_size _ p3 (p4 - (p2 * (kd_low p1.toNatClampNeg))) kd_low hw) (cwV 2 hts gX4_mostBeside_X4_mostWithin rfl rfl rfl (by decide +kernel) ⟨Nat.le_of_ble_eq_true rfl, Nat.le_of_ble_eq_true rfl⟩) (hPreV hE hP hK hD hS hA [0, 1] (by decide) rfl rfl rfl rfl (q0 := 0) (ci := 4) rfl) rfl rfl hl.1 rfl (lv_room (Nat.le_of_ble_eq_true rfl)) dX4_mostBeside_16 ⟨Nat.zero_le _, Nat.zero_le _⟩) hP hD hS hA rfl rfl (by decide) (by decide) (fun r_2 u H locs hw hP hD hS => ?_)
  have hP : va_P G vwCl [oX4 q kd_size, aI K (q 2) 6 kd_low] H := hP.sub [0, 1] rfl
  have hD : va_D A [oX4 q kd_size, aI K (q 2) 6 kd_low] := hD.sub [0, 1] (by decide) rfl
  refine va_mmin (pc := 19) hx hb (hml.trans hl.1.symm) hown (hts _ (List.mem_of_getElem? (i := 2) rfl)) (hts _ (List.mem_of_getElem? (i := 3) rfl)) (hts _ (List.mem_of_getElem? (i := 4) rfl)) (hts _ (List.mem_of_getElem? (i := 5) rfl)) (Nat.le_of_ble_eq_true rfl) (Nat.le_of_ble_eq_true rfl) (Nat.zero_le _) (Nat.zero_le _) dX4_mostBeside_19 ?_
  refine lv_topi (fun y_3 ey_3 => ?_)
  replace hw := hw y_3 ey_3
  exact hRetI (S := Unit) () hx hb hr hlocks hQ hw hP hK hD hS dX4_mostBeside_22
def P_X4_pairAt (post : Int32 → Prop) (p1 : Int32) (p2 : Int32) (p3 : Int32) (p4 : Int32) (p5 : Int32) (kd_low : Nat → Int32) (kd_high : Nat → Int32) : Prop :=
  ∀ (X15 : Int32 → Int32 → Prop),
  (∀ (x6 : Int32) (x7 : Int32), ((((200 : Int32) < x7 → post (-9 : Int32)) ∧ (¬ (200 : Int32) < x7 → P_X4_fewestBeside (fun r_3 => P_X4_mostBeside (fun r_4 => ∀ y_5 : Int32, y_5 = (if (0 : Int32) < ((r_4 - r_3) + (1 : Int32)) then ((r_4 - r_3) + (1 : Int32)) else (0 : Int32)) → ((y_5 ≤ x6 → ∀ y_7 : Int32, y_7 = (x6 - y_5) → ∀ y_8 : Int32, y_8 = (x7 + (1 : Int32)) → X15 y_7 y_8) ∧ (¬ y_5 ≤ x6 → post ((((1000 : Int32) * x7) + r_3) + x6)))) p1 x7 p2 (p3 + p4) kd_low) p1 x7 p2 (p3 - p4) kd_high))) → X15 x6 x7) →
  (((0 : Int32) ≤ p5 → X15 p5 (0 : Int32)) ∧ (¬ (0 : Int32) ≤ p5 → post (-9 : Int32)))
abbrev rm_X4_pairAt : Room := { frames := 2, cells := 0, slots := 0, locals := 47 }
set_option maxHeartbeats 4000000 in
set_option maxRecDepth 100000 in
theorem c_X4_pairAt (l : Launch) (G : va_G) (K : ClassId × ClassId × ClassId) (tb q : Nat → Nat) (sz : Nat) (kd_size : Int32) (post : Int32 → Prop) (p1 : Int32) (p2 : Int32) (p3 : Int32) (p4 : Int32) (p5 : Int32) (kd_low : Nat → Int32) (kd_high : Nat → Int32) (hw : P_X4_pairAt post p1 p2 p3 p4 p5 kd_low kd_high) : Met l yX4_pairAt wsX4_pairAt rm_X4_pairAt (va_Pc [.ref (q 1), .int p1, .int p2, .int p3, .int p4, .int p5] (hPre G K tb [oX4 q kd_size, aI K (q 2) 6 kd_low, aI K (q 3) 6 kd_high] sz)) (va_Qi (fun (r : Int32) (u : Unit) => post r) (fun u => hB G K (va_A [oX4 q kd_size, aI K (q 2) 6 kd_low, aI K (q 3) 6 kd_high] sz) [oX4 q kd_size, aI K (q 2) 6 kd_low, aI K (q 3) 6 kd_high]) (va_A [oX4 q kd_size, aI K (q 2) 6 kd_low, aI K (q 3) 6 kd_high] sz)) 0 0 (va_A [oX4 q kd_size, aI K (q 2) 6 kd_low, aI K (q 3) 6 kd_high] sz) := by
  refine hMet (fun A => va_Qi (fun (r : Int32) (u : Unit) => post r) (fun u => hB G K A [oX4 q kd_size, aI K (q 2) 6 kd_low, aI K (q 3) 6 kd_high]) A) (by decide) rfl (Nat.le_of_ble_eq_true rfl) ?_
  intro p e s m av below meth c A Q ls hx hb hr hml hts hown hlocks hnm hA hP hK hD hS hE hQ hl
  have hts : ∀ w ∈ wsX4_pairAt, w.before av s = true := hts
  have hown : s.vm.findClass RX4 = some m.cls := hown
  have hl : lv_has ls 11 [(0, .ref (q 1)), (1, .int p1), (2, .int p2), (3, .int p3), (4, .int p4), (5, .int p5)] := hl
  unfold P_X4_pairAt at hw
  replace hw := hw (fun (x6 : Int32) (x7 : Int32) => ∀ (H : Heap) (locs : List Loc) (ls : Array Slot), va_P G vwCl [oX4 q kd_size, aI K (q 2) 6 kd_low, aI K (q 3) 6 kd_high] H → va_D A [oX4 q kd_size, aI K (q 2) 6 kd_low, aI K (q 3) 6 kd_high] → va_S A s.heap H locs → lv_has ls 11 [(0, .ref (q 1)), (1, .int p1), (2, .int p2), (3, .int p3), (4, .int p4), (6, .int x6), (7, .int x7)] → W p l e rm_X4_pairAt s m av below meth c H locs 0 0 Q (F0 m 15 ls []))
  replace hw := hw (by
    intro x6 x7 hw H locs ls hP hD hS hl
    refine lv_iload (pc := 15) hx hb dX4_pairAt_15 (lv_at hl 6 rfl) ?_
    refine lv_sipush (pc := 17) (v := (200 : Int32)) hx hb dX4_pairAt_17 (by decide) ?_
    refine lv_icmp_gt (pc := 20) (tgt := 97) hx hb dX4_pairAt_20 (by decide) (fun c_2 => ?_) (fun c_2 => ?_)
    · replace hw := hw.1 c_2
      refine lv_bipush (pc := 97) (v := (-9 : Int32)) hx hb dX4_pairAt_97 (by decide) ?_
      exact hRetI (S := Unit) () hx hb hr hlocks hQ hw hP hK hD hS dX4_pairAt_99
    · replace hw := hw.2 c_2
      refine lv_aload_n (pc := 23) hx hb dX4_pairAt_23 rfl (lv_at hl 0 rfl) ?_
      refine lv_iload_n (pc := 24) hx hb dX4_pairAt_24 rfl (lv_at hl 1 rfl) ?_
      refine lv_iload (pc := 25) hx hb dX4_pairAt_25 (lv_at hl 6 rfl) ?_
      refine lv_iload_n (pc := 27) hx hb dX4_pairAt_27 rfl (lv_at hl 2 rfl) ?_
      refine lv_iload_n (pc := 28) hx hb dX4_pairAt_28 rfl (lv_at hl 3 rfl) ?_
      refine lv_iload (pc := 29) hx hb dX4_pairAt_29 (lv_at hl 4 rfl) ?_
      refine lv_isub (pc := 31) hx hb dX4_pairAt_31 ?_
      refine hCallI (pc := 32) (wr := [aI K (q 2) 6 kd_low]) (wsf := fun (u : Unit) => [oX4 q kd_size, aI K (q 3) 6 kd_high]) [0, 2] [1] (va_runV (As := [.int p1, .int x7, .int p2, .int (p3 - p4)]) (rest := []) ⟨hx, hb, hml, hown, hts⟩ (c_X4_fewestBeside l G K tb q H.size kd_size _ p1 x7 p2 (p3 - p4) kd_high hw) (cwV 4 hts gX4_pairAt_X4_fewestBeside rfl rfl rfl (by decide +kernel) ⟨Nat.le_of_ble_eq_true rfl, Nat.le_of_ble_eq_true rfl⟩) (hPreV hE hP hK hD hS hA [0, 2] (by decide) rfl rfl rfl rfl (q0 := 0) (ci := 4) rfl) rfl rfl hl.1 rfl (lv_room (Nat.le_of_ble_eq_true rfl)) dX4_pairAt_32 ⟨Nat.zero_le _, Nat.zero_le _⟩) hP hD hS hA rfl rfl (by decide) (by decide) (fun r_3 u H locs hw hP hD hS => ?_)
      have hP : va_P G vwCl [oX4 q kd_size, aI K (q 2) 6 kd_low, aI K (q 3) 6 kd_high] H := hP.sub [1, 0, 2] rfl
      have hD : va_D A [oX4 q kd_size, aI K (q 2) 6 kd_low, aI K (q 3) 6 kd_high] := hD.sub [1, 0, 2] (by decide) rfl
      refine lv_istore (pc := 35) (lv' := [(8, .int r_3), (0, .ref (q 1)), (1, .int p1), (2, .int p2), (3, .int p3), (4, .int p4), (6, .int x6), (7, .int x7)]) hx hb dX4_pairAt_35 hl (by decide) rfl (fun ls hl => ?_)
      refine lv_aload_n (pc := 37) hx hb dX4_pairAt_37 rfl (lv_at hl 1 rfl) ?_
      refine lv_iload_n (pc := 38) hx hb dX4_pairAt_38 rfl (lv_at hl 2 rfl) ?_
      refine lv_iload (pc := 39) hx hb dX4_pairAt_39 (lv_at hl 7 rfl) ?_
      refine lv_iload_n (pc := 41) hx hb dX4_pairAt_41 rfl (lv_at hl 3 rfl) ?_
      refine lv_iload_n (pc := 42) hx hb dX4_pairAt_42 rfl (lv_at hl 4 rfl) ?_
      refine lv_iload (pc := 43) hx hb dX4_pairAt_43 (lv_at hl 5 rfl) ?_
      refine lv_iadd (pc := 45) hx hb dX4_pairAt_45 ?_
      refine hCallI (pc := 46) (wr := [aI K (q 3) 6 kd_high]) (wsf := fun (u : Unit) => [oX4 q kd_size, aI K (q 2) 6 kd_low]) [0, 1] [2] (va_runV (As := [.int p1, .int x7, .int p2, .int (p3 + p4)]) (rest := []) ⟨hx, hb, hml, hown, hts⟩ (c_X4_mostBeside l G K tb q H.size kd_size _ p1 x7 p2 (p3 + p4) kd_low hw) (cwV 4 hts gX4_pairAt_X4_mostBeside rfl rfl rfl (by decide +kernel) ⟨Nat.le_of_ble_eq_true rfl, Nat.le_of_ble_eq_true rfl⟩) (hPreV hE hP hK hD hS hA [0, 1] (by decide) rfl rfl rfl rfl (q0 := 0) (ci := 4) rfl) rfl rfl hl.1 rfl (lv_room (Nat.le_of_ble_eq_true rfl)) dX4_pairAt_46 ⟨Nat.zero_le _, Nat.zero_le _⟩) hP hD hS hA rfl rfl (by decide) (by decide) (fun r_4 u H locs hw hP hD hS => ?_)
      have hP : va_P G vwCl [oX4 q kd_size, aI K (q 2) 6 kd_low, aI K (q 3) 6 kd_high] H := hP.sub [1, 2, 0] rfl
      have hD : va_D A [oX4 q kd_size, aI K (q 2) 6 kd_low, aI K (q 3) 6 kd_high] := hD.sub [1, 2, 0] (by decide) rfl
      refine lv_istore (pc := 49) (lv' := [(9, .int r_4), (8, .int r_3), (0, .ref (q 1)), (1, .int p1), (2, .int p2), (3, .int p3), (4, .int p4), (6, .int x6), (7, .int x7)]) hx hb dX4_pairAt_49 hl (by decide) rfl (fun ls hl => ?_)
      refine lv_iconst (pc := 51) (v := (0 : Int32)) hx hb dX4_pairAt_51 (by decide) ?_
      refine lv_iload (pc := 52) hx hb dX4_pairAt_52 (lv_at hl 0 rfl) ?_
      refine lv_iload (pc := 54) hx hb dX4_pairAt_54 (lv_at hl 1 rfl) ?_
      refine lv_isub (pc := 56) hx hb dX4_pairAt_56 ?_
      refine lv_iconst (pc := 57) (v := (1 : Int32)) hx hb dX4_pairAt_57 (by decide) ?_
      refine lv_iadd (pc := 58) hx hb dX4_pairAt_58 ?_
      refine va_mmax (pc := 59) hx hb (hml.trans hl.1.symm) hown (hts _ (List.mem_of_getElem? (i := 1) rfl)) (hts _ (List.mem_of_getElem? (i := 2) rfl)) (hts _ (List.mem_of_getElem? (i := 3) rfl)) (hts _ (List.mem_of_getElem? (i := 4) rfl)) (Nat.le_of_ble_eq_true rfl) (Nat.le_of_ble_eq_true rfl) (Nat.zero_le _) (Nat.zero_le _) dX4_pairAt_59 ?_
      refine lv_topi (fun y_5 ey_5 => ?_)
      replace hw := hw y_5 ey_5
      refine lv_istore (pc := 62) (lv' := [(10, .int y_5), (9, .int r_4), (8, .int r_3), (0, .ref (q 1)), (1, .int p1), (2, .int p2), (3, .int p3), (4, .int p4), (6, .int x6), (7, .int x7)]) hx hb dX4_pairAt_62 hl (by decide) rfl (fun ls hl => ?_)
      refine lv_iload (pc := 64) hx hb dX4_pairAt_64 (lv_at hl 8 rfl) ?_
      refine lv_iload (pc := 66) hx hb dX4_pairAt_66 (lv_at hl 0 rfl) ?_
      refine lv_icmp_ge (pc := 68) (tgt := 84) hx hb dX4_pairAt_68 (by decide) (fun c_6 => ?_) (fun c_6 => ?_)
      · replace hw := hw.1 c_6
        refine lv_iload (pc := 84) hx hb dX4_pairAt_84 (lv_at hl 8 rfl) ?_
        refine lv_iload (pc := 86) hx hb dX4_pairAt_86 (lv_at hl 0 rfl) ?_
        refine lv_isub (pc := 88) hx hb dX4_pairAt_88 ?_
        refine lv_topi (fun y_7 ey_7 => ?_)
        replace hw := hw y_7 ey_7
        refine lv_istore (pc := 89) (lv' := [(6, .int y_7), (10, .int y_5), (9, .int r_4), (8, .int r_3), (0, .ref (q 1)), (1, .int p1), (2, .int p2), (3, .int p3), (4, .int p4), (7, .int x7)]) hx hb dX4_pairAt_89 hl (by decide) rfl (fun ls hl => ?_)
        obtain ⟨y_8, ey_8⟩ : ∃ z : Int32, z = (x7 + (1 : Int32)) := ⟨_, rfl⟩
        replace hw := hw y_8 ey_8
        refine lv_iinc (pc := 91) (v := y_8) (lv' := [(7, .int y_8), (6, .int y_7), (10, .int y_5), (9, .int r_4), (8, .int r_3), (0, .ref (q 1)), (1, .int p1), (2, .int p2), (3, .int p3), (4, .int p4)]) hx hb dX4_pairAt_91 hl (k := 9) rfl (by rw [ey_8]; rfl) (by decide) rfl (fun ls hl => ?_)
        refine lv_goto (pc := 94) (tgt := 15) hx hb dX4_pairAt_94 (by decide) ?_
        exact hw _ _ _ hP hD hS (lv_sub hl [5, 6, 7, 8, 9, 1, 0] rfl)
      · replace hw := hw.2 c_6
        refine lv_sipush (pc := 71) (v := (1000 : Int32)) hx hb dX4_pairAt_71 (by decide) ?_
        refine lv_iload (pc := 74) hx hb dX4_pairAt_74 (lv_at hl 9 rfl) ?_
        refine lv_imul (pc := 76) hx hb dX4_pairAt_76 ?_
        refine lv_iload (pc := 77) hx hb dX4_pairAt_77 (lv_at hl 2 rfl) ?_
        refine lv_iadd (pc := 79) hx hb dX4_pairAt_79 ?_
        refine lv_iload (pc := 80) hx hb dX4_pairAt_80 (lv_at hl 8 rfl) ?_
        refine lv_iadd (pc := 82) hx hb dX4_pairAt_82 ?_
        exact hRetI (S := Unit) () hx hb hr hlocks hQ hw hP hK hD hS dX4_pairAt_83)
  refine lv_iload (pc := 0) hx hb dX4_pairAt_0 (lv_at hl 5 rfl) ?_
  refine lv_if_ge (pc := 2) (tgt := 8) hx hb dX4_pairAt_2 (by decide) (fun c_1 => ?_) (fun c_1 => ?_)
  · replace hw := hw.1 c_1
    refine lv_iload (pc := 8) hx hb dX4_pairAt_8 (lv_at hl 5 rfl) ?_
    refine lv_istore (pc := 10) (lv' := [(6, .int p5), (0, .ref (q 1)), (1, .int p1), (2, .int p2), (3, .int p3), (4, .int p4), (5, .int p5)]) hx hb dX4_pairAt_10 hl (by decide) rfl (fun ls hl => ?_)
    refine lv_iconst (pc := 12) (v := (0 : Int32)) hx hb dX4_pairAt_12 (by decide) ?_
    refine lv_istore (pc := 13) (lv' := [(7, .int (0 : Int32)), (6, .int p5), (0, .ref (q 1)), (1, .int p1), (2, .int p2), (3, .int p3), (4, .int p4), (5, .int p5)]) hx hb dX4_pairAt_13 hl (by decide) rfl (fun ls hl => ?_)
    exact hw _ _ _ hP hD hS (lv_sub hl [2, 3, 4, 5, 6, 1, 0] rfl)
  · replace hw := hw.2 c_1
    refine lv_bipush (pc := 5) (v := (-9 : Int32)) hx hb dX4_pairAt_5 (by decide) ?_
    exact hRetI (S := Unit) () hx hb hr hlocks hQ hw hP hK hD hS dX4_pairAt_7
def P_X4_pairsOn (post : Int32 → Prop) (p1 : Int32) (p2 : Int32) (p3 : Int32) (p4 : Int32) (kd_low : Nat → Int32) (kd_high : Nat → Int32) : Prop :=
  ∀ (X6 : Int32 → Int32 → Prop),
  (∀ (x5 : Int32) (x6 : Int32), ((((200 : Int32) < x6 → post x5) ∧ (¬ (200 : Int32) < x6 → P_X4_fewestBeside (fun r_2 => P_X4_mostBeside (fun r_3 => ∀ y_4 : Int32, y_4 = (if (0 : Int32) < ((r_3 - r_2) + (1 : Int32)) then ((r_3 - r_2) + (1 : Int32)) else (0 : Int32)) → ∀ y_5 : Int32, y_5 = (x5 + y_4) → ∀ y_6 : Int32, y_6 = (x6 + (1 : Int32)) → X6 y_5 y_6) p1 x6 p2 (p3 + p4) kd_low) p1 x6 p2 (p3 - p4) kd_high))) → X6 x5 x6) →
  X6 (0 : Int32) (0 : Int32)
abbrev rm_X4_pairsOn : Room := { frames := 2, cells := 0, slots := 0, locals := 47 }
set_option maxHeartbeats 4000000 in
set_option maxRecDepth 100000 in
theorem c_X4_pairsOn (l : Launch) (G : va_G) (K : ClassId × ClassId × ClassId) (tb q : Nat → Nat) (sz : Nat) (kd_size : Int32) (post : Int32 → Prop) (p1 : Int32) (p2 : Int32) (p3 : Int32) (p4 : Int32) (kd_low : Nat → Int32) (kd_high : Nat → Int32) (hw : P_X4_pairsOn post p1 p2 p3 p4 kd_low kd_high) : Met l yX4_pairsOn wsX4_pairsOn rm_X4_pairsOn (va_Pc [.ref (q 1), .int p1, .int p2, .int p3, .int p4] (hPre G K tb [oX4 q kd_size, aI K (q 2) 6 kd_low, aI K (q 3) 6 kd_high] sz)) (va_Qi (fun (r : Int32) (u : Unit) => post r) (fun u => hB G K (va_A [oX4 q kd_size, aI K (q 2) 6 kd_low, aI K (q 3) 6 kd_high] sz) [oX4 q kd_size, aI K (q 2) 6 kd_low, aI K (q 3) 6 kd_high]) (va_A [oX4 q kd_size, aI K (q 2) 6 kd_low, aI K (q 3) 6 kd_high] sz)) 0 0 (va_A [oX4 q kd_size, aI K (q 2) 6 kd_low, aI K (q 3) 6 kd_high] sz) := by
  refine hMet (fun A => va_Qi (fun (r : Int32) (u : Unit) => post r) (fun u => hB G K A [oX4 q kd_size, aI K (q 2) 6 kd_low, aI K (q 3) 6 kd_high]) A) (by decide) rfl (Nat.le_of_ble_eq_true rfl) ?_
  intro p e s m av below meth c A Q ls hx hb hr hml hts hown hlocks hnm hA hP hK hD hS hE hQ hl
  have hts : ∀ w ∈ wsX4_pairsOn, w.before av s = true := hts
  have hown : s.vm.findClass RX4 = some m.cls := hown
  have hl : lv_has ls 9 [(0, .ref (q 1)), (1, .int p1), (2, .int p2), (3, .int p3), (4, .int p4)] := hl
  unfold P_X4_pairsOn at hw
  replace hw := hw (fun (x5 : Int32) (x6 : Int32) => ∀ (H : Heap) (locs : List Loc) (ls : Array Slot), va_P G vwCl [oX4 q kd_size, aI K (q 2) 6 kd_low, aI K (q 3) 6 kd_high] H → va_D A [oX4 q kd_size, aI K (q 2) 6 kd_low, aI K (q 3) 6 kd_high] → va_S A s.heap H locs → lv_has ls 9 [(0, .ref (q 1)), (1, .int p1), (2, .int p2), (3, .int p3), (4, .int p4), (5, .int x5), (6, .int x6)] → W p l e rm_X4_pairsOn s m av below meth c H locs 0 0 Q (F0 m 6 ls []))
  replace hw := hw (by
    intro x5 x6 hw H locs ls hP hD hS hl
    refine lv_iload (pc := 6) hx hb dX4_pairsOn_6 (lv_at hl 6 rfl) ?_
    refine lv_sipush (pc := 8) (v := (200 : Int32)) hx hb dX4_pairsOn_8 (by decide) ?_
    refine lv_icmp_gt (pc := 11) (tgt := 64) hx hb dX4_pairsOn_11 (by decide) (fun c_1 => ?_) (fun c_1 => ?_)
    · replace hw := hw.1 c_1
      refine lv_iload (pc := 64) hx hb dX4_pairsOn_64 (lv_at hl 5 rfl) ?_
      exact hRetI (S := Unit) () hx hb hr hlocks hQ hw hP hK hD hS dX4_pairsOn_66
    · replace hw := hw.2 c_1
      refine lv_aload_n (pc := 14) hx hb dX4_pairsOn_14 rfl (lv_at hl 0 rfl) ?_
      refine lv_iload_n (pc := 15) hx hb dX4_pairsOn_15 rfl (lv_at hl 1 rfl) ?_
      refine lv_iload (pc := 16) hx hb dX4_pairsOn_16 (lv_at hl 6 rfl) ?_
      refine lv_iload_n (pc := 18) hx hb dX4_pairsOn_18 rfl (lv_at hl 2 rfl) ?_
      refine lv_iload_n (pc := 19) hx hb dX4_pairsOn_19 rfl (lv_at hl 3 rfl) ?_
      refine lv_iload (pc := 20) hx hb dX4_pairsOn_20 (lv_at hl 4 rfl) ?_
      refine lv_isub (pc := 22) hx hb dX4_pairsOn_22 ?_
      refine hCallI (pc := 23) (wr := [aI K (q 2) 6 kd_low]) (wsf := fun (u : Unit) => [oX4 q kd_size, aI K (q 3) 6 kd_high]) [0, 2] [1] (va_runV (As := [.int p1, .int x6, .int p2, .int (p3 - p4)]) (rest := []) ⟨hx, hb, hml, hown, hts⟩ (c_X4_fewestBeside l G K tb q H.size kd_size _ p1 x6 p2 (p3 - p4) kd_high hw) (cwV 4 hts gX4_pairsOn_X4_fewestBeside rfl rfl rfl (by decide +kernel) ⟨Nat.le_of_ble_eq_true rfl, Nat.le_of_ble_eq_true rfl⟩) (hPreV hE hP hK hD hS hA [0, 2] (by decide) rfl rfl rfl rfl (q0 := 0) (ci := 4) rfl) rfl rfl hl.1 rfl (lv_room (Nat.le_of_ble_eq_true rfl)) dX4_pairsOn_23 ⟨Nat.zero_le _, Nat.zero_le _⟩) hP hD hS hA rfl rfl (by decide) (by decide) (fun r_2 u H locs hw hP hD hS => ?_)
      have hP : va_P G vwCl [oX4 q kd_size, aI K (q 2) 6 kd_low, aI K (q 3) 6 kd_high] H := hP.sub [1, 0, 2] rfl
      have hD : va_D A [oX4 q kd_size, aI K (q 2) 6 kd_low, aI K (q 3) 6 kd_high] := hD.sub [1, 0, 2] (by decide) rfl
      refine lv_istore (pc := 26) (lv' := [(7, .int r_2), (0, .ref (q 1)), (1, .int p1), (2, .int p2), (3, .int p3), (4, .int p4), (5, .int x5), (6, .int x6)]) hx hb dX4_pairsOn_26 hl (by decide) rfl (fun ls hl => ?_)
      refine lv_aload_n (pc := 28) hx hb dX4_pairsOn_28 rfl (lv_at hl 1 rfl) ?_
      refine lv_iload_n (pc := 29) hx hb dX4_pairsOn_29 rfl (lv_at hl 2 rfl) ?_
      refine lv_iload (pc := 30) hx hb dX4_pairsOn_30 (lv_at hl 7 rfl) ?_
      refine lv_iload_n (pc := 32) hx hb dX4_pairsOn_32 rfl (lv_at hl 3 rfl) ?_
      refine lv_iload_n (pc := 33) hx hb dX4_pairsOn_33 rfl (lv_at hl 4 rfl) ?_
      refine lv_iload (pc := 34) hx hb dX4_pairsOn_34 (lv_at hl 5 rfl) ?_
      refine lv_iadd (pc := 36) hx hb dX4_pairsOn_36 ?_
      refine hCallI (pc := 37) (wr := [aI K (q 3) 6 kd_high]) (wsf := fun (u : Unit) => [oX4 q kd_size, aI K (q 2) 6 kd_low]) [0, 1] [2] (va_runV (As := [.int p1, .int x6, .int p2, .int (p3 + p4)]) (rest := []) ⟨hx, hb, hml, hown, hts⟩ (c_X4_mostBeside l G K tb q H.size kd_size _ p1 x6 p2 (p3 + p4) kd_low hw) (cwV 4 hts gX4_pairsOn_X4_mostBeside rfl rfl rfl (by decide +kernel) ⟨Nat.le_of_ble_eq_true rfl, Nat.le_of_ble_eq_true rfl⟩) (hPreV hE hP hK hD hS hA [0, 1] (by decide) rfl rfl rfl rfl (q0 := 0) (ci := 4) rfl) rfl rfl hl.1 rfl (lv_room (Nat.le_of_ble_eq_true rfl)) dX4_pairsOn_37 ⟨Nat.zero_le _, Nat.zero_le _⟩) hP hD hS hA rfl rfl (by decide) (by decide) (fun r_3 u H locs hw hP hD hS => ?_)
      have hP : va_P G vwCl [oX4 q kd_size, aI K (q 2) 6 kd_low, aI K (q 3) 6 kd_high] H := hP.sub [1, 2, 0] rfl
      have hD : va_D A [oX4 q kd_size, aI K (q 2) 6 kd_low, aI K (q 3) 6 kd_high] := hD.sub [1, 2, 0] (by decide) rfl
      refine lv_istore (pc := 40) (lv' := [(8, .int r_3), (7, .int r_2), (0, .ref (q 1)), (1, .int p1), (2, .int p2), (3, .int p3), (4, .int p4), (5, .int x5), (6, .int x6)]) hx hb dX4_pairsOn_40 hl (by decide) rfl (fun ls hl => ?_)
      refine lv_iload (pc := 42) hx hb dX4_pairsOn_42 (lv_at hl 7 rfl) ?_
      refine lv_iconst (pc := 44) (v := (0 : Int32)) hx hb dX4_pairsOn_44 (by decide) ?_
      refine lv_iload (pc := 45) hx hb dX4_pairsOn_45 (lv_at hl 0 rfl) ?_
      refine lv_iload (pc := 47) hx hb dX4_pairsOn_47 (lv_at hl 1 rfl) ?_
      refine lv_isub (pc := 49) hx hb dX4_pairsOn_49 ?_
      refine lv_iconst (pc := 50) (v := (1 : Int32)) hx hb dX4_pairsOn_50 (by decide) ?_
      refine lv_iadd (pc := 51) hx hb dX4_pairsOn_51 ?_
      refine va_mmax (pc := 52) hx hb (hml.trans hl.1.symm) hown (hts _ (List.mem_of_getElem? (i := 1) rfl)) (hts _ (List.mem_of_getElem? (i := 2) rfl)) (hts _ (List.mem_of_getElem? (i := 3) rfl)) (hts _ (List.mem_of_getElem? (i := 4) rfl)) (Nat.le_of_ble_eq_true rfl) (Nat.le_of_ble_eq_true rfl) (Nat.zero_le _) (Nat.zero_le _) dX4_pairsOn_52 ?_
      refine lv_topi (fun y_4 ey_4 => ?_)
      replace hw := hw y_4 ey_4
      refine lv_iadd (pc := 55) hx hb dX4_pairsOn_55 ?_
      refine lv_topi (fun y_5 ey_5 => ?_)
      replace hw := hw y_5 ey_5
      refine lv_istore (pc := 56) (lv' := [(5, .int y_5), (8, .int r_3), (7, .int r_2), (0, .ref (q 1)), (1, .int p1), (2, .int p2), (3, .int p3), (4, .int p4), (6, .int x6)]) hx hb dX4_pairsOn_56 hl (by decide) rfl (fun ls hl => ?_)
      obtain ⟨y_6, ey_6⟩ : ∃ z : Int32, z = (x6 + (1 : Int32)) := ⟨_, rfl⟩
      replace hw := hw y_6 ey_6
      refine lv_iinc (pc := 58) (v := y_6) (lv' := [(6, .int y_6), (5, .int y_5), (8, .int r_3), (7, .int r_2), (0, .ref (q 1)), (1, .int p1), (2, .int p2), (3, .int p3), (4, .int p4)]) hx hb dX4_pairsOn_58 hl (k := 8) rfl (by rw [ey_6]; rfl) (by decide) rfl (fun ls hl => ?_)
      refine lv_goto (pc := 61) (tgt := 6) hx hb dX4_pairsOn_61 (by decide) ?_
      exact hw _ _ _ hP hD hS (lv_sub hl [4, 5, 6, 7, 8, 1, 0] rfl))
  refine lv_iconst (pc := 0) (v := (0 : Int32)) hx hb dX4_pairsOn_0 (by decide) ?_
  refine lv_istore (pc := 1) (lv' := [(5, .int (0 : Int32)), (0, .ref (q 1)), (1, .int p1), (2, .int p2), (3, .int p3), (4, .int p4)]) hx hb dX4_pairsOn_1 hl (by decide) rfl (fun ls hl => ?_)
  refine lv_iconst (pc := 3) (v := (0 : Int32)) hx hb dX4_pairsOn_3 (by decide) ?_
  refine lv_istore (pc := 4) (lv' := [(6, .int (0 : Int32)), (5, .int (0 : Int32)), (0, .ref (q 1)), (1, .int p1), (2, .int p2), (3, .int p3), (4, .int p4)]) hx hb dX4_pairsOn_4 hl (by decide) rfl (fun ls hl => ?_)
  exact hw _ _ _ hP hD hS (lv_sub hl [2, 3, 4, 5, 6, 1, 0] rfl)
def P_X5_add (post : Int32 → (Nat → Int32) → (Nat → Int32) → Int32 → Int32 → Prop) (p1 : Int32) (p2 : Int32) (p3 : Int32) (p4 : Int32) (p5 : Int32) (mk_sign : Nat → Int32) (mk_weight : Nat → Int32) (mk_pieces : Int32) (mk_finds : Int32) : Prop :=
  ∀ (X29 : Int32 → (Nat → Int32) → (Nat → Int32) → Int32 → Int32 → Prop),
  (∀ (s0 : Int32) (mk_sign : Nat → Int32) (mk_weight : Nat → Int32) (mk_pieces : Int32) (mk_finds : Int32), (∀ v_5 : Int32, v_5 = (if p1 = (0 : Int32) then s0 else ((8 : Int32) + s0)) → vp_in (v_5 * (3 : Int32)) 48 ∧ ∀ mk_sign_7 : Nat → Int32, mk_sign_7 = upd mk_sign (v_5 * (3 : Int32)).toNatClampNeg p2 → vp_in ((v_5 * (3 : Int32)) + (1 : Int32)) 48 ∧ ∀ mk_sign_9 : Nat → Int32, mk_sign_9 = upd mk_sign_7 ((v_5 * (3 : Int32)) + (1 : Int32)).toNatClampNeg p3 → vp_in ((v_5 * (3 : Int32)) + (2 : Int32)) 48 ∧ ∀ mk_sign_11 : Nat → Int32, mk_sign_11 = upd mk_sign_9 ((v_5 * (3 : Int32)) + (2 : Int32)).toNatClampNeg p4 → vp_in v_5 16 ∧ ∀ mk_weight_13 : Nat → Int32, mk_weight_13 = upd mk_weight v_5.toNatClampNeg p5 → post s0 mk_sign_11 mk_weight_13 mk_pieces mk_finds) → X29 s0 mk_sign mk_weight mk_pieces mk_finds) →
  ((p1 = (0 : Int32) → ∀ y_2 : Int32, y_2 = (mk_pieces + (1 : Int32)) → X29 mk_pieces mk_sign mk_weight y_2 mk_finds) ∧ (¬ p1 = (0 : Int32) → ∀ y_3 : Int32, y_3 = (mk_finds + (1 : Int32)) → X29 mk_finds mk_sign mk_weight mk_pieces y_3))
abbrev rm_X5_add : Room := { frames := 0, cells := 0, slots := 0, locals := 0 }
theorem iw_X5_add_X5 : ∀ w ∈ wsX50, w ∈ wsX5_add := by decide +kernel
set_option maxHeartbeats 4000000 in
set_option maxRecDepth 100000 in
theorem c_X5_add (l : Launch) (G : va_G) (K : ClassId × ClassId × ClassId) (tb q : Nat → Nat) (sz : Nat) (post : Int32 → (Nat → Int32) → (Nat → Int32) → Int32 → Int32 → Prop) (p1 : Int32) (p2 : Int32) (p3 : Int32) (p4 : Int32) (p5 : Int32) (mk_sign : Nat → Int32) (mk_weight : Nat → Int32) (mk_pieces : Int32) (mk_finds : Int32) (hw : P_X5_add post p1 p2 p3 p4 p5 mk_sign mk_weight mk_pieces mk_finds) : Met l yX5_add wsX5_add rm_X5_add (va_Pc [.ref (q 35), .int p1, .int p2, .int p3, .int p4, .int p5] (hPre G K tb [oX5 q mk_pieces mk_finds, aI K (q 36) 48 mk_sign, aI K (q 37) 16 mk_weight] sz)) (va_Qi (fun (r : Int32) (u : (Nat → Int32) × (Nat → Int32) × Int32 × Int32) => post r u.1 u.2.1 u.2.2.1 u.2.2.2) (fun u => hB G K (va_A [oX5 q mk_pieces mk_finds, aI K (q 36) 48 mk_sign, aI K (q 37) 16 mk_weight] sz) [oX5 q u.2.2.1 u.2.2.2, aI K (q 36) 48 u.1, aI K (q 37) 16 u.2.1]) (va_A [oX5 q mk_pieces mk_finds, aI K (q 36) 48 mk_sign, aI K (q 37) 16 mk_weight] sz)) 0 0 (va_A [oX5 q mk_pieces mk_finds, aI K (q 36) 48 mk_sign, aI K (q 37) 16 mk_weight] sz) := by
  refine hMet (fun A => va_Qi (fun (r : Int32) (u : (Nat → Int32) × (Nat → Int32) × Int32 × Int32) => post r u.1 u.2.1 u.2.2.1 u.2.2.2) (fun u => hB G K A [oX5 q u.2.2.1 u.2.2.2, aI K (q 36) 48 u.1, aI K (q 37) 16 u.2.1]) A) (by decide) rfl (Nat.le_of_ble_eq_true rfl) ?_
  intro p e s m av below meth c A Q ls hx hb hr hml hts hown hlocks hnm hA hP hK hD hS hE hQ hl
  have hts : ∀ w ∈ wsX5_add, w.before av s = true := hts
  have hown : s.vm.findClass RX5 = some m.cls := hown
  have hl : lv_has ls 8 [(0, .ref (q 35)), (1, .int p1), (2, .int p2), (3, .int p3), (4, .int p4), (5, .int p5)] := hl
  unfold P_X5_add at hw
  replace hw := hw (fun (s0 : Int32) (mk_sign : Nat → Int32) (mk_weight : Nat → Int32) (mk_pieces : Int32) (mk_finds : Int32) => ∀ (H : Heap) (locs : List Loc) (ls : Array Slot), va_P G vwCl [oX5 q mk_pieces mk_finds, aI K (q 36) 48 mk_sign, aI K (q 37) 16 mk_weight] H → va_D A [oX5 q mk_pieces mk_finds, aI K (q 36) 48 mk_sign, aI K (q 37) 16 mk_weight] → va_S A s.heap H locs → lv_has ls 8 [(0, .ref (q 35)), (1, .int p1), (2, .int p2), (3, .int p3), (4, .int p4), (5, .int p5)] → W p l e rm_X5_add s m av below meth c H locs 0 0 Q (F0 m 29 ls [.int s0]))
  replace hw := hw (by
    intro s0 mk_sign mk_weight mk_pieces mk_finds hw H locs ls hP hD hS hl
    refine lv_istore (pc := 29) (lv' := [(6, .int s0), (0, .ref (q 35)), (1, .int p1), (2, .int p2), (3, .int p3), (4, .int p4), (5, .int p5)]) hx hb dX5_add_29 hl (by decide) rfl (fun ls hl => ?_)
    refine lv_iload_n (pc := 31) hx hb dX5_add_31 rfl (lv_at hl 2 rfl) ?_
    have K_v_5 : ∀ v_5 : Int32, v_5 = (if p1 = (0 : Int32) then s0 else ((8 : Int32) + s0)) → W p l e rm_X5_add s m av below meth c H locs 0 0 Q (F0 m 45 ls [.int v_5]) := by
      intro v_5 ev_5
      replace hw := hw v_5 ev_5
      refine lv_istore (pc := 45) (lv' := [(7, .int v_5), (6, .int s0), (0, .ref (q 35)), (1, .int p1), (2, .int p2), (3, .int p3), (4, .int p4), (5, .int p5)]) hx hb dX5_add_45 hl (by decide) rfl (fun ls hl => ?_)
      refine lv_aload_n (pc := 47) hx hb dX5_add_47 rfl (lv_at hl 2 rfl) ?_
      refine va_get (pc := 48) (D := G) (ci := 5) (v := .ref (q 36)) (C := RX5) (T := TX5) (N := 4) hx hb hts iw_X5_add_X5 hown hK hP 0 rfl rfl 0 (by decide) (hts _ (List.mem_of_getElem? (i := 3) rfl)) (fun _ h9 => h9) rfl dX5_add_48 ?_
      refine lv_iload (pc := 51) hx hb dX5_add_51 (lv_at hl 0 rfl) ?_
      refine lv_iconst (pc := 53) (v := (3 : Int32)) hx hb dX5_add_53 (by decide) ?_
      refine lv_imul (pc := 54) hx hb dX5_add_54 ?_
      refine lv_iload_n (pc := 55) hx hb dX5_add_55 rfl (lv_at hl 4 rfl) ?_
      obtain ⟨h_6, hw⟩ := hw
      refine va_iast (pc := 56) hx hb hK hP hD hS 1 0 rfl rfl h_6 dX5_add_56 (fun H locs hP hD hS => ?_)
      obtain ⟨mk_sign_7, emk_sign_7⟩ : ∃ z : Nat → Int32, z = upd mk_sign (v_5 * (3 : Int32)).toNatClampNeg p2 := ⟨_, rfl⟩
      have hP : va_P G vwCl [oX5 q mk_pieces mk_finds, aI K (q 36) 48 mk_sign_7, aI K (q 37) 16 mk_weight] H := by rw [emk_sign_7]; exact hP
      have hD : va_D A [oX5 q mk_pieces mk_finds, aI K (q 36) 48 mk_sign_7, aI K (q 37) 16 mk_weight] := by rw [emk_sign_7]; exact hD
      replace hw := hw mk_sign_7 emk_sign_7
      refine lv_aload_n (pc := 57) hx hb dX5_add_57 rfl (lv_at hl 2 rfl) ?_
      refine va_get (pc := 58) (D := G) (ci := 5) (v := .ref (q 36)) (C := RX5) (T := TX5) (N := 4) hx hb hts iw_X5_add_X5 hown hK hP 0 rfl rfl 0 (by decide) (hts _ (List.mem_of_getElem? (i := 3) rfl)) (fun _ h9 => h9) rfl dX5_add_58 ?_
      refine lv_iload (pc := 61) hx hb dX5_add_61 (lv_at hl 0 rfl) ?_
      refine lv_iconst (pc := 63) (v := (3 : Int32)) hx hb dX5_add_63 (by decide) ?_
      refine lv_imul (pc := 64) hx hb dX5_add_64 ?_
      refine lv_iconst (pc := 65) (v := (1 : Int32)) hx hb dX5_add_65 (by decide) ?_
      refine lv_iadd (pc := 66) hx hb dX5_add_66 ?_
      refine lv_iload_n (pc := 67) hx hb dX5_add_67 rfl (lv_at hl 5 rfl) ?_
      obtain ⟨h_8, hw⟩ := hw
      refine va_iast (pc := 68) hx hb hK hP hD hS 1 0 rfl rfl h_8 dX5_add_68 (fun H locs hP hD hS => ?_)
      obtain ⟨mk_sign_9, emk_sign_9⟩ : ∃ z : Nat → Int32, z = upd mk_sign_7 ((v_5 * (3 : Int32)) + (1 : Int32)).toNatClampNeg p3 := ⟨_, rfl⟩
      have hP : va_P G vwCl [oX5 q mk_pieces mk_finds, aI K (q 36) 48 mk_sign_9, aI K (q 37) 16 mk_weight] H := by rw [emk_sign_9]; exact hP
      have hD : va_D A [oX5 q mk_pieces mk_finds, aI K (q 36) 48 mk_sign_9, aI K (q 37) 16 mk_weight] := by rw [emk_sign_9]; exact hD
      replace hw := hw mk_sign_9 emk_sign_9
      refine lv_aload_n (pc := 69) hx hb dX5_add_69 rfl (lv_at hl 2 rfl) ?_
      refine va_get (pc := 70) (D := G) (ci := 5) (v := .ref (q 36)) (C := RX5) (T := TX5) (N := 4) hx hb hts iw_X5_add_X5 hown hK hP 0 rfl rfl 0 (by decide) (hts _ (List.mem_of_getElem? (i := 3) rfl)) (fun _ h9 => h9) rfl dX5_add_70 ?_
      refine lv_iload (pc := 73) hx hb dX5_add_73 (lv_at hl 0 rfl) ?_
      refine lv_iconst (pc := 75) (v := (3 : Int32)) hx hb dX5_add_75 (by decide) ?_
      refine lv_imul (pc := 76) hx hb dX5_add_76 ?_
      refine lv_iconst (pc := 77) (v := (2 : Int32)) hx hb dX5_add_77 (by decide) ?_
      refine lv_iadd (pc := 78) hx hb dX5_add_78 ?_
      refine lv_iload (pc := 79) hx hb dX5_add_79 (lv_at hl 6 rfl) ?_
      obtain ⟨h_10, hw⟩ := hw
      refine va_iast (pc := 81) hx hb hK hP hD hS 1 0 rfl rfl h_10 dX5_add_81 (fun H locs hP hD hS => ?_)
      obtain ⟨mk_sign_11, emk_sign_11⟩ : ∃ z : Nat → Int32, z = upd mk_sign_9 ((v_5 * (3 : Int32)) + (2 : Int32)).toNatClampNeg p4 := ⟨_, rfl⟩
      have hP : va_P G vwCl [oX5 q mk_pieces mk_finds, aI K (q 36) 48 mk_sign_11, aI K (q 37) 16 mk_weight] H := by rw [emk_sign_11]; exact hP
      have hD : va_D A [oX5 q mk_pieces mk_finds, aI K (q 36) 48 mk_sign_11, aI K (q 37) 16 mk_weight] := by rw [emk_sign_11]; exact hD
      replace hw := hw mk_sign_11 emk_sign_11
      refine lv_aload_n (pc := 82) hx hb dX5_add_82 rfl (lv_at hl 2 rfl) ?_
      refine va_get (pc := 83) (D := G) (ci := 5) (v := .ref (q 37)) (C := RX5) (T := TX5) (N := 4) hx hb hts iw_X5_add_X5 hown hK hP 0 rfl rfl 1 (by decide) (hts _ (List.mem_of_getElem? (i := 4) rfl)) (fun _ h9 => h9) rfl dX5_add_83 ?_
      refine lv_iload (pc := 86) hx hb dX5_add_86 (lv_at hl 0 rfl) ?_
      refine lv_iload (pc := 88) hx hb dX5_add_88 (lv_at hl 7 rfl) ?_
      obtain ⟨h_12, hw⟩ := hw
      refine va_iast (pc := 90) hx hb hK hP hD hS 2 0 rfl rfl h_12 dX5_add_90 (fun H locs hP hD hS => ?_)
      obtain ⟨mk_weight_13, emk_weight_13⟩ : ∃ z : Nat → Int32, z = upd mk_weight v_5.toNatClampNeg p5 := ⟨_, rfl⟩
      have hP : va_P G vwCl [oX5 q mk_pieces mk_finds, aI K (q 36) 48 mk_sign_11, aI K (q 37) 16 mk_weight_13] H := by rw [emk_weight_13]; exact hP
      have hD : va_D A [oX5 q mk_pieces mk_finds, aI K (q 36) 48 mk_sign_11, aI K (q 37) 16 mk_weight_13] := by rw [emk_weight_13]; exact hD
      replace hw := hw mk_weight_13 emk_weight_13
      refine lv_iload (pc := 91) hx hb dX5_add_91 (lv_at hl 1 rfl) ?_
      exact hRetI (S := (Nat → Int32) × (Nat → Int32) × Int32 × Int32) (mk_sign_11, mk_weight_13, mk_pieces, mk_finds) hx hb hr hlocks hQ hw hP hK hD hS dX5_add_93
    refine lv_if_eq (pc := 32) (tgt := 43) hx hb dX5_add_32 (by decide) (fun c_4 => ?_) (fun c_4 => ?_)
    · skip
      refine lv_iload (pc := 43) hx hb dX5_add_43 (lv_at hl 0 rfl) ?_
      exact K_v_5 _ (by rw [if_pos c_4])
    · skip
      refine lv_bipush (pc := 35) (v := (8 : Int32)) hx hb dX5_add_35 (by decide) ?_
      refine lv_iload (pc := 37) hx hb dX5_add_37 (lv_at hl 0 rfl) ?_
      refine lv_iadd (pc := 39) hx hb dX5_add_39 ?_
      refine lv_goto (pc := 40) (tgt := 45) hx hb dX5_add_40 (by decide) ?_
      exact K_v_5 _ (by rw [if_neg c_4]))
  refine lv_iload_n (pc := 0) hx hb dX5_add_0 rfl (lv_at hl 1 rfl) ?_
  refine lv_if_eq (pc := 1) (tgt := 18) hx hb dX5_add_1 (by decide) (fun c_1 => ?_) (fun c_1 => ?_)
  · replace hw := hw.1 c_1
    refine lv_aload_n (pc := 18) hx hb dX5_add_18 rfl (lv_at hl 0 rfl) ?_
    refine lv_dup (pc := 19) hx hb dX5_add_19 rfl ?_
    refine va_get (pc := 20) (D := G) (ci := 5) (v := .int mk_pieces) (C := RX5) (T := TX5) (N := 4) hx hb hts iw_X5_add_X5 hown hK hP 0 rfl rfl 2 (by decide) (hts _ (List.mem_of_getElem? (i := 2) rfl)) (fun _ h9 => h9) rfl dX5_add_20 ?_
    refine lv_dup_x1 (pc := 23) hx hb dX5_add_23 rfl rfl ?_
    refine lv_iconst (pc := 24) (v := (1 : Int32)) hx hb dX5_add_24 (by decide) ?_
    refine lv_iadd (pc := 25) hx hb dX5_add_25 ?_
    refine lv_topi (fun y_2 ey_2 => ?_)
    replace hw := hw y_2 ey_2
    refine va_put (pc := 26) (D := G) (ci := 5) (v := .int y_2) (ty := .int) (C := RX5) (T := TX5) (N := 4) hx hb hts iw_X5_add_X5 tyX5 tyX5_ok nmX5 hown hK hP hD hS 0 rfl rfl 2 (by decide) (hts _ (List.mem_of_getElem? (i := 2) rfl)) (fun _ h9 => h9) rfl (by decide +kernel) rfl rfl (Nat.le_of_ble_eq_true rfl) dX5_add_26 (fun H locs hP hD hS => ?_)
    have hP : va_P G vwCl [oX5 q y_2 mk_finds, aI K (q 36) 48 mk_sign, aI K (q 37) 16 mk_weight] H := hP
    have hD : va_D A [oX5 q y_2 mk_finds, aI K (q 36) 48 mk_sign, aI K (q 37) 16 mk_weight] := hD
    exact hw _ _ _ hP hD hS (lv_sub hl [0, 1, 2, 3, 4, 5] rfl)
  · replace hw := hw.2 c_1
    refine lv_aload_n (pc := 4) hx hb dX5_add_4 rfl (lv_at hl 0 rfl) ?_
    refine lv_dup (pc := 5) hx hb dX5_add_5 rfl ?_
    refine va_get (pc := 6) (D := G) (ci := 5) (v := .int mk_finds) (C := RX5) (T := TX5) (N := 4) hx hb hts iw_X5_add_X5 hown hK hP 0 rfl rfl 3 (by decide) (hts _ (List.mem_of_getElem? (i := 1) rfl)) (fun _ h9 => h9) rfl dX5_add_6 ?_
    refine lv_dup_x1 (pc := 9) hx hb dX5_add_9 rfl rfl ?_
    refine lv_iconst (pc := 10) (v := (1 : Int32)) hx hb dX5_add_10 (by decide) ?_
    refine lv_iadd (pc := 11) hx hb dX5_add_11 ?_
    refine lv_topi (fun y_3 ey_3 => ?_)
    replace hw := hw y_3 ey_3
    refine va_put (pc := 12) (D := G) (ci := 5) (v := .int y_3) (ty := .int) (C := RX5) (T := TX5) (N := 4) hx hb hts iw_X5_add_X5 tyX5 tyX5_ok nmX5 hown hK hP hD hS 0 rfl rfl 3 (by decide) (hts _ (List.mem_of_getElem? (i := 1) rfl)) (fun _ h9 => h9) rfl (by decide +kernel) rfl rfl (Nat.le_of_ble_eq_true rfl) dX5_add_12 (fun H locs hP hD hS => ?_)
    have hP : va_P G vwCl [oX5 q mk_pieces y_3, aI K (q 36) 48 mk_sign, aI K (q 37) 16 mk_weight] H := hP
    have hD : va_D A [oX5 q mk_pieces y_3, aI K (q 36) 48 mk_sign, aI K (q 37) 16 mk_weight] := hD
    refine lv_goto (pc := 15) (tgt := 29) hx hb dX5_add_15 (by decide) ?_
    exact hw _ _ _ hP hD hS (lv_sub hl [0, 1, 2, 3, 4, 5] rfl)
def P_X5_price (post : Int32 → Prop) (p1 : Int32) (p2 : Int32) (mk_sign : Nat → Int32) (mk_weight : Nat → Int32) : Prop :=
  ∀ (X35 : Int32 → Int32 → Prop),
  (∀ (x4 : Int32) (x5 : Int32), ((((3 : Int32) ≤ x5 → post x4) ∧ (¬ (3 : Int32) ≤ x5 → vp_in ((p1 * (3 : Int32)) + x5) 48 ∧ ∀ y_7 : Int32, y_7 = (mk_sign ((p1 * (3 : Int32)) + x5).toNatClampNeg) → vp_in ((((8 : Int32) + p2) * (3 : Int32)) + x5) 48 ∧ ∀ y_9 : Int32, y_9 = (mk_sign ((((8 : Int32) + p2) * (3 : Int32)) + x5).toNatClampNeg) → ((y_7 = (-9 : Int32) → ∀ y_11 : Int32, y_11 = (x4 + (10 : Int32)) → ∀ y_12 : Int32, y_12 = (x5 + (1 : Int32)) → X35 y_11 y_12) ∧ (¬ y_7 = (-9 : Int32) → ((y_9 = (-9 : Int32) → ∀ y_16 : Int32, y_16 = (x4 + (10 : Int32)) → ∀ y_17 : Int32, y_17 = (x5 + (1 : Int32)) → X35 y_16 y_17) ∧ (¬ y_9 = (-9 : Int32) → ((y_7 = y_9 → ∀ y_15 : Int32, y_15 = (x5 + (1 : Int32)) → X35 x4 y_15) ∧ (¬ y_7 = y_9 → post (-9 : Int32)))))))))) → X35 x4 x5) →
  vp_in p1 16 ∧ vp_in ((8 : Int32) + p2) 16 ∧ ∀ y_3 : Int32, y_3 = (if 0 ≤ ((mk_weight p1.toNatClampNeg) - (mk_weight ((8 : Int32) + p2).toNatClampNeg)) then ((mk_weight p1.toNatClampNeg) - (mk_weight ((8 : Int32) + p2).toNatClampNeg)) else 0 - ((mk_weight p1.toNatClampNeg) - (mk_weight ((8 : Int32) + p2).toNatClampNeg))) → ((y_3 ≤ (20 : Int32) → X35 y_3 (0 : Int32)) ∧ (¬ y_3 ≤ (20 : Int32) → post (-9 : Int32)))
abbrev rm_X5_price : Room := { frames := 1, cells := 0, slots := 0, locals := 23 }
theorem iw_X5_price_X5 : ∀ w ∈ wsX50, w ∈ wsX5_price := by decide +kernel
set_option maxHeartbeats 4000000 in
set_option maxRecDepth 100000 in
theorem c_X5_price (l : Launch) (G : va_G) (K : ClassId × ClassId × ClassId) (tb q : Nat → Nat) (sz : Nat) (mk_pieces : Int32) (mk_finds : Int32) (post : Int32 → Prop) (p1 : Int32) (p2 : Int32) (mk_sign : Nat → Int32) (mk_weight : Nat → Int32) (hw : P_X5_price post p1 p2 mk_sign mk_weight) : Met l yX5_price wsX5_price rm_X5_price (va_Pc [.ref (q 35), .int p1, .int p2] (hPre G K tb [oX5 q mk_pieces mk_finds, aI K (q 36) 48 mk_sign, aI K (q 37) 16 mk_weight] sz)) (va_Qi (fun (r : Int32) (u : Unit) => post r) (fun u => hB G K (va_A [oX5 q mk_pieces mk_finds, aI K (q 36) 48 mk_sign, aI K (q 37) 16 mk_weight] sz) [oX5 q mk_pieces mk_finds, aI K (q 36) 48 mk_sign, aI K (q 37) 16 mk_weight]) (va_A [oX5 q mk_pieces mk_finds, aI K (q 36) 48 mk_sign, aI K (q 37) 16 mk_weight] sz)) 0 0 (va_A [oX5 q mk_pieces mk_finds, aI K (q 36) 48 mk_sign, aI K (q 37) 16 mk_weight] sz) := by
  refine hMet (fun A => va_Qi (fun (r : Int32) (u : Unit) => post r) (fun u => hB G K A [oX5 q mk_pieces mk_finds, aI K (q 36) 48 mk_sign, aI K (q 37) 16 mk_weight]) A) (by decide) rfl (Nat.le_of_ble_eq_true rfl) ?_
  intro p e s m av below meth c A Q ls hx hb hr hml hts hown hlocks hnm hA hP hK hD hS hE hQ hl
  have hts : ∀ w ∈ wsX5_price, w.before av s = true := hts
  have hown : s.vm.findClass RX5 = some m.cls := hown
  have hl : lv_has ls 8 [(0, .ref (q 35)), (1, .int p1), (2, .int p2)] := hl
  unfold P_X5_price at hw
  replace hw := hw (fun (x4 : Int32) (x5 : Int32) => ∀ (H : Heap) (locs : List Loc) (ls : Array Slot), va_P G vwCl [oX5 q mk_pieces mk_finds, aI K (q 36) 48 mk_sign, aI K (q 37) 16 mk_weight] H → va_D A [oX5 q mk_pieces mk_finds, aI K (q 36) 48 mk_sign, aI K (q 37) 16 mk_weight] → va_S A s.heap H locs → lv_has ls 8 [(0, .ref (q 35)), (1, .int p1), (2, .int p2), (4, .int x4), (5, .int x5)] → W p l e rm_X5_price s m av below meth c H locs 0 0 Q (F0 m 35 ls []))
  replace hw := hw (by
    intro x4 x5 hw H locs ls hP hD hS hl
    refine lv_iload (pc := 35) hx hb dX5_price_35 (lv_at hl 4 rfl) ?_
    refine lv_iconst (pc := 37) (v := (3 : Int32)) hx hb dX5_price_37 (by decide) ?_
    refine lv_icmp_ge (pc := 38) (tgt := 106) hx hb dX5_price_38 (by decide) (fun c_5 => ?_) (fun c_5 => ?_)
    · replace hw := hw.1 c_5
      refine lv_iload (pc := 106) hx hb dX5_price_106 (lv_at hl 3 rfl) ?_
      exact hRetI (S := Unit) () hx hb hr hlocks hQ hw hP hK hD hS dX5_price_108
    · replace hw := hw.2 c_5
      refine lv_aload_n (pc := 41) hx hb dX5_price_41 rfl (lv_at hl 0 rfl) ?_
      refine va_get (pc := 42) (D := G) (ci := 5) (v := .ref (q 36)) (C := RX5) (T := TX5) (N := 4) hx hb hts iw_X5_price_X5 hown hK hP 0 rfl rfl 0 (by decide) (hts _ (List.mem_of_getElem? (i := 6) rfl)) (fun _ h9 => h9) rfl dX5_price_42 ?_
      refine lv_iload_n (pc := 45) hx hb dX5_price_45 rfl (lv_at hl 1 rfl) ?_
      refine lv_iconst (pc := 46) (v := (3 : Int32)) hx hb dX5_price_46 (by decide) ?_
      refine lv_imul (pc := 47) hx hb dX5_price_47 ?_
      refine lv_iload (pc := 48) hx hb dX5_price_48 (lv_at hl 4 rfl) ?_
      refine lv_iadd (pc := 50) hx hb dX5_price_50 ?_
      obtain ⟨h_6, hw⟩ := hw
      refine va_iald (pc := 51) hx hb hK hP 1 0 rfl rfl h_6 dX5_price_51 ?_
      refine lv_topi (fun y_7 ey_7 => ?_)
      replace hw := hw y_7 ey_7
      refine lv_istore (pc := 52) (lv' := [(6, .int y_7), (0, .ref (q 35)), (1, .int p1), (2, .int p2), (4, .int x4), (5, .int x5)]) hx hb dX5_price_52 hl (by decide) rfl (fun ls hl => ?_)
      refine lv_aload_n (pc := 54) hx hb dX5_price_54 rfl (lv_at hl 1 rfl) ?_
      refine va_get (pc := 55) (D := G) (ci := 5) (v := .ref (q 36)) (C := RX5) (T := TX5) (N := 4) hx hb hts iw_X5_price_X5 hown hK hP 0 rfl rfl 0 (by decide) (hts _ (List.mem_of_getElem? (i := 6) rfl)) (fun _ h9 => h9) rfl dX5_price_55 ?_
      refine lv_bipush (pc := 58) (v := (8 : Int32)) hx hb dX5_price_58 (by decide) ?_
      refine lv_iload_n (pc := 60) hx hb dX5_price_60 rfl (lv_at hl 3 rfl) ?_
      refine lv_iadd (pc := 61) hx hb dX5_price_61 ?_
      refine lv_iconst (pc := 62) (v := (3 : Int32)) hx hb dX5_price_62 (by decide) ?_
      refine lv_imul (pc := 63) hx hb dX5_price_63 ?_
      refine lv_iload (pc := 64) hx hb dX5_price_64 (lv_at hl 5 rfl) ?_
      refine lv_iadd (pc := 66) hx hb dX5_price_66 ?_
      obtain ⟨h_8, hw⟩ := hw
      refine va_iald (pc := 67) hx hb hK hP 1 0 rfl rfl h_8 dX5_price_67 ?_
      refine lv_topi (fun y_9 ey_9 => ?_)
      replace hw := hw y_9 ey_9
      refine lv_istore (pc := 68) (lv' := [(7, .int y_9), (6, .int y_7), (0, .ref (q 35)), (1, .int p1), (2, .int p2), (4, .int x4), (5, .int x5)]) hx hb dX5_price_68 hl (by decide) rfl (fun ls hl => ?_)
      refine lv_iload (pc := 70) hx hb dX5_price_70 (lv_at hl 1 rfl) ?_
      refine lv_bipush (pc := 72) (v := (-9 : Int32)) hx hb dX5_price_72 (by decide) ?_
      refine lv_icmp_eq (pc := 74) (tgt := 84) hx hb dX5_price_74 (by decide) (fun c_10 => ?_) (fun c_10 => ?_)
      · replace hw := hw.1 c_10
        obtain ⟨y_11, ey_11⟩ : ∃ z : Int32, z = (x4 + (10 : Int32)) := ⟨_, rfl⟩
        replace hw := hw y_11 ey_11
        refine lv_iinc (pc := 84) (v := y_11) (lv' := [(4, .int y_11), (7, .int y_9), (6, .int y_7), (0, .ref (q 35)), (1, .int p1), (2, .int p2), (5, .int x5)]) hx hb dX5_price_84 hl (k := 5) rfl (by rw [ey_11]; rfl) (by decide) rfl (fun ls hl => ?_)
        refine lv_goto (pc := 87) (tgt := 100) hx hb dX5_price_87 (by decide) ?_
        obtain ⟨y_12, ey_12⟩ : ∃ z : Int32, z = (x5 + (1 : Int32)) := ⟨_, rfl⟩
        replace hw := hw y_12 ey_12
        refine lv_iinc (pc := 100) (v := y_12) (lv' := [(5, .int y_12), (4, .int y_11), (7, .int y_9), (6, .int y_7), (0, .ref (q 35)), (1, .int p1), (2, .int p2)]) hx hb dX5_price_100 hl (k := 6) rfl (by rw [ey_12]; rfl) (by decide) rfl (fun ls hl => ?_)
        refine lv_goto (pc := 103) (tgt := 35) hx hb dX5_price_103 (by decide) ?_
        exact hw _ _ _ hP hD hS (lv_sub hl [4, 5, 6, 1, 0] rfl)
      · replace hw := hw.2 c_10
        refine lv_iload (pc := 77) hx hb dX5_price_77 (lv_at hl 0 rfl) ?_
        refine lv_bipush (pc := 79) (v := (-9 : Int32)) hx hb dX5_price_79 (by decide) ?_
        refine lv_icmp_ne (pc := 81) (tgt := 90) hx hb dX5_price_81 (by decide) (fun c_13 => ?_) (fun c_13 => ?_)
        · replace hw := hw.2 c_13
          refine lv_iload (pc := 90) hx hb dX5_price_90 (lv_at hl 1 rfl) ?_
          refine lv_iload (pc := 92) hx hb dX5_price_92 (lv_at hl 0 rfl) ?_
          refine lv_icmp_eq (pc := 94) (tgt := 100) hx hb dX5_price_94 (by decide) (fun c_14 => ?_) (fun c_14 => ?_)
          · replace hw := hw.1 c_14
            obtain ⟨y_15, ey_15⟩ : ∃ z : Int32, z = (x5 + (1 : Int32)) := ⟨_, rfl⟩
            replace hw := hw y_15 ey_15
            refine lv_iinc (pc := 100) (v := y_15) (lv' := [(5, .int y_15), (7, .int y_9), (6, .int y_7), (0, .ref (q 35)), (1, .int p1), (2, .int p2), (4, .int x4)]) hx hb dX5_price_100 hl (k := 6) rfl (by rw [ey_15]; rfl) (by decide) rfl (fun ls hl => ?_)
            refine lv_goto (pc := 103) (tgt := 35) hx hb dX5_price_103 (by decide) ?_
            exact hw _ _ _ hP hD hS (lv_sub hl [3, 4, 5, 6, 0] rfl)
          · replace hw := hw.2 c_14
            refine lv_bipush (pc := 97) (v := (-9 : Int32)) hx hb dX5_price_97 (by decide) ?_
            exact hRetI (S := Unit) () hx hb hr hlocks hQ hw hP hK hD hS dX5_price_99
        · replace hw := hw.1 c_13
          obtain ⟨y_16, ey_16⟩ : ∃ z : Int32, z = (x4 + (10 : Int32)) := ⟨_, rfl⟩
          replace hw := hw y_16 ey_16
          refine lv_iinc (pc := 84) (v := y_16) (lv' := [(4, .int y_16), (7, .int y_9), (6, .int y_7), (0, .ref (q 35)), (1, .int p1), (2, .int p2), (5, .int x5)]) hx hb dX5_price_84 hl (k := 5) rfl (by rw [ey_16]; rfl) (by decide) rfl (fun ls hl => ?_)
          refine lv_goto (pc := 87) (tgt := 100) hx hb dX5_price_87 (by decide) ?_
          obtain ⟨y_17, ey_17⟩ : ∃ z : Int32, z = (x5 + (1 : Int32)) := ⟨_, rfl⟩
          replace hw := hw y_17 ey_17
          refine lv_iinc (pc := 100) (v := y_17) (lv' := [(5, .int y_17), (4, .int y_16), (7, .int y_9), (6, .int y_7), (0, .ref (q 35)), (1, .int p1), (2, .int p2)]) hx hb dX5_price_100 hl (k := 6) rfl (by rw [ey_17]; rfl) (by decide) rfl (fun ls hl => ?_)
          refine lv_goto (pc := 103) (tgt := 35) hx hb dX5_price_103 (by decide) ?_
          exact hw _ _ _ hP hD hS (lv_sub hl [4, 5, 6, 1, 0] rfl))
  refine lv_aload_n (pc := 0) hx hb dX5_price_0 rfl (lv_at hl 0 rfl) ?_
  refine va_get (pc := 1) (D := G) (ci := 5) (v := .ref (q 37)) (C := RX5) (T := TX5) (N := 4) hx hb hts iw_X5_price_X5 hown hK hP 0 rfl rfl 1 (by decide) (hts _ (List.mem_of_getElem? (i := 1) rfl)) (fun _ h9 => h9) rfl dX5_price_1 ?_
  refine lv_iload_n (pc := 4) hx hb dX5_price_4 rfl (lv_at hl 1 rfl) ?_
  obtain ⟨h_1, hw⟩ := hw
  refine va_iald (pc := 5) hx hb hK hP 2 0 rfl rfl h_1 dX5_price_5 ?_
  refine lv_aload_n (pc := 6) hx hb dX5_price_6 rfl (lv_at hl 0 rfl) ?_
  refine va_get (pc := 7) (D := G) (ci := 5) (v := .ref (q 37)) (C := RX5) (T := TX5) (N := 4) hx hb hts iw_X5_price_X5 hown hK hP 0 rfl rfl 1 (by decide) (hts _ (List.mem_of_getElem? (i := 1) rfl)) (fun _ h9 => h9) rfl dX5_price_7 ?_
  refine lv_bipush (pc := 10) (v := (8 : Int32)) hx hb dX5_price_10 (by decide) ?_
  refine lv_iload_n (pc := 12) hx hb dX5_price_12 rfl (lv_at hl 2 rfl) ?_
  refine lv_iadd (pc := 13) hx hb dX5_price_13 ?_
  obtain ⟨h_2, hw⟩ := hw
  refine va_iald (pc := 14) hx hb hK hP 2 0 rfl rfl h_2 dX5_price_14 ?_
  refine lv_isub (pc := 15) hx hb dX5_price_15 ?_
  refine va_mabs (pc := 16) hx hb (hml.trans hl.1.symm) hown (hts _ (List.mem_of_getElem? (i := 2) rfl)) (hts _ (List.mem_of_getElem? (i := 3) rfl)) (hts _ (List.mem_of_getElem? (i := 4) rfl)) (hts _ (List.mem_of_getElem? (i := 5) rfl)) (Nat.le_of_ble_eq_true rfl) (Nat.le_of_ble_eq_true rfl) (Nat.zero_le _) (Nat.zero_le _) dX5_price_16 ?_
  refine lv_topi (fun y_3 ey_3 => ?_)
  replace hw := hw y_3 ey_3
  refine lv_istore_n (pc := 19) (lv' := [(3, .int y_3), (0, .ref (q 35)), (1, .int p1), (2, .int p2)]) hx hb dX5_price_19 rfl hl (by decide) rfl (fun ls hl => ?_)
  refine lv_iload_n (pc := 20) hx hb dX5_price_20 rfl (lv_at hl 0 rfl) ?_
  refine lv_bipush (pc := 21) (v := (20 : Int32)) hx hb dX5_price_21 (by decide) ?_
  refine lv_icmp_le (pc := 23) (tgt := 29) hx hb dX5_price_23 (by decide) (fun c_4 => ?_) (fun c_4 => ?_)
  · replace hw := hw.1 c_4
    refine lv_iload_n (pc := 29) hx hb dX5_price_29 rfl (lv_at hl 0 rfl) ?_
    refine lv_istore (pc := 30) (lv' := [(4, .int y_3), (3, .int y_3), (0, .ref (q 35)), (1, .int p1), (2, .int p2)]) hx hb dX5_price_30 hl (by decide) rfl (fun ls hl => ?_)
    refine lv_iconst (pc := 32) (v := (0 : Int32)) hx hb dX5_price_32 (by decide) ?_
    refine lv_istore (pc := 33) (lv' := [(5, .int (0 : Int32)), (4, .int y_3), (3, .int y_3), (0, .ref (q 35)), (1, .int p1), (2, .int p2)]) hx hb dX5_price_33 hl (by decide) rfl (fun ls hl => ?_)
    exact hw _ _ _ hP hD hS (lv_sub hl [3, 4, 5, 1, 0] rfl)
  · replace hw := hw.2 c_4
    refine lv_bipush (pc := 26) (v := (-9 : Int32)) hx hb dX5_price_26 (by decide) ?_
    exact hRetI (S := Unit) () hx hb hr hlocks hQ hw hP hK hD hS dX5_price_28
def P_X5_takeAway (post : Int32 → Int32 → Int32 → Prop) (mk_pieces : Int32) (mk_finds : Int32) : Prop :=
  ∀ y_1 : Int32, y_1 = (mk_pieces + mk_finds) → post y_1 (0 : Int32) (0 : Int32)
abbrev rm_X5_takeAway : Room := { frames := 0, cells := 0, slots := 0, locals := 0 }
theorem iw_X5_takeAway_X5 : ∀ w ∈ wsX50, w ∈ wsX5_takeAway := by decide +kernel
set_option maxHeartbeats 4000000 in
set_option maxRecDepth 100000 in
theorem c_X5_takeAway (l : Launch) (G : va_G) (K : ClassId × ClassId × ClassId) (tb q : Nat → Nat) (sz : Nat) (post : Int32 → Int32 → Int32 → Prop) (mk_pieces : Int32) (mk_finds : Int32) (hw : P_X5_takeAway post mk_pieces mk_finds) : Met l yX5_takeAway wsX5_takeAway rm_X5_takeAway (va_Pc [.ref (q 35)] (hPre G K tb [oX5 q mk_pieces mk_finds] sz)) (va_Qi (fun (r : Int32) (u : Int32 × Int32) => post r u.1 u.2) (fun u => hB G K (va_A [oX5 q mk_pieces mk_finds] sz) [oX5 q u.1 u.2]) (va_A [oX5 q mk_pieces mk_finds] sz)) 0 0 (va_A [oX5 q mk_pieces mk_finds] sz) := by
  refine hMet (fun A => va_Qi (fun (r : Int32) (u : Int32 × Int32) => post r u.1 u.2) (fun u => hB G K A [oX5 q u.1 u.2]) A) (by decide) rfl (Nat.le_of_ble_eq_true rfl) ?_
  intro p e s m av below meth c A Q ls hx hb hr hml hts hown hlocks hnm hA hP hK hD hS hE hQ hl
  have hts : ∀ w ∈ wsX5_takeAway, w.before av s = true := hts
  have hown : s.vm.findClass RX5 = some m.cls := hown
  have hl : lv_has ls 2 [(0, .ref (q 35))] := hl
  unfold P_X5_takeAway at hw
  refine lv_aload_n (pc := 0) hx hb dX5_takeAway_0 rfl (lv_at hl 0 rfl) ?_
  refine va_get (pc := 1) (D := G) (ci := 5) (v := .int mk_pieces) (C := RX5) (T := TX5) (N := 4) hx hb hts iw_X5_takeAway_X5 hown hK hP 0 rfl rfl 2 (by decide) (hts _ (List.mem_of_getElem? (i := 1) rfl)) (fun _ h9 => h9) rfl dX5_takeAway_1 ?_
  refine lv_aload_n (pc := 4) hx hb dX5_takeAway_4 rfl (lv_at hl 0 rfl) ?_
  refine va_get (pc := 5) (D := G) (ci := 5) (v := .int mk_finds) (C := RX5) (T := TX5) (N := 4) hx hb hts iw_X5_takeAway_X5 hown hK hP 0 rfl rfl 3 (by decide) (hts _ (List.mem_of_getElem? (i := 2) rfl)) (fun _ h9 => h9) rfl dX5_takeAway_5 ?_
  refine lv_iadd (pc := 8) hx hb dX5_takeAway_8 ?_
  refine lv_topi (fun y_1 ey_1 => ?_)
  replace hw := hw y_1 ey_1
  refine lv_istore_n (pc := 9) (lv' := [(1, .int y_1), (0, .ref (q 35))]) hx hb dX5_takeAway_9 rfl hl (by decide) rfl (fun ls hl => ?_)
  refine lv_aload_n (pc := 10) hx hb dX5_takeAway_10 rfl (lv_at hl 1 rfl) ?_
  refine lv_iconst (pc := 11) (v := (0 : Int32)) hx hb dX5_takeAway_11 (by decide) ?_
  refine va_put (pc := 12) (D := G) (ci := 5) (v := .int (0 : Int32)) (ty := .int) (C := RX5) (T := TX5) (N := 4) hx hb hts iw_X5_takeAway_X5 tyX5 tyX5_ok nmX5 hown hK hP hD hS 0 rfl rfl 2 (by decide) (hts _ (List.mem_of_getElem? (i := 1) rfl)) (fun _ h9 => h9) rfl (by decide +kernel) rfl rfl (Nat.le_of_ble_eq_true rfl) dX5_takeAway_12 (fun H locs hP hD hS => ?_)
  have hP : va_P G vwCl [oX5 q (0 : Int32) mk_finds] H := hP
  have hD : va_D A [oX5 q (0 : Int32) mk_finds] := hD
  refine lv_aload_n (pc := 15) hx hb dX5_takeAway_15 rfl (lv_at hl 1 rfl) ?_
  refine lv_iconst (pc := 16) (v := (0 : Int32)) hx hb dX5_takeAway_16 (by decide) ?_
  refine va_put (pc := 17) (D := G) (ci := 5) (v := .int (0 : Int32)) (ty := .int) (C := RX5) (T := TX5) (N := 4) hx hb hts iw_X5_takeAway_X5 tyX5 tyX5_ok nmX5 hown hK hP hD hS 0 rfl rfl 3 (by decide) (hts _ (List.mem_of_getElem? (i := 2) rfl)) (fun _ h9 => h9) rfl (by decide +kernel) rfl rfl (Nat.le_of_ble_eq_true rfl) dX5_takeAway_17 (fun H locs hP hD hS => ?_)
  have hP : va_P G vwCl [oX5 q (0 : Int32) (0 : Int32)] H := hP
  have hD : va_D A [oX5 q (0 : Int32) (0 : Int32)] := hD
  refine lv_iload_n (pc := 20) hx hb dX5_takeAway_20 rfl (lv_at hl 0 rfl) ?_
  exact hRetI (S := Int32 × Int32) ((0 : Int32), (0 : Int32)) hx hb hr hlocks hQ hw hP hK hD hS dX5_takeAway_21
def P_X8_bookedInAll (post : Int32 → Prop) (st_booked : Nat → Int32) : Prop :=
  ∀ (X4 : Int32 → Int32 → Prop),
  (∀ (x1 : Int32) (x2 : Int32), ((((30 : Int32) ≤ x2 → post x1) ∧ (¬ (30 : Int32) ≤ x2 → vp_in x2 30 ∧ ∀ y_3 : Int32, y_3 = (x1 + (st_booked x2.toNatClampNeg)) → ∀ y_4 : Int32, y_4 = (x2 + (1 : Int32)) → X4 y_3 y_4))) → X4 x1 x2) →
  X4 (0 : Int32) (0 : Int32)
abbrev rm_X8_bookedInAll : Room := { frames := 0, cells := 0, slots := 0, locals := 0 }
theorem iw_X8_bookedInAll_X8 : ∀ w ∈ wsX80, w ∈ wsX8_bookedInAll := by decide +kernel
set_option maxHeartbeats 4000000 in
set_option maxRecDepth 100000 in
theorem c_X8_bookedInAll (l : Launch) (G : va_G) (K : ClassId × ClassId × ClassId) (tb q : Nat → Nat) (sz : Nat) (post : Int32 → Prop) (st_booked : Nat → Int32) (hw : P_X8_bookedInAll post st_booked) : Met l yX8_bookedInAll wsX8_bookedInAll rm_X8_bookedInAll (va_Pc [.ref (q 4)] (hPre G K tb [oX8 q, aI K (q 5) 30 st_booked] sz)) (va_Qi (fun (r : Int32) (u : Unit) => post r) (fun u => hB G K (va_A [oX8 q, aI K (q 5) 30 st_booked] sz) [oX8 q, aI K (q 5) 30 st_booked]) (va_A [oX8 q, aI K (q 5) 30 st_booked] sz)) 0 0 (va_A [oX8 q, aI K (q 5) 30 st_booked] sz) := by
  refine hMet (fun A => va_Qi (fun (r : Int32) (u : Unit) => post r) (fun u => hB G K A [oX8 q, aI K (q 5) 30 st_booked]) A) (by decide) rfl (Nat.le_of_ble_eq_true rfl) ?_
  intro p e s m av below meth c A Q ls hx hb hr hml hts hown hlocks hnm hA hP hK hD hS hE hQ hl
  have hts : ∀ w ∈ wsX8_bookedInAll, w.before av s = true := hts
  have hown : s.vm.findClass RX8 = some m.cls := hown
  have hl : lv_has ls 3 [(0, .ref (q 4))] := hl
  unfold P_X8_bookedInAll at hw
  replace hw := hw (fun (x1 : Int32) (x2 : Int32) => ∀ (H : Heap) (locs : List Loc) (ls : Array Slot), va_P G vwCl [oX8 q, aI K (q 5) 30 st_booked] H → va_D A [oX8 q, aI K (q 5) 30 st_booked] → va_S A s.heap H locs → lv_has ls 3 [(0, .ref (q 4)), (1, .int x1), (2, .int x2)] → W p l e rm_X8_bookedInAll s m av below meth c H locs 0 0 Q (F0 m 4 ls []))
  replace hw := hw (by
    intro x1 x2 hw H locs ls hP hD hS hl
    refine lv_iload_n (pc := 4) hx hb dX8_bookedInAll_4 rfl (lv_at hl 2 rfl) ?_
    refine lv_bipush (pc := 5) (v := (30 : Int32)) hx hb dX8_bookedInAll_5 (by decide) ?_
    refine lv_icmp_ge (pc := 7) (tgt := 25) hx hb dX8_bookedInAll_7 (by decide) (fun c_1 => ?_) (fun c_1 => ?_)
    · replace hw := hw.1 c_1
      refine lv_iload_n (pc := 25) hx hb dX8_bookedInAll_25 rfl (lv_at hl 1 rfl) ?_
      exact hRetI (S := Unit) () hx hb hr hlocks hQ hw hP hK hD hS dX8_bookedInAll_26
    · replace hw := hw.2 c_1
      refine lv_iload_n (pc := 10) hx hb dX8_bookedInAll_10 rfl (lv_at hl 1 rfl) ?_
      refine lv_aload_n (pc := 11) hx hb dX8_bookedInAll_11 rfl (lv_at hl 0 rfl) ?_
      refine va_get (pc := 12) (D := G) (ci := 8) (v := .ref (q 5)) (C := RX8) (T := TX8) (N := 2) hx hb hts iw_X8_bookedInAll_X8 hown hK hP 0 rfl rfl 0 (by decide) (hts _ (List.mem_of_getElem? (i := 1) rfl)) (fun _ h9 => h9) rfl dX8_bookedInAll_12 ?_
      refine lv_iload_n (pc := 15) hx hb dX8_bookedInAll_15 rfl (lv_at hl 2 rfl) ?_
      obtain ⟨h_2, hw⟩ := hw
      refine va_iald (pc := 16) hx hb hK hP 1 0 rfl rfl h_2 dX8_bookedInAll_16 ?_
      refine lv_iadd (pc := 17) hx hb dX8_bookedInAll_17 ?_
      refine lv_topi (fun y_3 ey_3 => ?_)
      replace hw := hw y_3 ey_3
      refine lv_istore_n (pc := 18) (lv' := [(1, .int y_3), (0, .ref (q 4)), (2, .int x2)]) hx hb dX8_bookedInAll_18 rfl hl (by decide) rfl (fun ls hl => ?_)
      obtain ⟨y_4, ey_4⟩ : ∃ z : Int32, z = (x2 + (1 : Int32)) := ⟨_, rfl⟩
      replace hw := hw y_4 ey_4
      refine lv_iinc (pc := 19) (v := y_4) (lv' := [(2, .int y_4), (1, .int y_3), (0, .ref (q 4))]) hx hb dX8_bookedInAll_19 hl (k := 2) rfl (by rw [ey_4]; rfl) (by decide) rfl (fun ls hl => ?_)
      refine lv_goto (pc := 22) (tgt := 4) hx hb dX8_bookedInAll_22 (by decide) ?_
      exact hw _ _ _ hP hD hS (lv_sub hl [2, 1, 0] rfl))
  refine lv_iconst (pc := 0) (v := (0 : Int32)) hx hb dX8_bookedInAll_0 (by decide) ?_
  refine lv_istore_n (pc := 1) (lv' := [(1, .int (0 : Int32)), (0, .ref (q 4))]) hx hb dX8_bookedInAll_1 rfl hl (by decide) rfl (fun ls hl => ?_)
  refine lv_iconst (pc := 2) (v := (0 : Int32)) hx hb dX8_bookedInAll_2 (by decide) ?_
  refine lv_istore_n (pc := 3) (lv' := [(2, .int (0 : Int32)), (1, .int (0 : Int32)), (0, .ref (q 4))]) hx hb dX8_bookedInAll_3 rfl hl (by decide) rfl (fun ls hl => ?_)
  exact hw _ _ _ hP hD hS (lv_sub hl [2, 1, 0] rfl)
def P_X8_bookedOf (post : Int32 → Prop) (p1 : Int32) (st_booked : Nat → Int32) : Prop :=
  ∀ (X4 : Int32 → Int32 → Prop),
  (∀ (x2 : Int32) (x3 : Int32), ((((5 : Int32) ≤ x3 → post x2) ∧ (¬ (5 : Int32) ≤ x3 → P_X10_cell (fun r_2 => vp_in r_2 30 ∧ ∀ y_4 : Int32, y_4 = (x2 + (st_booked r_2.toNatClampNeg)) → ∀ y_5 : Int32, y_5 = (x3 + (1 : Int32)) → X4 y_4 y_5) x3 p1))) → X4 x2 x3) →
  X4 (0 : Int32) (0 : Int32)
abbrev rm_X8_bookedOf : Room := { frames := 1, cells := 0, slots := 0, locals := 21 }
theorem iw_X8_bookedOf_X8 : ∀ w ∈ wsX80, w ∈ wsX8_bookedOf := by decide +kernel
set_option maxHeartbeats 4000000 in
set_option maxRecDepth 100000 in
theorem c_X8_bookedOf (l : Launch) (G : va_G) (K : ClassId × ClassId × ClassId) (tb q : Nat → Nat) (sz : Nat) (post : Int32 → Prop) (p1 : Int32) (st_booked : Nat → Int32) (hw : P_X8_bookedOf post p1 st_booked) : Met l yX8_bookedOf wsX8_bookedOf rm_X8_bookedOf (va_Pc [.ref (q 4), .int p1] (hPre G K tb [oX8 q, aI K (q 5) 30 st_booked] sz)) (va_Qi (fun (r : Int32) (u : Unit) => post r) (fun u => hB G K (va_A [oX8 q, aI K (q 5) 30 st_booked] sz) [oX8 q, aI K (q 5) 30 st_booked]) (va_A [oX8 q, aI K (q 5) 30 st_booked] sz)) 0 0 (va_A [oX8 q, aI K (q 5) 30 st_booked] sz) := by
  refine hMet (fun A => va_Qi (fun (r : Int32) (u : Unit) => post r) (fun u => hB G K A [oX8 q, aI K (q 5) 30 st_booked]) A) (by decide) rfl (Nat.le_of_ble_eq_true rfl) ?_
  intro p e s m av below meth c A Q ls hx hb hr hml hts hown hlocks hnm hA hP hK hD hS hE hQ hl
  have hts : ∀ w ∈ wsX8_bookedOf, w.before av s = true := hts
  have hown : s.vm.findClass RX8 = some m.cls := hown
  have hl : lv_has ls 4 [(0, .ref (q 4)), (1, .int p1)] := hl
  unfold P_X8_bookedOf at hw
  replace hw := hw (fun (x2 : Int32) (x3 : Int32) => ∀ (H : Heap) (locs : List Loc) (ls : Array Slot), va_P G vwCl [oX8 q, aI K (q 5) 30 st_booked] H → va_D A [oX8 q, aI K (q 5) 30 st_booked] → va_S A s.heap H locs → lv_has ls 4 [(0, .ref (q 4)), (1, .int p1), (2, .int x2), (3, .int x3)] → W p l e rm_X8_bookedOf s m av below meth c H locs 0 0 Q (F0 m 4 ls []))
  replace hw := hw (by
    intro x2 x3 hw H locs ls hP hD hS hl
    refine lv_iload_n (pc := 4) hx hb dX8_bookedOf_4 rfl (lv_at hl 3 rfl) ?_
    refine lv_iconst (pc := 5) (v := (5 : Int32)) hx hb dX8_bookedOf_5 (by decide) ?_
    refine lv_icmp_ge (pc := 6) (tgt := 28) hx hb dX8_bookedOf_6 (by decide) (fun c_1 => ?_) (fun c_1 => ?_)
    · replace hw := hw.1 c_1
      refine lv_iload_n (pc := 28) hx hb dX8_bookedOf_28 rfl (lv_at hl 2 rfl) ?_
      exact hRetI (S := Unit) () hx hb hr hlocks hQ hw hP hK hD hS dX8_bookedOf_29
    · replace hw := hw.2 c_1
      refine lv_iload_n (pc := 9) hx hb dX8_bookedOf_9 rfl (lv_at hl 2 rfl) ?_
      refine lv_aload_n (pc := 10) hx hb dX8_bookedOf_10 rfl (lv_at hl 0 rfl) ?_
      refine va_get (pc := 11) (D := G) (ci := 8) (v := .ref (q 5)) (C := RX8) (T := TX8) (N := 2) hx hb hts iw_X8_bookedOf_X8 hown hK hP 0 rfl rfl 0 (by decide) (hts _ (List.mem_of_getElem? (i := 1) rfl)) (fun _ h9 => h9) rfl dX8_bookedOf_11 ?_
      refine lv_iload_n (pc := 14) hx hb dX8_bookedOf_14 rfl (lv_at hl 3 rfl) ?_
      refine lv_iload_n (pc := 15) hx hb dX8_bookedOf_15 rfl (lv_at hl 1 rfl) ?_
      refine hCallI (pc := 16) (wr := [oX8 q, aI K (q 5) 30 st_booked]) (wsf := fun (u : Unit) => []) [] [0, 1] (va_runSN (As := [.int x3, .int p1]) (rest := [.ref (q 5), .int x2]) ⟨hx, hb, hml, hown, hts⟩ (c_X10_cell l G K tb q H.size _ x3 p1 hw) ⟨va_cnB 2 hts gX8_bookedOf_X10_cell_n18 rfl rfl rfl (hE.nw 49 rfl) (hts _ (List.mem_of_getElem? (i := 3) rfl)) (by decide +kernel) ⟨Nat.le_of_ble_eq_true rfl, Nat.le_of_ble_eq_true rfl⟩, (hts _ (List.mem_of_getElem? (i := 2) rfl)), trivial⟩ (hPreS hE hP hK hD hS hA [] (by decide) rfl rfl) rfl rfl hl.1 rfl (lv_room (Nat.le_of_ble_eq_true rfl)) dX8_bookedOf_16 ⟨Nat.zero_le _, Nat.zero_le _⟩) hP hD hS hA rfl rfl (by decide) (by decide) (fun r_2 u H locs hw hP hD hS => ?_)
      have hP : va_P G vwCl [oX8 q, aI K (q 5) 30 st_booked] H := hP.sub [0, 1] rfl
      have hD : va_D A [oX8 q, aI K (q 5) 30 st_booked] := hD.sub [0, 1] (by decide) rfl
      obtain ⟨h_3, hw⟩ := hw
      refine va_iald (pc := 19) hx hb hK hP 1 0 rfl rfl h_3 dX8_bookedOf_19 ?_
      refine lv_iadd (pc := 20) hx hb dX8_bookedOf_20 ?_
      refine lv_topi (fun y_4 ey_4 => ?_)
      replace hw := hw y_4 ey_4
      refine lv_istore_n (pc := 21) (lv' := [(2, .int y_4), (0, .ref (q 4)), (1, .int p1), (3, .int x3)]) hx hb dX8_bookedOf_21 rfl hl (by decide) rfl (fun ls hl => ?_)
      obtain ⟨y_5, ey_5⟩ : ∃ z : Int32, z = (x3 + (1 : Int32)) := ⟨_, rfl⟩
      replace hw := hw y_5 ey_5
      refine lv_iinc (pc := 22) (v := y_5) (lv' := [(3, .int y_5), (2, .int y_4), (0, .ref (q 4)), (1, .int p1)]) hx hb dX8_bookedOf_22 hl (k := 3) rfl (by rw [ey_5]; rfl) (by decide) rfl (fun ls hl => ?_)
      refine lv_goto (pc := 25) (tgt := 4) hx hb dX8_bookedOf_25 (by decide) ?_
      exact hw _ _ _ hP hD hS (lv_sub hl [2, 3, 1, 0] rfl))
  refine lv_iconst (pc := 0) (v := (0 : Int32)) hx hb dX8_bookedOf_0 (by decide) ?_
  refine lv_istore_n (pc := 1) (lv' := [(2, .int (0 : Int32)), (0, .ref (q 4)), (1, .int p1)]) hx hb dX8_bookedOf_1 rfl hl (by decide) rfl (fun ls hl => ?_)
  refine lv_iconst (pc := 2) (v := (0 : Int32)) hx hb dX8_bookedOf_2 (by decide) ?_
  refine lv_istore_n (pc := 3) (lv' := [(3, .int (0 : Int32)), (2, .int (0 : Int32)), (0, .ref (q 4)), (1, .int p1)]) hx hb dX8_bookedOf_3 rfl hl (by decide) rfl (fun ls hl => ?_)
  exact hw _ _ _ hP hD hS (lv_sub hl [2, 3, 1, 0] rfl)
def P_X8_lost (post : Int32 → Prop) (p1 : Int32) (st_booked : Nat → Int32) (st_parted : Nat → Int32) : Prop :=
  ∀ (X9 : Int32 → Int32 → Prop),
  (∀ (x2 : Int32) (x3 : Int32), ((((3 : Int32) ≤ x3 → post x2) ∧ (¬ (3 : Int32) ≤ x3 → vp_in ((p1 * (3 : Int32)) + x3) 90 ∧ ∀ y_5 : Int32, y_5 = (x2 - (st_parted ((p1 * (3 : Int32)) + x3).toNatClampNeg)) → ∀ y_6 : Int32, y_6 = (x3 + (1 : Int32)) → X9 y_5 y_6))) → X9 x2 x3) →
  vp_in p1 30 ∧ ∀ y_2 : Int32, y_2 = (st_booked p1.toNatClampNeg) → X9 y_2 (0 : Int32)
abbrev rm_X8_lost : Room := { frames := 0, cells := 0, slots := 0, locals := 0 }
theorem iw_X8_lost_X8 : ∀ w ∈ wsX80, w ∈ wsX8_lost := by decide +kernel
set_option maxHeartbeats 4000000 in
set_option maxRecDepth 100000 in
theorem c_X8_lost (l : Launch) (G : va_G) (K : ClassId × ClassId × ClassId) (tb q : Nat → Nat) (sz : Nat) (post : Int32 → Prop) (p1 : Int32) (st_booked : Nat → Int32) (st_parted : Nat → Int32) (hw : P_X8_lost post p1 st_booked st_parted) : Met l yX8_lost wsX8_lost rm_X8_lost (va_Pc [.ref (q 4), .int p1] (hPre G K tb [oX8 q, aI K (q 5) 30 st_booked, aI K (q 6) 90 st_parted] sz)) (va_Qi (fun (r : Int32) (u : Unit) => post r) (fun u => hB G K (va_A [oX8 q, aI K (q 5) 30 st_booked, aI K (q 6) 90 st_parted] sz) [oX8 q, aI K (q 5) 30 st_booked, aI K (q 6) 90 st_parted]) (va_A [oX8 q, aI K (q 5) 30 st_booked, aI K (q 6) 90 st_parted] sz)) 0 0 (va_A [oX8 q, aI K (q 5) 30 st_booked, aI K (q 6) 90 st_parted] sz) := by
  refine hMet (fun A => va_Qi (fun (r : Int32) (u : Unit) => post r) (fun u => hB G K A [oX8 q, aI K (q 5) 30 st_booked, aI K (q 6) 90 st_parted]) A) (by decide) rfl (Nat.le_of_ble_eq_true rfl) ?_
  intro p e s m av below meth c A Q ls hx hb hr hml hts hown hlocks hnm hA hP hK hD hS hE hQ hl
  have hts : ∀ w ∈ wsX8_lost, w.before av s = true := hts
  have hown : s.vm.findClass RX8 = some m.cls := hown
  have hl : lv_has ls 4 [(0, .ref (q 4)), (1, .int p1)] := hl
  unfold P_X8_lost at hw
  replace hw := hw (fun (x2 : Int32) (x3 : Int32) => ∀ (H : Heap) (locs : List Loc) (ls : Array Slot), va_P G vwCl [oX8 q, aI K (q 5) 30 st_booked, aI K (q 6) 90 st_parted] H → va_D A [oX8 q, aI K (q 5) 30 st_booked, aI K (q 6) 90 st_parted] → va_S A s.heap H locs → lv_has ls 4 [(0, .ref (q 4)), (1, .int p1), (2, .int x2), (3, .int x3)] → W p l e rm_X8_lost s m av below meth c H locs 0 0 Q (F0 m 9 ls []))
  replace hw := hw (by
    intro x2 x3 hw H locs ls hP hD hS hl
    refine lv_iload_n (pc := 9) hx hb dX8_lost_9 rfl (lv_at hl 3 rfl) ?_
    refine lv_iconst (pc := 10) (v := (3 : Int32)) hx hb dX8_lost_10 (by decide) ?_
    refine lv_icmp_ge (pc := 11) (tgt := 33) hx hb dX8_lost_11 (by decide) (fun c_3 => ?_) (fun c_3 => ?_)
    · replace hw := hw.1 c_3
      refine lv_iload_n (pc := 33) hx hb dX8_lost_33 rfl (lv_at hl 2 rfl) ?_
      exact hRetI (S := Unit) () hx hb hr hlocks hQ hw hP hK hD hS dX8_lost_34
    · replace hw := hw.2 c_3
      refine lv_iload_n (pc := 14) hx hb dX8_lost_14 rfl (lv_at hl 2 rfl) ?_
      refine lv_aload_n (pc := 15) hx hb dX8_lost_15 rfl (lv_at hl 0 rfl) ?_
      refine va_get (pc := 16) (D := G) (ci := 8) (v := .ref (q 6)) (C := RX8) (T := TX8) (N := 2) hx hb hts iw_X8_lost_X8 hown hK hP 0 rfl rfl 1 (by decide) (hts _ (List.mem_of_getElem? (i := 2) rfl)) (fun _ h9 => h9) rfl dX8_lost_16 ?_
      refine lv_iload_n (pc := 19) hx hb dX8_lost_19 rfl (lv_at hl 1 rfl) ?_
      refine lv_iconst (pc := 20) (v := (3 : Int32)) hx hb dX8_lost_20 (by decide) ?_
      refine lv_imul (pc := 21) hx hb dX8_lost_21 ?_
      refine lv_iload_n (pc := 22) hx hb dX8_lost_22 rfl (lv_at hl 3 rfl) ?_
      refine lv_iadd (pc := 23) hx hb dX8_lost_23 ?_
      obtain ⟨h_4, hw⟩ := hw
      refine va_iald (pc := 24) hx hb hK hP 2 0 rfl rfl h_4 dX8_lost_24 ?_
      refine lv_isub (pc := 25) hx hb dX8_lost_25 ?_
      refine lv_topi (fun y_5 ey_5 => ?_)
      replace hw := hw y_5 ey_5
      refine lv_istore_n (pc := 26) (lv' := [(2, .int y_5), (0, .ref (q 4)), (1, .int p1), (3, .int x3)]) hx hb dX8_lost_26 rfl hl (by decide) rfl (fun ls hl => ?_)
      obtain ⟨y_6, ey_6⟩ : ∃ z : Int32, z = (x3 + (1 : Int32)) := ⟨_, rfl⟩
      replace hw := hw y_6 ey_6
      refine lv_iinc (pc := 27) (v := y_6) (lv' := [(3, .int y_6), (2, .int y_5), (0, .ref (q 4)), (1, .int p1)]) hx hb dX8_lost_27 hl (k := 3) rfl (by rw [ey_6]; rfl) (by decide) rfl (fun ls hl => ?_)
      refine lv_goto (pc := 30) (tgt := 9) hx hb dX8_lost_30 (by decide) ?_
      exact hw _ _ _ hP hD hS (lv_sub hl [2, 3, 1, 0] rfl))
  refine lv_aload_n (pc := 0) hx hb dX8_lost_0 rfl (lv_at hl 0 rfl) ?_
  refine va_get (pc := 1) (D := G) (ci := 8) (v := .ref (q 5)) (C := RX8) (T := TX8) (N := 2) hx hb hts iw_X8_lost_X8 hown hK hP 0 rfl rfl 0 (by decide) (hts _ (List.mem_of_getElem? (i := 1) rfl)) (fun _ h9 => h9) rfl dX8_lost_1 ?_
  refine lv_iload_n (pc := 4) hx hb dX8_lost_4 rfl (lv_at hl 1 rfl) ?_
  obtain ⟨h_1, hw⟩ := hw
  refine va_iald (pc := 5) hx hb hK hP 1 0 rfl rfl h_1 dX8_lost_5 ?_
  refine lv_topi (fun y_2 ey_2 => ?_)
  replace hw := hw y_2 ey_2
  refine lv_istore_n (pc := 6) (lv' := [(2, .int y_2), (0, .ref (q 4)), (1, .int p1)]) hx hb dX8_lost_6 rfl hl (by decide) rfl (fun ls hl => ?_)
  refine lv_iconst (pc := 7) (v := (0 : Int32)) hx hb dX8_lost_7 (by decide) ?_
  refine lv_istore_n (pc := 8) (lv' := [(3, .int (0 : Int32)), (2, .int y_2), (0, .ref (q 4)), (1, .int p1)]) hx hb dX8_lost_8 rfl hl (by decide) rfl (fun ls hl => ?_)
  exact hw _ _ _ hP hD hS (lv_sub hl [2, 3, 1, 0] rfl)
def P_X8_setBooked (post : Int32 → (Nat → Int32) → Prop) (p1 : Int32) (p2 : Int32) (st_booked : Nat → Int32) : Prop :=
  vp_in p1 30 ∧ ∀ y_2 : Int32, y_2 = (st_booked p1.toNatClampNeg) → ∀ st_booked_3 : Nat → Int32, st_booked_3 = upd st_booked p1.toNatClampNeg p2 → post y_2 st_booked_3
abbrev rm_X8_setBooked : Room := { frames := 0, cells := 0, slots := 0, locals := 0 }
theorem iw_X8_setBooked_X8 : ∀ w ∈ wsX80, w ∈ wsX8_setBooked := by decide +kernel
set_option maxHeartbeats 4000000 in
set_option maxRecDepth 100000 in
theorem c_X8_setBooked (l : Launch) (G : va_G) (K : ClassId × ClassId × ClassId) (tb q : Nat → Nat) (sz : Nat) (post : Int32 → (Nat → Int32) → Prop) (p1 : Int32) (p2 : Int32) (st_booked : Nat → Int32) (hw : P_X8_setBooked post p1 p2 st_booked) : Met l yX8_setBooked wsX8_setBooked rm_X8_setBooked (va_Pc [.ref (q 4), .int p1, .int p2] (hPre G K tb [oX8 q, aI K (q 5) 30 st_booked] sz)) (va_Qi (fun (r : Int32) (u : (Nat → Int32)) => post r u) (fun u => hB G K (va_A [oX8 q, aI K (q 5) 30 st_booked] sz) [oX8 q, aI K (q 5) 30 u]) (va_A [oX8 q, aI K (q 5) 30 st_booked] sz)) 0 0 (va_A [oX8 q, aI K (q 5) 30 st_booked] sz) := by
  refine hMet (fun A => va_Qi (fun (r : Int32) (u : (Nat → Int32)) => post r u) (fun u => hB G K A [oX8 q, aI K (q 5) 30 u]) A) (by decide) rfl (Nat.le_of_ble_eq_true rfl) ?_
  intro p e s m av below meth c A Q ls hx hb hr hml hts hown hlocks hnm hA hP hK hD hS hE hQ hl
  have hts : ∀ w ∈ wsX8_setBooked, w.before av s = true := hts
  have hown : s.vm.findClass RX8 = some m.cls := hown
  have hl : lv_has ls 4 [(0, .ref (q 4)), (1, .int p1), (2, .int p2)] := hl
  unfold P_X8_setBooked at hw
  refine lv_aload_n (pc := 0) hx hb dX8_setBooked_0 rfl (lv_at hl 0 rfl) ?_
  refine va_get (pc := 1) (D := G) (ci := 8) (v := .ref (q 5)) (C := RX8) (T := TX8) (N := 2) hx hb hts iw_X8_setBooked_X8 hown hK hP 0 rfl rfl 0 (by decide) (hts _ (List.mem_of_getElem? (i := 1) rfl)) (fun _ h9 => h9) rfl dX8_setBooked_1 ?_
  refine lv_iload_n (pc := 4) hx hb dX8_setBooked_4 rfl (lv_at hl 1 rfl) ?_
  obtain ⟨h_1, hw⟩ := hw
  refine va_iald (pc := 5) hx hb hK hP 1 0 rfl rfl h_1 dX8_setBooked_5 ?_
  refine lv_topi (fun y_2 ey_2 => ?_)
  replace hw := hw y_2 ey_2
  refine lv_istore_n (pc := 6) (lv' := [(3, .int y_2), (0, .ref (q 4)), (1, .int p1), (2, .int p2)]) hx hb dX8_setBooked_6 rfl hl (by decide) rfl (fun ls hl => ?_)
  refine lv_aload_n (pc := 7) hx hb dX8_setBooked_7 rfl (lv_at hl 1 rfl) ?_
  refine va_get (pc := 8) (D := G) (ci := 8) (v := .ref (q 5)) (C := RX8) (T := TX8) (N := 2) hx hb hts iw_X8_setBooked_X8 hown hK hP 0 rfl rfl 0 (by decide) (hts _ (List.mem_of_getElem? (i := 1) rfl)) (fun _ h9 => h9) rfl dX8_setBooked_8 ?_
  refine lv_iload_n (pc := 11) hx hb dX8_setBooked_11 rfl (lv_at hl 2 rfl) ?_
  refine lv_iload_n (pc := 12) hx hb dX8_setBooked_12 rfl (lv_at hl 3 rfl) ?_
  refine va_iast (pc := 13) hx hb hK hP hD hS 1 0 rfl rfl h_1 dX8_setBooked_13 (fun H locs hP hD hS => ?_)
  obtain ⟨st_booked_3, est_booked_3⟩ : ∃ z : Nat → Int32, z = upd st_booked p1.toNatClampNeg p2 := ⟨_, rfl⟩
  have hP : va_P G vwCl [oX8 q, aI K (q 5) 30 st_booked_3] H := by rw [est_booked_3]; exact hP
  have hD : va_D A [oX8 q, aI K (q 5) 30 st_booked_3] := by rw [est_booked_3]; exact hD
  replace hw := hw st_booked_3 est_booked_3
  refine lv_iload_n (pc := 14) hx hb dX8_setBooked_14 rfl (lv_at hl 0 rfl) ?_
  exact hRetI (S := (Nat → Int32)) st_booked_3 hx hb hr hlocks hQ hw hP hK hD hS dX8_setBooked_15
def P_X8_setParted (post : Int32 → (Nat → Int32) → Prop) (p1 : Int32) (p2 : Int32) (p3 : Int32) (st_parted : Nat → Int32) : Prop :=
  ∀ y_1 : Int32, y_1 = ((p1 * (3 : Int32)) + p2) → vp_in y_1 90 ∧ ∀ y_3 : Int32, y_3 = (st_parted y_1.toNatClampNeg) → ∀ st_parted_4 : Nat → Int32, st_parted_4 = upd st_parted y_1.toNatClampNeg p3 → post y_3 st_parted_4
abbrev rm_X8_setParted : Room := { frames := 0, cells := 0, slots := 0, locals := 0 }
theorem iw_X8_setParted_X8 : ∀ w ∈ wsX80, w ∈ wsX8_setParted := by decide +kernel
set_option maxHeartbeats 4000000 in
set_option maxRecDepth 100000 in
theorem c_X8_setParted (l : Launch) (G : va_G) (K : ClassId × ClassId × ClassId) (tb q : Nat → Nat) (sz : Nat) (post : Int32 → (Nat → Int32) → Prop) (p1 : Int32) (p2 : Int32) (p3 : Int32) (st_parted : Nat → Int32) (hw : P_X8_setParted post p1 p2 p3 st_parted) : Met l yX8_setParted wsX8_setParted rm_X8_setParted (va_Pc [.ref (q 4), .int p1, .int p2, .int p3] (hPre G K tb [oX8 q, aI K (q 6) 90 st_parted] sz)) (va_Qi (fun (r : Int32) (u : (Nat → Int32)) => post r u) (fun u => hB G K (va_A [oX8 q, aI K (q 6) 90 st_parted] sz) [oX8 q, aI K (q 6) 90 u]) (va_A [oX8 q, aI K (q 6) 90 st_parted] sz)) 0 0 (va_A [oX8 q, aI K (q 6) 90 st_parted] sz) := by
  refine hMet (fun A => va_Qi (fun (r : Int32) (u : (Nat → Int32)) => post r u) (fun u => hB G K A [oX8 q, aI K (q 6) 90 u]) A) (by decide) rfl (Nat.le_of_ble_eq_true rfl) ?_
  intro p e s m av below meth c A Q ls hx hb hr hml hts hown hlocks hnm hA hP hK hD hS hE hQ hl
  have hts : ∀ w ∈ wsX8_setParted, w.before av s = true := hts
  have hown : s.vm.findClass RX8 = some m.cls := hown
  have hl : lv_has ls 6 [(0, .ref (q 4)), (1, .int p1), (2, .int p2), (3, .int p3)] := hl
  unfold P_X8_setParted at hw
  refine lv_iload_n (pc := 0) hx hb dX8_setParted_0 rfl (lv_at hl 1 rfl) ?_
  refine lv_iconst (pc := 1) (v := (3 : Int32)) hx hb dX8_setParted_1 (by decide) ?_
  refine lv_imul (pc := 2) hx hb dX8_setParted_2 ?_
  refine lv_iload_n (pc := 3) hx hb dX8_setParted_3 rfl (lv_at hl 2 rfl) ?_
  refine lv_iadd (pc := 4) hx hb dX8_setParted_4 ?_
  refine lv_topi (fun y_1 ey_1 => ?_)
  replace hw := hw y_1 ey_1
  refine lv_istore (pc := 5) (lv' := [(4, .int y_1), (0, .ref (q 4)), (1, .int p1), (2, .int p2), (3, .int p3)]) hx hb dX8_setParted_5 hl (by decide) rfl (fun ls hl => ?_)
  refine lv_aload_n (pc := 7) hx hb dX8_setParted_7 rfl (lv_at hl 1 rfl) ?_
  refine va_get (pc := 8) (D := G) (ci := 8) (v := .ref (q 6)) (C := RX8) (T := TX8) (N := 2) hx hb hts iw_X8_setParted_X8 hown hK hP 0 rfl rfl 1 (by decide) (hts _ (List.mem_of_getElem? (i := 1) rfl)) (fun _ h9 => h9) rfl dX8_setParted_8 ?_
  refine lv_iload (pc := 11) hx hb dX8_setParted_11 (lv_at hl 0 rfl) ?_
  obtain ⟨h_2, hw⟩ := hw
  refine va_iald (pc := 13) hx hb hK hP 1 0 rfl rfl h_2 dX8_setParted_13 ?_
  refine lv_topi (fun y_3 ey_3 => ?_)
  replace hw := hw y_3 ey_3
  refine lv_istore (pc := 14) (lv' := [(5, .int y_3), (4, .int y_1), (0, .ref (q 4)), (1, .int p1), (2, .int p2), (3, .int p3)]) hx hb dX8_setParted_14 hl (by decide) rfl (fun ls hl => ?_)
  refine lv_aload_n (pc := 16) hx hb dX8_setParted_16 rfl (lv_at hl 2 rfl) ?_
  refine va_get (pc := 17) (D := G) (ci := 8) (v := .ref (q 6)) (C := RX8) (T := TX8) (N := 2) hx hb hts iw_X8_setParted_X8 hown hK hP 0 rfl rfl 1 (by decide) (hts _ (List.mem_of_getElem? (i := 1) rfl)) (fun _ h9 => h9) rfl dX8_setParted_17 ?_
  refine lv_iload (pc := 20) hx hb dX8_setParted_20 (lv_at hl 1 rfl) ?_
  refine lv_iload_n (pc := 22) hx hb dX8_setParted_22 rfl (lv_at hl 5 rfl) ?_
  refine va_iast (pc := 23) hx hb hK hP hD hS 1 0 rfl rfl h_2 dX8_setParted_23 (fun H locs hP hD hS => ?_)
  obtain ⟨st_parted_4, est_parted_4⟩ : ∃ z : Nat → Int32, z = upd st_parted y_1.toNatClampNeg p3 := ⟨_, rfl⟩
  have hP : va_P G vwCl [oX8 q, aI K (q 6) 90 st_parted_4] H := by rw [est_parted_4]; exact hP
  have hD : va_D A [oX8 q, aI K (q 6) 90 st_parted_4] := by rw [est_parted_4]; exact hD
  replace hw := hw st_parted_4 est_parted_4
  refine lv_iload (pc := 24) hx hb dX8_setParted_24 (lv_at hl 0 rfl) ?_
  exact hRetI (S := (Nat → Int32)) st_parted_4 hx hb hr hlocks hQ hw hP hK hD hS dX8_setParted_26
def P_X9_add (post : Int32 → (Nat → Int32) → (Nat → Int32) → (Nat → Int32) → (Nat → Int32) → Int32 → Prop) (p1 : Int32) (p2 : Int32) (p3 : Int32) (wg_cellOf : Nat → Int32) (wg_fewest : Nat → Int32) (wg_most : Nat → Int32) (wg_counts : Nat → Int32) (wg_size : Int32) : Prop :=
  vp_in wg_size 40 ∧ ∀ wg_cellOf_2 : Nat → Int32, wg_cellOf_2 = upd wg_cellOf wg_size.toNatClampNeg p1 → ∀ wg_fewest_3 : Nat → Int32, wg_fewest_3 = upd wg_fewest wg_size.toNatClampNeg p2 → ∀ wg_most_4 : Nat → Int32, wg_most_4 = upd wg_most wg_size.toNatClampNeg p3 → ∀ wg_counts_5 : Nat → Int32, wg_counts_5 = upd wg_counts wg_size.toNatClampNeg (vp_nar .boolean (1 : Int32)) → ∀ y_6 : Int32, y_6 = (wg_size + (1 : Int32)) → post (y_6 - (1 : Int32)) wg_cellOf_2 wg_fewest_3 wg_most_4 wg_counts_5 y_6
abbrev rm_X9_add : Room := { frames := 0, cells := 0, slots := 0, locals := 0 }
theorem iw_X9_add_X9 : ∀ w ∈ wsX90, w ∈ wsX9_add := by decide +kernel
set_option maxHeartbeats 4000000 in
set_option maxRecDepth 100000 in
theorem c_X9_add (l : Launch) (G : va_G) (K : ClassId × ClassId × ClassId) (tb q : Nat → Nat) (sz : Nat) (post : Int32 → (Nat → Int32) → (Nat → Int32) → (Nat → Int32) → (Nat → Int32) → Int32 → Prop) (p1 : Int32) (p2 : Int32) (p3 : Int32) (wg_cellOf : Nat → Int32) (wg_fewest : Nat → Int32) (wg_most : Nat → Int32) (wg_counts : Nat → Int32) (wg_size : Int32) (hw : P_X9_add post p1 p2 p3 wg_cellOf wg_fewest wg_most wg_counts wg_size) : Met l yX9_add wsX9_add rm_X9_add (va_Pc [.ref (q 7), .int p1, .int p2, .int p3] (hPre G K tb [oX9 q wg_size, aI K (q 8) 40 wg_cellOf, aI K (q 9) 40 wg_fewest, aI K (q 10) 40 wg_most, aZ K (q 11) 40 wg_counts] sz)) (va_Qi (fun (r : Int32) (u : (Nat → Int32) × (Nat → Int32) × (Nat → Int32) × (Nat → Int32) × Int32) => post r u.1 u.2.1 u.2.2.1 u.2.2.2.1 u.2.2.2.2) (fun u => hB G K (va_A [oX9 q wg_size, aI K (q 8) 40 wg_cellOf, aI K (q 9) 40 wg_fewest, aI K (q 10) 40 wg_most, aZ K (q 11) 40 wg_counts] sz) [oX9 q u.2.2.2.2, aI K (q 8) 40 u.1, aI K (q 9) 40 u.2.1, aI K (q 10) 40 u.2.2.1, aZ K (q 11) 40 u.2.2.2.1]) (va_A [oX9 q wg_size, aI K (q 8) 40 wg_cellOf, aI K (q 9) 40 wg_fewest, aI K (q 10) 40 wg_most, aZ K (q 11) 40 wg_counts] sz)) 0 0 (va_A [oX9 q wg_size, aI K (q 8) 40 wg_cellOf, aI K (q 9) 40 wg_fewest, aI K (q 10) 40 wg_most, aZ K (q 11) 40 wg_counts] sz) := by
  refine hMet (fun A => va_Qi (fun (r : Int32) (u : (Nat → Int32) × (Nat → Int32) × (Nat → Int32) × (Nat → Int32) × Int32) => post r u.1 u.2.1 u.2.2.1 u.2.2.2.1 u.2.2.2.2) (fun u => hB G K A [oX9 q u.2.2.2.2, aI K (q 8) 40 u.1, aI K (q 9) 40 u.2.1, aI K (q 10) 40 u.2.2.1, aZ K (q 11) 40 u.2.2.2.1]) A) (by decide) rfl (Nat.le_of_ble_eq_true rfl) ?_
  intro p e s m av below meth c A Q ls hx hb hr hml hts hown hlocks hnm hA hP hK hD hS hE hQ hl
  have hts : ∀ w ∈ wsX9_add, w.before av s = true := hts
  have hown : s.vm.findClass RX9 = some m.cls := hown
  have hl : lv_has ls 4 [(0, .ref (q 7)), (1, .int p1), (2, .int p2), (3, .int p3)] := hl
  unfold P_X9_add at hw
  refine lv_aload_n (pc := 0) hx hb dX9_add_0 rfl (lv_at hl 0 rfl) ?_
  refine va_get (pc := 1) (D := G) (ci := 9) (v := .ref (q 8)) (C := RX9) (T := TX9) (N := 5) hx hb hts iw_X9_add_X9 hown hK hP 0 rfl rfl 0 (by decide) (hts _ (List.mem_of_getElem? (i := 1) rfl)) (fun _ h9 => h9) rfl dX9_add_1 ?_
  refine lv_aload_n (pc := 4) hx hb dX9_add_4 rfl (lv_at hl 0 rfl) ?_
  refine va_get (pc := 5) (D := G) (ci := 9) (v := .int wg_size) (C := RX9) (T := TX9) (N := 5) hx hb hts iw_X9_add_X9 hown hK hP 0 rfl rfl 4 (by decide) (hts _ (List.mem_of_getElem? (i := 2) rfl)) (fun _ h9 => h9) rfl dX9_add_5 ?_
  refine lv_iload_n (pc := 8) hx hb dX9_add_8 rfl (lv_at hl 1 rfl) ?_
  obtain ⟨h_1, hw⟩ := hw
  refine va_iast (pc := 9) hx hb hK hP hD hS 1 0 rfl rfl h_1 dX9_add_9 (fun H locs hP hD hS => ?_)
  obtain ⟨wg_cellOf_2, ewg_cellOf_2⟩ : ∃ z : Nat → Int32, z = upd wg_cellOf wg_size.toNatClampNeg p1 := ⟨_, rfl⟩
  have hP : va_P G vwCl [oX9 q wg_size, aI K (q 8) 40 wg_cellOf_2, aI K (q 9) 40 wg_fewest, aI K (q 10) 40 wg_most, aZ K (q 11) 40 wg_counts] H := by rw [ewg_cellOf_2]; exact hP
  have hD : va_D A [oX9 q wg_size, aI K (q 8) 40 wg_cellOf_2, aI K (q 9) 40 wg_fewest, aI K (q 10) 40 wg_most, aZ K (q 11) 40 wg_counts] := by rw [ewg_cellOf_2]; exact hD
  replace hw := hw wg_cellOf_2 ewg_cellOf_2
  refine lv_aload_n (pc := 10) hx hb dX9_add_10 rfl (lv_at hl 0 rfl) ?_
  refine va_get (pc := 11) (D := G) (ci := 9) (v := .ref (q 9)) (C := RX9) (T := TX9) (N := 5) hx hb hts iw_X9_add_X9 hown hK hP 0 rfl rfl 1 (by decide) (hts _ (List.mem_of_getElem? (i := 3) rfl)) (fun _ h9 => h9) rfl dX9_add_11 ?_
  refine lv_aload_n (pc := 14) hx hb dX9_add_14 rfl (lv_at hl 0 rfl) ?_
  refine va_get (pc := 15) (D := G) (ci := 9) (v := .int wg_size) (C := RX9) (T := TX9) (N := 5) hx hb hts iw_X9_add_X9 hown hK hP 0 rfl rfl 4 (by decide) (hts _ (List.mem_of_getElem? (i := 2) rfl)) (fun _ h9 => h9) rfl dX9_add_15 ?_
  refine lv_iload_n (pc := 18) hx hb dX9_add_18 rfl (lv_at hl 2 rfl) ?_
  refine va_iast (pc := 19) hx hb hK hP hD hS 2 0 rfl rfl h_1 dX9_add_19 (fun H locs hP hD hS => ?_)
  obtain ⟨wg_fewest_3, ewg_fewest_3⟩ : ∃ z : Nat → Int32, z = upd wg_fewest wg_size.toNatClampNeg p2 := ⟨_, rfl⟩
  have hP : va_P G vwCl [oX9 q wg_size, aI K (q 8) 40 wg_cellOf_2, aI K (q 9) 40 wg_fewest_3, aI K (q 10) 40 wg_most, aZ K (q 11) 40 wg_counts] H := by rw [ewg_fewest_3]; exact hP
  have hD : va_D A [oX9 q wg_size, aI K (q 8) 40 wg_cellOf_2, aI K (q 9) 40 wg_fewest_3, aI K (q 10) 40 wg_most, aZ K (q 11) 40 wg_counts] := by rw [ewg_fewest_3]; exact hD
  replace hw := hw wg_fewest_3 ewg_fewest_3
  refine lv_aload_n (pc := 20) hx hb dX9_add_20 rfl (lv_at hl 0 rfl) ?_
  refine va_get (pc := 21) (D := G) (ci := 9) (v := .ref (q 10)) (C := RX9) (T := TX9) (N := 5) hx hb hts iw_X9_add_X9 hown hK hP 0 rfl rfl 2 (by decide) (hts _ (List.mem_of_getElem? (i := 4) rfl)) (fun _ h9 => h9) rfl dX9_add_21 ?_
  refine lv_aload_n (pc := 24) hx hb dX9_add_24 rfl (lv_at hl 0 rfl) ?_
  refine va_get (pc := 25) (D := G) (ci := 9) (v := .int wg_size) (C := RX9) (T := TX9) (N := 5) hx hb hts iw_X9_add_X9 hown hK hP 0 rfl rfl 4 (by decide) (hts _ (List.mem_of_getElem? (i := 2) rfl)) (fun _ h9 => h9) rfl dX9_add_25 ?_
  refine lv_iload_n (pc := 28) hx hb dX9_add_28 rfl (lv_at hl 3 rfl) ?_
  refine va_iast (pc := 29) hx hb hK hP hD hS 3 0 rfl rfl h_1 dX9_add_29 (fun H locs hP hD hS => ?_)
  obtain ⟨wg_most_4, ewg_most_4⟩ : ∃ z : Nat → Int32, z = upd wg_most wg_size.toNatClampNeg p3 := ⟨_, rfl⟩
  have hP : va_P G vwCl [oX9 q wg_size, aI K (q 8) 40 wg_cellOf_2, aI K (q 9) 40 wg_fewest_3, aI K (q 10) 40 wg_most_4, aZ K (q 11) 40 wg_counts] H := by rw [ewg_most_4]; exact hP
  have hD : va_D A [oX9 q wg_size, aI K (q 8) 40 wg_cellOf_2, aI K (q 9) 40 wg_fewest_3, aI K (q 10) 40 wg_most_4, aZ K (q 11) 40 wg_counts] := by rw [ewg_most_4]; exact hD
  replace hw := hw wg_most_4 ewg_most_4
  refine lv_aload_n (pc := 30) hx hb dX9_add_30 rfl (lv_at hl 0 rfl) ?_
  refine va_get (pc := 31) (D := G) (ci := 9) (v := .ref (q 11)) (C := RX9) (T := TX9) (N := 5) hx hb hts iw_X9_add_X9 hown hK hP 0 rfl rfl 3 (by decide) (hts _ (List.mem_of_getElem? (i := 5) rfl)) (fun _ h9 => h9) rfl dX9_add_31 ?_
  refine lv_aload_n (pc := 34) hx hb dX9_add_34 rfl (lv_at hl 0 rfl) ?_
  refine va_get (pc := 35) (D := G) (ci := 9) (v := .int wg_size) (C := RX9) (T := TX9) (N := 5) hx hb hts iw_X9_add_X9 hown hK hP 0 rfl rfl 4 (by decide) (hts _ (List.mem_of_getElem? (i := 2) rfl)) (fun _ h9 => h9) rfl dX9_add_35 ?_
  refine lv_iconst (pc := 38) (v := (1 : Int32)) hx hb dX9_add_38 (by decide) ?_
  refine va_zast (pc := 39) hx hb hK hP hD hS 4 2 rfl rfl h_1 dX9_add_39 (fun H locs hP hD hS => ?_)
  obtain ⟨wg_counts_5, ewg_counts_5⟩ : ∃ z : Nat → Int32, z = upd wg_counts wg_size.toNatClampNeg (vp_nar .boolean (1 : Int32)) := ⟨_, rfl⟩
  have hP : va_P G vwCl [oX9 q wg_size, aI K (q 8) 40 wg_cellOf_2, aI K (q 9) 40 wg_fewest_3, aI K (q 10) 40 wg_most_4, aZ K (q 11) 40 wg_counts_5] H := by rw [ewg_counts_5]; exact hP
  have hD : va_D A [oX9 q wg_size, aI K (q 8) 40 wg_cellOf_2, aI K (q 9) 40 wg_fewest_3, aI K (q 10) 40 wg_most_4, aZ K (q 11) 40 wg_counts_5] := by rw [ewg_counts_5]; exact hD
  replace hw := hw wg_counts_5 ewg_counts_5
  refine lv_aload_n (pc := 40) hx hb dX9_add_40 rfl (lv_at hl 0 rfl) ?_
  refine lv_dup (pc := 41) hx hb dX9_add_41 rfl ?_
  refine va_get (pc := 42) (D := G) (ci := 9) (v := .int wg_size) (C := RX9) (T := TX9) (N := 5) hx hb hts iw_X9_add_X9 hown hK hP 0 rfl rfl 4 (by decide) (hts _ (List.mem_of_getElem? (i := 2) rfl)) (fun _ h9 => h9) rfl dX9_add_42 ?_
  refine lv_iconst (pc := 45) (v := (1 : Int32)) hx hb dX9_add_45 (by decide) ?_
  refine lv_iadd (pc := 46) hx hb dX9_add_46 ?_
  refine lv_topi (fun y_6 ey_6 => ?_)
  replace hw := hw y_6 ey_6
  refine va_put (pc := 47) (D := G) (ci := 9) (v := .int y_6) (ty := .int) (C := RX9) (T := TX9) (N := 5) hx hb hts iw_X9_add_X9 tyX9 tyX9_ok nmX9 hown hK hP hD hS 0 rfl rfl 4 (by decide) (hts _ (List.mem_of_getElem? (i := 2) rfl)) (fun _ h9 => h9) rfl (by decide +kernel) rfl rfl (Nat.le_of_ble_eq_true rfl) dX9_add_47 (fun H locs hP hD hS => ?_)
  have hP : va_P G vwCl [oX9 q y_6, aI K (q 8) 40 wg_cellOf_2, aI K (q 9) 40 wg_fewest_3, aI K (q 10) 40 wg_most_4, aZ K (q 11) 40 wg_counts_5] H := hP
  have hD : va_D A [oX9 q y_6, aI K (q 8) 40 wg_cellOf_2, aI K (q 9) 40 wg_fewest_3, aI K (q 10) 40 wg_most_4, aZ K (q 11) 40 wg_counts_5] := hD
  refine lv_aload_n (pc := 50) hx hb dX9_add_50 rfl (lv_at hl 0 rfl) ?_
  refine va_get (pc := 51) (D := G) (ci := 9) (v := .int y_6) (C := RX9) (T := TX9) (N := 5) hx hb hts iw_X9_add_X9 hown hK hP 0 rfl rfl 4 (by decide) (hts _ (List.mem_of_getElem? (i := 2) rfl)) (fun _ h9 => h9) rfl dX9_add_51 ?_
  refine lv_iconst (pc := 54) (v := (1 : Int32)) hx hb dX9_add_54 (by decide) ?_
  refine lv_isub (pc := 55) hx hb dX9_add_55 ?_
  exact hRetI (S := (Nat → Int32) × (Nat → Int32) × (Nat → Int32) × (Nat → Int32) × Int32) (wg_cellOf_2, wg_fewest_3, wg_most_4, wg_counts_5, y_6) hx hb hr hlocks hQ hw hP hK hD hS dX9_add_56
def P_X9_counting (post : Int32 → Prop) (wg_counts : Nat → Int32) (wg_size : Int32) : Prop :=
  ∀ (X4 : Int32 → Int32 → Prop),
  (∀ (x1 : Int32) (x2 : Int32), (((wg_size ≤ x2 → post x1) ∧ (¬ wg_size ≤ x2 → vp_in x2 40 ∧ ∀ v_4 : Int32, v_4 = (if (wg_counts x2.toNatClampNeg) = (0 : Int32) then (0 : Int32) else (1 : Int32)) → ∀ y_5 : Int32, y_5 = (x1 + v_4) → ∀ y_6 : Int32, y_6 = (x2 + (1 : Int32)) → X4 y_5 y_6))) → X4 x1 x2) →
  X4 (0 : Int32) (0 : Int32)
abbrev rm_X9_counting : Room := { frames := 0, cells := 0, slots := 0, locals := 0 }
theorem iw_X9_counting_X9 : ∀ w ∈ wsX90, w ∈ wsX9_counting := by decide +kernel
set_option maxHeartbeats 4000000 in
set_option maxRecDepth 100000 in
theorem c_X9_counting (l : Launch) (G : va_G) (K : ClassId × ClassId × ClassId) (tb q : Nat → Nat) (sz : Nat) (post : Int32 → Prop) (wg_counts : Nat → Int32) (wg_size : Int32) (hw : P_X9_counting post wg_counts wg_size) : Met l yX9_counting wsX9_counting rm_X9_counting (va_Pc [.ref (q 7)] (hPre G K tb [oX9 q wg_size, aZ K (q 11) 40 wg_counts] sz)) (va_Qi (fun (r : Int32) (u : Unit) => post r) (fun u => hB G K (va_A [oX9 q wg_size, aZ K (q 11) 40 wg_counts] sz) [oX9 q wg_size, aZ K (q 11) 40 wg_counts]) (va_A [oX9 q wg_size, aZ K (q 11) 40 wg_counts] sz)) 0 0 (va_A [oX9 q wg_size, aZ K (q 11) 40 wg_counts] sz) := by
  refine hMet (fun A => va_Qi (fun (r : Int32) (u : Unit) => post r) (fun u => hB G K A [oX9 q wg_size, aZ K (q 11) 40 wg_counts]) A) (by decide) rfl (Nat.le_of_ble_eq_true rfl) ?_
  intro p e s m av below meth c A Q ls hx hb hr hml hts hown hlocks hnm hA hP hK hD hS hE hQ hl
  have hts : ∀ w ∈ wsX9_counting, w.before av s = true := hts
  have hown : s.vm.findClass RX9 = some m.cls := hown
  have hl : lv_has ls 3 [(0, .ref (q 7))] := hl
  unfold P_X9_counting at hw
  replace hw := hw (fun (x1 : Int32) (x2 : Int32) => ∀ (H : Heap) (locs : List Loc) (ls : Array Slot), va_P G vwCl [oX9 q wg_size, aZ K (q 11) 40 wg_counts] H → va_D A [oX9 q wg_size, aZ K (q 11) 40 wg_counts] → va_S A s.heap H locs → lv_has ls 3 [(0, .ref (q 7)), (1, .int x1), (2, .int x2)] → W p l e rm_X9_counting s m av below meth c H locs 0 0 Q (F0 m 4 ls []))
  replace hw := hw (by
    intro x1 x2 hw H locs ls hP hD hS hl
    refine lv_iload_n (pc := 4) hx hb dX9_counting_4 rfl (lv_at hl 2 rfl) ?_
    refine lv_aload_n (pc := 5) hx hb dX9_counting_5 rfl (lv_at hl 0 rfl) ?_
    refine va_get (pc := 6) (D := G) (ci := 9) (v := .int wg_size) (C := RX9) (T := TX9) (N := 5) hx hb hts iw_X9_counting_X9 hown hK hP 0 rfl rfl 4 (by decide) (hts _ (List.mem_of_getElem? (i := 1) rfl)) (fun _ h9 => h9) rfl dX9_counting_6 ?_
    refine lv_icmp_ge (pc := 9) (tgt := 35) hx hb dX9_counting_9 (by decide) (fun c_1 => ?_) (fun c_1 => ?_)
    · replace hw := hw.1 c_1
      refine lv_iload_n (pc := 35) hx hb dX9_counting_35 rfl (lv_at hl 1 rfl) ?_
      exact hRetI (S := Unit) () hx hb hr hlocks hQ hw hP hK hD hS dX9_counting_36
    · replace hw := hw.2 c_1
      refine lv_iload_n (pc := 12) hx hb dX9_counting_12 rfl (lv_at hl 1 rfl) ?_
      refine lv_aload_n (pc := 13) hx hb dX9_counting_13 rfl (lv_at hl 0 rfl) ?_
      refine va_get (pc := 14) (D := G) (ci := 9) (v := .ref (q 11)) (C := RX9) (T := TX9) (N := 5) hx hb hts iw_X9_counting_X9 hown hK hP 0 rfl rfl 3 (by decide) (hts _ (List.mem_of_getElem? (i := 2) rfl)) (fun _ h9 => h9) rfl dX9_counting_14 ?_
      refine lv_iload_n (pc := 17) hx hb dX9_counting_17 rfl (lv_at hl 2 rfl) ?_
      obtain ⟨h_2, hw⟩ := hw
      refine va_zald (pc := 18) hx hb hK hP 1 2 rfl rfl h_2 dX9_counting_18 ?_
      have K_v_4 : ∀ v_4 : Int32, v_4 = (if (wg_counts x2.toNatClampNeg) = (0 : Int32) then (0 : Int32) else (1 : Int32)) → W p l e rm_X9_counting s m av below meth c H locs 0 0 Q (F0 m 27 ls [.int v_4, .int x1]) := by
        intro v_4 ev_4
        replace hw := hw v_4 ev_4
        refine lv_iadd (pc := 27) hx hb dX9_counting_27 ?_
        refine lv_topi (fun y_5 ey_5 => ?_)
        replace hw := hw y_5 ey_5
        refine lv_istore_n (pc := 28) (lv' := [(1, .int y_5), (0, .ref (q 7)), (2, .int x2)]) hx hb dX9_counting_28 rfl hl (by decide) rfl (fun ls hl => ?_)
        obtain ⟨y_6, ey_6⟩ : ∃ z : Int32, z = (x2 + (1 : Int32)) := ⟨_, rfl⟩
        replace hw := hw y_6 ey_6
        refine lv_iinc (pc := 29) (v := y_6) (lv' := [(2, .int y_6), (1, .int y_5), (0, .ref (q 7))]) hx hb dX9_counting_29 hl (k := 2) rfl (by rw [ey_6]; rfl) (by decide) rfl (fun ls hl => ?_)
        refine lv_goto (pc := 32) (tgt := 4) hx hb dX9_counting_32 (by decide) ?_
        exact hw _ _ _ hP hD hS (lv_sub hl [2, 1, 0] rfl)
      refine lv_if_eq (pc := 19) (tgt := 26) hx hb dX9_counting_19 (by decide) (fun c_3 => ?_) (fun c_3 => ?_)
      · skip
        refine lv_iconst (pc := 26) (v := (0 : Int32)) hx hb dX9_counting_26 (by decide) ?_
        exact K_v_4 _ (by rw [if_pos c_3])
      · skip
        refine lv_iconst (pc := 22) (v := (1 : Int32)) hx hb dX9_counting_22 (by decide) ?_
        refine lv_goto (pc := 23) (tgt := 27) hx hb dX9_counting_23 (by decide) ?_
        exact K_v_4 _ (by rw [if_neg c_3]))
  refine lv_iconst (pc := 0) (v := (0 : Int32)) hx hb dX9_counting_0 (by decide) ?_
  refine lv_istore_n (pc := 1) (lv' := [(1, .int (0 : Int32)), (0, .ref (q 7))]) hx hb dX9_counting_1 rfl hl (by decide) rfl (fun ls hl => ?_)
  refine lv_iconst (pc := 2) (v := (0 : Int32)) hx hb dX9_counting_2 (by decide) ?_
  refine lv_istore_n (pc := 3) (lv' := [(2, .int (0 : Int32)), (1, .int (0 : Int32)), (0, .ref (q 7))]) hx hb dX9_counting_3 rfl hl (by decide) rfl (fun ls hl => ?_)
  exact hw _ _ _ hP hD hS (lv_sub hl [2, 1, 0] rfl)
def P_X9_speaksOf (post : Int32 → Prop) (p1 : Int32) (p2 : Int32) (wg_cellOf : Nat → Int32) (wg_counts : Nat → Int32) : Prop :=
  vp_in p1 40 ∧ ∀ v_4 : Int32, v_4 = (if (wg_counts p1.toNatClampNeg) = (0 : Int32) then (0 : Int32) else (if (wg_cellOf p1.toNatClampNeg) = p2 then (1 : Int32) else (0 : Int32))) → post v_4
abbrev rm_X9_speaksOf : Room := { frames := 0, cells := 0, slots := 0, locals := 0 }
theorem iw_X9_speaksOf_X9 : ∀ w ∈ wsX90, w ∈ wsX9_speaksOf := by decide +kernel
set_option maxHeartbeats 4000000 in
set_option maxRecDepth 100000 in
theorem c_X9_speaksOf (l : Launch) (G : va_G) (K : ClassId × ClassId × ClassId) (tb q : Nat → Nat) (sz : Nat) (wg_size : Int32) (post : Int32 → Prop) (p1 : Int32) (p2 : Int32) (wg_cellOf : Nat → Int32) (wg_counts : Nat → Int32) (hw : P_X9_speaksOf post p1 p2 wg_cellOf wg_counts) : Met l yX9_speaksOf wsX9_speaksOf rm_X9_speaksOf (va_Pc [.ref (q 7), .int p1, .int p2] (hPre G K tb [oX9 q wg_size, aI K (q 8) 40 wg_cellOf, aZ K (q 11) 40 wg_counts] sz)) (va_Qi (fun (r : Int32) (u : Unit) => post r) (fun u => hB G K (va_A [oX9 q wg_size, aI K (q 8) 40 wg_cellOf, aZ K (q 11) 40 wg_counts] sz) [oX9 q wg_size, aI K (q 8) 40 wg_cellOf, aZ K (q 11) 40 wg_counts]) (va_A [oX9 q wg_size, aI K (q 8) 40 wg_cellOf, aZ K (q 11) 40 wg_counts] sz)) 0 0 (va_A [oX9 q wg_size, aI K (q 8) 40 wg_cellOf, aZ K (q 11) 40 wg_counts] sz) := by
  refine hMet (fun A => va_Qi (fun (r : Int32) (u : Unit) => post r) (fun u => hB G K A [oX9 q wg_size, aI K (q 8) 40 wg_cellOf, aZ K (q 11) 40 wg_counts]) A) (by decide) rfl (Nat.le_of_ble_eq_true rfl) ?_
  intro p e s m av below meth c A Q ls hx hb hr hml hts hown hlocks hnm hA hP hK hD hS hE hQ hl
  have hts : ∀ w ∈ wsX9_speaksOf, w.before av s = true := hts
  have hown : s.vm.findClass RX9 = some m.cls := hown
  have hl : lv_has ls 3 [(0, .ref (q 7)), (1, .int p1), (2, .int p2)] := hl
  unfold P_X9_speaksOf at hw
  refine lv_aload_n (pc := 0) hx hb dX9_speaksOf_0 rfl (lv_at hl 0 rfl) ?_
  refine va_get (pc := 1) (D := G) (ci := 9) (v := .ref (q 11)) (C := RX9) (T := TX9) (N := 5) hx hb hts iw_X9_speaksOf_X9 hown hK hP 0 rfl rfl 3 (by decide) (hts _ (List.mem_of_getElem? (i := 1) rfl)) (fun _ h9 => h9) rfl dX9_speaksOf_1 ?_
  refine lv_iload_n (pc := 4) hx hb dX9_speaksOf_4 rfl (lv_at hl 1 rfl) ?_
  obtain ⟨h_1, hw⟩ := hw
  refine va_zald (pc := 5) hx hb hK hP 2 2 rfl rfl h_1 dX9_speaksOf_5 ?_
  have K_v_4 : ∀ v_4 : Int32, v_4 = (if (wg_counts p1.toNatClampNeg) = (0 : Int32) then (0 : Int32) else (if (wg_cellOf p1.toNatClampNeg) = p2 then (1 : Int32) else (0 : Int32))) → W p l e rm_X9_speaksOf s m av below meth c s.heap [] 0 0 Q (F0 m 24 ls [.int v_4]) := by
    intro v_4 ev_4
    replace hw := hw v_4 ev_4
    exact hRetZ (S := Unit) () hx hb hr hlocks hQ (by rw [ev_4]; (repeat' split) <;> first | exact Or.inl rfl | exact Or.inr rfl) hw hP hK hD hS dX9_speaksOf_24
  refine lv_if_eq (pc := 6) (tgt := 23) hx hb dX9_speaksOf_6 (by decide) (fun c_2 => ?_) (fun c_2 => ?_)
  · skip
    refine lv_iconst (pc := 23) (v := (0 : Int32)) hx hb dX9_speaksOf_23 (by decide) ?_
    exact K_v_4 _ (by rw [if_pos c_2])
  · skip
    refine lv_aload_n (pc := 9) hx hb dX9_speaksOf_9 rfl (lv_at hl 0 rfl) ?_
    refine va_get (pc := 10) (D := G) (ci := 9) (v := .ref (q 8)) (C := RX9) (T := TX9) (N := 5) hx hb hts iw_X9_speaksOf_X9 hown hK hP 0 rfl rfl 0 (by decide) (hts _ (List.mem_of_getElem? (i := 2) rfl)) (fun _ h9 => h9) rfl dX9_speaksOf_10 ?_
    refine lv_iload_n (pc := 13) hx hb dX9_speaksOf_13 rfl (lv_at hl 1 rfl) ?_
    refine va_iald (pc := 14) hx hb hK hP 1 0 rfl rfl h_1 dX9_speaksOf_14 ?_
    refine lv_iload_n (pc := 15) hx hb dX9_speaksOf_15 rfl (lv_at hl 2 rfl) ?_
    refine lv_icmp_ne (pc := 16) (tgt := 23) hx hb dX9_speaksOf_16 (by decide) (fun c_3 => ?_) (fun c_3 => ?_)
    · skip
      refine lv_iconst (pc := 23) (v := (0 : Int32)) hx hb dX9_speaksOf_23 (by decide) ?_
      exact K_v_4 _ (by rw [if_neg c_2, if_neg c_3])
    · skip
      refine lv_iconst (pc := 19) (v := (1 : Int32)) hx hb dX9_speaksOf_19 (by decide) ?_
      refine lv_goto (pc := 20) (tgt := 24) hx hb dX9_speaksOf_20 (by decide) ?_
      exact K_v_4 _ (by rw [if_neg c_2, if_pos c_3])
def P_X9_edge (post : Int32 → Prop) (p1 : Int32) (p2 : Int32) (wg_cellOf : Nat → Int32) (wg_fewest : Nat → Int32) (wg_most : Nat → Int32) (wg_counts : Nat → Int32) (wg_size : Int32) : Prop :=
  ∀ (X10 : Int32 → Int32 → Int32 → Prop),
  (∀ (x3 : Int32) (x4 : Int32) (x5 : Int32), (((wg_size ≤ x5 → ((x3 ≤ x4 → ∀ v_4 : Int32, v_4 = (if p2 = (0 : Int32) then x3 else x4) → post v_4) ∧ (¬ x3 ≤ x4 → post (-9 : Int32)))) ∧ (¬ wg_size ≤ x5 → P_X9_speaksOf (fun r_5 => ((r_5 = (0 : Int32) → ∀ y_7 : Int32, y_7 = (x5 + (1 : Int32)) → X10 x3 x4 y_7) ∧ (¬ r_5 = (0 : Int32) → vp_in x5 40 ∧ ∀ y_9 : Int32, y_9 = (if x3 < (wg_fewest x5.toNatClampNeg) then (wg_fewest x5.toNatClampNeg) else x3) → ∀ y_10 : Int32, y_10 = (if (wg_most x5.toNatClampNeg) < x4 then (wg_most x5.toNatClampNeg) else x4) → ∀ y_11 : Int32, y_11 = (x5 + (1 : Int32)) → X10 y_9 y_10 y_11))) x5 p1 wg_cellOf wg_counts))) → X10 x3 x4 x5) →
  X10 (0 : Int32) (2000 : Int32) (0 : Int32)
abbrev rm_X9_edge : Room := { frames := 1, cells := 0, slots := 0, locals := 23 }
theorem iw_X9_edge_X9 : ∀ w ∈ wsX90, w ∈ wsX9_edge := by decide +kernel
set_option maxHeartbeats 4000000 in
set_option maxRecDepth 100000 in
theorem c_X9_edge (l : Launch) (G : va_G) (K : ClassId × ClassId × ClassId) (tb q : Nat → Nat) (sz : Nat) (post : Int32 → Prop) (p1 : Int32) (p2 : Int32) (wg_cellOf : Nat → Int32) (wg_fewest : Nat → Int32) (wg_most : Nat → Int32) (wg_counts : Nat → Int32) (wg_size : Int32) (hw : P_X9_edge post p1 p2 wg_cellOf wg_fewest wg_most wg_counts wg_size) : Met l yX9_edge wsX9_edge rm_X9_edge (va_Pc [.ref (q 7), .int p1, .int p2] (hPre G K tb [oX9 q wg_size, aI K (q 8) 40 wg_cellOf, aI K (q 9) 40 wg_fewest, aI K (q 10) 40 wg_most, aZ K (q 11) 40 wg_counts] sz)) (va_Qi (fun (r : Int32) (u : Unit) => post r) (fun u => hB G K (va_A [oX9 q wg_size, aI K (q 8) 40 wg_cellOf, aI K (q 9) 40 wg_fewest, aI K (q 10) 40 wg_most, aZ K (q 11) 40 wg_counts] sz) [oX9 q wg_size, aI K (q 8) 40 wg_cellOf, aI K (q 9) 40 wg_fewest, aI K (q 10) 40 wg_most, aZ K (q 11) 40 wg_counts]) (va_A [oX9 q wg_size, aI K (q 8) 40 wg_cellOf, aI K (q 9) 40 wg_fewest, aI K (q 10) 40 wg_most, aZ K (q 11) 40 wg_counts] sz)) 0 0 (va_A [oX9 q wg_size, aI K (q 8) 40 wg_cellOf, aI K (q 9) 40 wg_fewest, aI K (q 10) 40 wg_most, aZ K (q 11) 40 wg_counts] sz) := by
  refine hMet (fun A => va_Qi (fun (r : Int32) (u : Unit) => post r) (fun u => hB G K A [oX9 q wg_size, aI K (q 8) 40 wg_cellOf, aI K (q 9) 40 wg_fewest, aI K (q 10) 40 wg_most, aZ K (q 11) 40 wg_counts]) A) (by decide) rfl (Nat.le_of_ble_eq_true rfl) ?_
  intro p e s m av below meth c A Q ls hx hb hr hml hts hown hlocks hnm hA hP hK hD hS hE hQ hl
  have hts : ∀ w ∈ wsX9_edge, w.before av s = true := hts
  have hown : s.vm.findClass RX9 = some m.cls := hown
  have hl : lv_has ls 6 [(0, .ref (q 7)), (1, .int p1), (2, .int p2)] := hl
  unfold P_X9_edge at hw
  replace hw := hw (fun (x3 : Int32) (x4 : Int32) (x5 : Int32) => ∀ (H : Heap) (locs : List Loc) (ls : Array Slot), va_P G vwCl [oX9 q wg_size, aI K (q 8) 40 wg_cellOf, aI K (q 9) 40 wg_fewest, aI K (q 10) 40 wg_most, aZ K (q 11) 40 wg_counts] H → va_D A [oX9 q wg_size, aI K (q 8) 40 wg_cellOf, aI K (q 9) 40 wg_fewest, aI K (q 10) 40 wg_most, aZ K (q 11) 40 wg_counts] → va_S A s.heap H locs → lv_has ls 6 [(0, .ref (q 7)), (1, .int p1), (2, .int p2), (3, .int x3), (4, .int x4), (5, .int x5)] → W p l e rm_X9_edge s m av below meth c H locs 0 0 Q (F0 m 10 ls []))
  replace hw := hw (by
    intro x3 x4 x5 hw H locs ls hP hD hS hl
    refine lv_iload (pc := 10) hx hb dX9_edge_10 (lv_at hl 5 rfl) ?_
    refine lv_aload_n (pc := 12) hx hb dX9_edge_12 rfl (lv_at hl 0 rfl) ?_
    refine va_get (pc := 13) (D := G) (ci := 9) (v := .int wg_size) (C := RX9) (T := TX9) (N := 5) hx hb hts iw_X9_edge_X9 hown hK hP 0 rfl rfl 4 (by decide) (hts _ (List.mem_of_getElem? (i := 1) rfl)) (fun _ h9 => h9) rfl dX9_edge_13 ?_
    refine lv_icmp_ge (pc := 16) (tgt := 61) hx hb dX9_edge_16 (by decide) (fun c_1 => ?_) (fun c_1 => ?_)
    · replace hw := hw.1 c_1
      refine lv_iload_n (pc := 61) hx hb dX9_edge_61 rfl (lv_at hl 3 rfl) ?_
      refine lv_iload (pc := 62) hx hb dX9_edge_62 (lv_at hl 4 rfl) ?_
      refine lv_icmp_le (pc := 64) (tgt := 70) hx hb dX9_edge_64 (by decide) (fun c_2 => ?_) (fun c_2 => ?_)
      · replace hw := hw.1 c_2
        refine lv_iload_n (pc := 70) hx hb dX9_edge_70 rfl (lv_at hl 2 rfl) ?_
        have K_v_4 : ∀ v_4 : Int32, v_4 = (if p2 = (0 : Int32) then x3 else x4) → W p l e rm_X9_edge s m av below meth c H locs 0 0 Q (F0 m 80 ls [.int v_4]) := by
          intro v_4 ev_4
          replace hw := hw v_4 ev_4
          exact hRetI (S := Unit) () hx hb hr hlocks hQ hw hP hK hD hS dX9_edge_80
        refine lv_if_eq (pc := 71) (tgt := 79) hx hb dX9_edge_71 (by decide) (fun c_3 => ?_) (fun c_3 => ?_)
        · skip
          refine lv_iload_n (pc := 79) hx hb dX9_edge_79 rfl (lv_at hl 3 rfl) ?_
          exact K_v_4 _ (by rw [if_pos c_3])
        · skip
          refine lv_iload (pc := 74) hx hb dX9_edge_74 (lv_at hl 4 rfl) ?_
          refine lv_goto (pc := 76) (tgt := 80) hx hb dX9_edge_76 (by decide) ?_
          exact K_v_4 _ (by rw [if_neg c_3])
      · replace hw := hw.2 c_2
        refine lv_bipush (pc := 67) (v := (-9 : Int32)) hx hb dX9_edge_67 (by decide) ?_
        exact hRetI (S := Unit) () hx hb hr hlocks hQ hw hP hK hD hS dX9_edge_69
    · replace hw := hw.2 c_1
      refine lv_aload_n (pc := 19) hx hb dX9_edge_19 rfl (lv_at hl 0 rfl) ?_
      refine lv_iload (pc := 20) hx hb dX9_edge_20 (lv_at hl 5 rfl) ?_
      refine lv_iload_n (pc := 22) hx hb dX9_edge_22 rfl (lv_at hl 1 rfl) ?_
      refine hCallI (pc := 23) (wr := [aI K (q 9) 40 wg_fewest, aI K (q 10) 40 wg_most]) (wsf := fun (u : Unit) => [oX9 q wg_size, aI K (q 8) 40 wg_cellOf, aZ K (q 11) 40 wg_counts]) [0, 1, 4] [2, 3] (va_runV (As := [.int x5, .int p1]) (rest := []) ⟨hx, hb, hml, hown, hts⟩ (c_X9_speaksOf l G K tb q H.size wg_size _ x5 p1 wg_cellOf wg_counts hw) (cwV 2 hts gX9_edge_X9_speaksOf rfl rfl rfl (by decide +kernel) ⟨Nat.le_of_ble_eq_true rfl, Nat.le_of_ble_eq_true rfl⟩) (hPreV hE hP hK hD hS hA [0, 1, 4] (by decide) rfl rfl rfl rfl (q0 := 0) (ci := 9) rfl) rfl rfl hl.1 rfl (lv_room (Nat.le_of_ble_eq_true rfl)) dX9_edge_23 ⟨Nat.zero_le _, Nat.zero_le _⟩) hP hD hS hA rfl rfl (by decide) (by decide) (fun r_5 u H locs hw hP hD hS => ?_)
      have hP : va_P G vwCl [oX9 q wg_size, aI K (q 8) 40 wg_cellOf, aI K (q 9) 40 wg_fewest, aI K (q 10) 40 wg_most, aZ K (q 11) 40 wg_counts] H := hP.sub [2, 3, 0, 1, 4] rfl
      have hD : va_D A [oX9 q wg_size, aI K (q 8) 40 wg_cellOf, aI K (q 9) 40 wg_fewest, aI K (q 10) 40 wg_most, aZ K (q 11) 40 wg_counts] := hD.sub [2, 3, 0, 1, 4] (by decide) rfl
      refine lv_if_eq (pc := 26) (tgt := 55) hx hb dX9_edge_26 (by decide) (fun c_6 => ?_) (fun c_6 => ?_)
      · replace hw := hw.1 c_6
        obtain ⟨y_7, ey_7⟩ : ∃ z : Int32, z = (x5 + (1 : Int32)) := ⟨_, rfl⟩
        replace hw := hw y_7 ey_7
        refine lv_iinc (pc := 55) (v := y_7) (lv' := [(5, .int y_7), (0, .ref (q 7)), (1, .int p1), (2, .int p2), (3, .int x3), (4, .int x4)]) hx hb dX9_edge_55 hl (k := 5) rfl (by rw [ey_7]; rfl) (by decide) rfl (fun ls hl => ?_)
        refine lv_goto (pc := 58) (tgt := 10) hx hb dX9_edge_58 (by decide) ?_
        exact hw _ _ _ hP hD hS (lv_sub hl [1, 2, 3, 4, 5, 0] rfl)
      · replace hw := hw.2 c_6
        refine lv_iload_n (pc := 29) hx hb dX9_edge_29 rfl (lv_at hl 3 rfl) ?_
        refine lv_aload_n (pc := 30) hx hb dX9_edge_30 rfl (lv_at hl 0 rfl) ?_
        refine va_get (pc := 31) (D := G) (ci := 9) (v := .ref (q 9)) (C := RX9) (T := TX9) (N := 5) hx hb hts iw_X9_edge_X9 hown hK hP 0 rfl rfl 1 (by decide) (hts _ (List.mem_of_getElem? (i := 2) rfl)) (fun _ h9 => h9) rfl dX9_edge_31 ?_
        refine lv_iload (pc := 34) hx hb dX9_edge_34 (lv_at hl 5 rfl) ?_
        obtain ⟨h_8, hw⟩ := hw
        refine va_iald (pc := 36) hx hb hK hP 2 0 rfl rfl h_8 dX9_edge_36 ?_
        refine va_mmax (pc := 37) hx hb (hml.trans hl.1.symm) hown (hts _ (List.mem_of_getElem? (i := 3) rfl)) (hts _ (List.mem_of_getElem? (i := 4) rfl)) (hts _ (List.mem_of_getElem? (i := 5) rfl)) (hts _ (List.mem_of_getElem? (i := 6) rfl)) (Nat.le_of_ble_eq_true rfl) (Nat.le_of_ble_eq_true rfl) (Nat.zero_le _) (Nat.zero_le _) dX9_edge_37 ?_
        refine lv_topi (fun y_9 ey_9 => ?_)
        replace hw := hw y_9 ey_9
        refine lv_istore_n (pc := 40) (lv' := [(3, .int y_9), (0, .ref (q 7)), (1, .int p1), (2, .int p2), (4, .int x4), (5, .int x5)]) hx hb dX9_edge_40 rfl hl (by decide) rfl (fun ls hl => ?_)
        refine lv_iload (pc := 41) hx hb dX9_edge_41 (lv_at hl 4 rfl) ?_
        refine lv_aload_n (pc := 43) hx hb dX9_edge_43 rfl (lv_at hl 1 rfl) ?_
        refine va_get (pc := 44) (D := G) (ci := 9) (v := .ref (q 10)) (C := RX9) (T := TX9) (N := 5) hx hb hts iw_X9_edge_X9 hown hK hP 0 rfl rfl 2 (by decide) (hts _ (List.mem_of_getElem? (i := 7) rfl)) (fun _ h9 => h9) rfl dX9_edge_44 ?_
        refine lv_iload (pc := 47) hx hb dX9_edge_47 (lv_at hl 5 rfl) ?_
        refine va_iald (pc := 49) hx hb hK hP 3 0 rfl rfl h_8 dX9_edge_49 ?_
        refine va_mmin (pc := 50) hx hb (hml.trans hl.1.symm) hown (hts _ (List.mem_of_getElem? (i := 8) rfl)) (hts _ (List.mem_of_getElem? (i := 9) rfl)) (hts _ (List.mem_of_getElem? (i := 5) rfl)) (hts _ (List.mem_of_getElem? (i := 10) rfl)) (Nat.le_of_ble_eq_true rfl) (Nat.le_of_ble_eq_true rfl) (Nat.zero_le _) (Nat.zero_le _) dX9_edge_50 ?_
        refine lv_topi (fun y_10 ey_10 => ?_)
        replace hw := hw y_10 ey_10
        refine lv_istore (pc := 53) (lv' := [(4, .int y_10), (3, .int y_9), (0, .ref (q 7)), (1, .int p1), (2, .int p2), (5, .int x5)]) hx hb dX9_edge_53 hl (by decide) rfl (fun ls hl => ?_)
        obtain ⟨y_11, ey_11⟩ : ∃ z : Int32, z = (x5 + (1 : Int32)) := ⟨_, rfl⟩
        replace hw := hw y_11 ey_11
        refine lv_iinc (pc := 55) (v := y_11) (lv' := [(5, .int y_11), (4, .int y_10), (3, .int y_9), (0, .ref (q 7)), (1, .int p1), (2, .int p2)]) hx hb dX9_edge_55 hl (k := 5) rfl (by rw [ey_11]; rfl) (by decide) rfl (fun ls hl => ?_)
        refine lv_goto (pc := 58) (tgt := 10) hx hb dX9_edge_58 (by decide) ?_
        exact hw _ _ _ hP hD hS (lv_sub hl [3, 4, 5, 2, 1, 0] rfl))
  refine lv_iconst (pc := 0) (v := (0 : Int32)) hx hb dX9_edge_0 (by decide) ?_
  refine lv_istore_n (pc := 1) (lv' := [(3, .int (0 : Int32)), (0, .ref (q 7)), (1, .int p1), (2, .int p2)]) hx hb dX9_edge_1 rfl hl (by decide) rfl (fun ls hl => ?_)
  refine lv_sipush (pc := 2) (v := (2000 : Int32)) hx hb dX9_edge_2 (by decide) ?_
  refine lv_istore (pc := 5) (lv' := [(4, .int (2000 : Int32)), (3, .int (0 : Int32)), (0, .ref (q 7)), (1, .int p1), (2, .int p2)]) hx hb dX9_edge_5 hl (by decide) rfl (fun ls hl => ?_)
  refine lv_iconst (pc := 7) (v := (0 : Int32)) hx hb dX9_edge_7 (by decide) ?_
  refine lv_istore (pc := 8) (lv' := [(5, .int (0 : Int32)), (4, .int (2000 : Int32)), (3, .int (0 : Int32)), (0, .ref (q 7)), (1, .int p1), (2, .int p2)]) hx hb dX9_edge_8 hl (by decide) rfl (fun ls hl => ?_)
  exact hw _ _ _ hP hD hS (lv_sub hl [3, 4, 5, 2, 1, 0] rfl)
def P_X9_firstAgainst (post : Int32 → Prop) (p1 : Int32) (wg_cellOf : Nat → Int32) (wg_fewest : Nat → Int32) (wg_most : Nat → Int32) (wg_counts : Nat → Int32) (wg_size : Int32) : Prop :=
  ∀ (X9 : Int32 → Int32 → Int32 → Prop),
  (∀ (x2 : Int32) (x3 : Int32) (x4 : Int32), (((wg_size ≤ x4 → post (-9 : Int32)) ∧ (¬ wg_size ≤ x4 → P_X9_speaksOf (fun r_2 => ((r_2 = (0 : Int32) → ∀ y_4 : Int32, y_4 = (x4 + (1 : Int32)) → X9 x2 x3 y_4) ∧ (¬ r_2 = (0 : Int32) → vp_in x4 40 ∧ ∀ y_6 : Int32, y_6 = (if x2 < (wg_fewest x4.toNatClampNeg) then (wg_fewest x4.toNatClampNeg) else x2) → ∀ y_7 : Int32, y_7 = (if (wg_most x4.toNatClampNeg) < x3 then (wg_most x4.toNatClampNeg) else x3) → ((y_6 ≤ y_7 → ∀ y_9 : Int32, y_9 = (x4 + (1 : Int32)) → X9 y_6 y_7 y_9) ∧ (¬ y_6 ≤ y_7 → post x4))))) x4 p1 wg_cellOf wg_counts))) → X9 x2 x3 x4) →
  X9 (0 : Int32) (2000 : Int32) (0 : Int32)
abbrev rm_X9_firstAgainst : Room := { frames := 1, cells := 0, slots := 0, locals := 23 }
theorem iw_X9_firstAgainst_X9 : ∀ w ∈ wsX90, w ∈ wsX9_firstAgainst := by decide +kernel
set_option maxHeartbeats 4000000 in
set_option maxRecDepth 100000 in
theorem c_X9_firstAgainst (l : Launch) (G : va_G) (K : ClassId × ClassId × ClassId) (tb q : Nat → Nat) (sz : Nat) (post : Int32 → Prop) (p1 : Int32) (wg_cellOf : Nat → Int32) (wg_fewest : Nat → Int32) (wg_most : Nat → Int32) (wg_counts : Nat → Int32) (wg_size : Int32) (hw : P_X9_firstAgainst post p1 wg_cellOf wg_fewest wg_most wg_counts wg_size) : Met l yX9_firstAgainst wsX9_firstAgainst rm_X9_firstAgainst (va_Pc [.ref (q 7), .int p1] (hPre G K tb [oX9 q wg_size, aI K (q 8) 40 wg_cellOf, aI K (q 9) 40 wg_fewest, aI K (q 10) 40 wg_most, aZ K (q 11) 40 wg_counts] sz)) (va_Qi (fun (r : Int32) (u : Unit) => post r) (fun u => hB G K (va_A [oX9 q wg_size, aI K (q 8) 40 wg_cellOf, aI K (q 9) 40 wg_fewest, aI K (q 10) 40 wg_most, aZ K (q 11) 40 wg_counts] sz) [oX9 q wg_size, aI K (q 8) 40 wg_cellOf, aI K (q 9) 40 wg_fewest, aI K (q 10) 40 wg_most, aZ K (q 11) 40 wg_counts]) (va_A [oX9 q wg_size, aI K (q 8) 40 wg_cellOf, aI K (q 9) 40 wg_fewest, aI K (q 10) 40 wg_most, aZ K (q 11) 40 wg_counts] sz)) 0 0 (va_A [oX9 q wg_size, aI K (q 8) 40 wg_cellOf, aI K (q 9) 40 wg_fewest, aI K (q 10) 40 wg_most, aZ K (q 11) 40 wg_counts] sz) := by
  refine hMet (fun A => va_Qi (fun (r : Int32) (u : Unit) => post r) (fun u => hB G K A [oX9 q wg_size, aI K (q 8) 40 wg_cellOf, aI K (q 9) 40 wg_fewest, aI K (q 10) 40 wg_most, aZ K (q 11) 40 wg_counts]) A) (by decide) rfl (Nat.le_of_ble_eq_true rfl) ?_
  intro p e s m av below meth c A Q ls hx hb hr hml hts hown hlocks hnm hA hP hK hD hS hE hQ hl
  have hts : ∀ w ∈ wsX9_firstAgainst, w.before av s = true := hts
  have hown : s.vm.findClass RX9 = some m.cls := hown
  have hl : lv_has ls 5 [(0, .ref (q 7)), (1, .int p1)] := hl
  unfold P_X9_firstAgainst at hw
  replace hw := hw (fun (x2 : Int32) (x3 : Int32) (x4 : Int32) => ∀ (H : Heap) (locs : List Loc) (ls : Array Slot), va_P G vwCl [oX9 q wg_size, aI K (q 8) 40 wg_cellOf, aI K (q 9) 40 wg_fewest, aI K (q 10) 40 wg_most, aZ K (q 11) 40 wg_counts] H → va_D A [oX9 q wg_size, aI K (q 8) 40 wg_cellOf, aI K (q 9) 40 wg_fewest, aI K (q 10) 40 wg_most, aZ K (q 11) 40 wg_counts] → va_S A s.heap H locs → lv_has ls 5 [(0, .ref (q 7)), (1, .int p1), (2, .int x2), (3, .int x3), (4, .int x4)] → W p l e rm_X9_firstAgainst s m av below meth c H locs 0 0 Q (F0 m 9 ls []))
  replace hw := hw (by
    intro x2 x3 x4 hw H locs ls hP hD hS hl
    refine lv_iload (pc := 9) hx hb dX9_firstAgainst_9 (lv_at hl 4 rfl) ?_
    refine lv_aload_n (pc := 11) hx hb dX9_firstAgainst_11 rfl (lv_at hl 0 rfl) ?_
    refine va_get (pc := 12) (D := G) (ci := 9) (v := .int wg_size) (C := RX9) (T := TX9) (N := 5) hx hb hts iw_X9_firstAgainst_X9 hown hK hP 0 rfl rfl 4 (by decide) (hts _ (List.mem_of_getElem? (i := 1) rfl)) (fun _ h9 => h9) rfl dX9_firstAgainst_12 ?_
    refine lv_icmp_ge (pc := 15) (tgt := 66) hx hb dX9_firstAgainst_15 (by decide) (fun c_1 => ?_) (fun c_1 => ?_)
    · replace hw := hw.1 c_1
      refine lv_bipush (pc := 66) (v := (-9 : Int32)) hx hb dX9_firstAgainst_66 (by decide) ?_
      exact hRetI (S := Unit) () hx hb hr hlocks hQ hw hP hK hD hS dX9_firstAgainst_68
    · replace hw := hw.2 c_1
      refine lv_aload_n (pc := 18) hx hb dX9_firstAgainst_18 rfl (lv_at hl 0 rfl) ?_
      refine lv_iload (pc := 19) hx hb dX9_firstAgainst_19 (lv_at hl 4 rfl) ?_
      refine lv_iload_n (pc := 21) hx hb dX9_firstAgainst_21 rfl (lv_at hl 1 rfl) ?_
      refine hCallI (pc := 22) (wr := [aI K (q 9) 40 wg_fewest, aI K (q 10) 40 wg_most]) (wsf := fun (u : Unit) => [oX9 q wg_size, aI K (q 8) 40 wg_cellOf, aZ K (q 11) 40 wg_counts]) [0, 1, 4] [2, 3] (va_runV (As := [.int x4, .int p1]) (rest := []) ⟨hx, hb, hml, hown, hts⟩ (c_X9_speaksOf l G K tb q H.size wg_size _ x4 p1 wg_cellOf wg_counts hw) (cwV 2 hts gX9_firstAgainst_X9_speaksOf rfl rfl rfl (by decide +kernel) ⟨Nat.le_of_ble_eq_true rfl, Nat.le_of_ble_eq_true rfl⟩) (hPreV hE hP hK hD hS hA [0, 1, 4] (by decide) rfl rfl rfl rfl (q0 := 0) (ci := 9) rfl) rfl rfl hl.1 rfl (lv_room (Nat.le_of_ble_eq_true rfl)) dX9_firstAgainst_22 ⟨Nat.zero_le _, Nat.zero_le _⟩) hP hD hS hA rfl rfl (by decide) (by decide) (fun r_2 u H locs hw hP hD hS => ?_)
      have hP : va_P G vwCl [oX9 q wg_size, aI K (q 8) 40 wg_cellOf, aI K (q 9) 40 wg_fewest, aI K (q 10) 40 wg_most, aZ K (q 11) 40 wg_counts] H := hP.sub [2, 3, 0, 1, 4] rfl
      have hD : va_D A [oX9 q wg_size, aI K (q 8) 40 wg_cellOf, aI K (q 9) 40 wg_fewest, aI K (q 10) 40 wg_most, aZ K (q 11) 40 wg_counts] := hD.sub [2, 3, 0, 1, 4] (by decide) rfl
      refine lv_if_eq (pc := 25) (tgt := 60) hx hb dX9_firstAgainst_25 (by decide) (fun c_3 => ?_) (fun c_3 => ?_)
      · replace hw := hw.1 c_3
        obtain ⟨y_4, ey_4⟩ : ∃ z : Int32, z = (x4 + (1 : Int32)) := ⟨_, rfl⟩
        replace hw := hw y_4 ey_4
        refine lv_iinc (pc := 60) (v := y_4) (lv' := [(4, .int y_4), (0, .ref (q 7)), (1, .int p1), (2, .int x2), (3, .int x3)]) hx hb dX9_firstAgainst_60 hl (k := 4) rfl (by rw [ey_4]; rfl) (by decide) rfl (fun ls hl => ?_)
        refine lv_goto (pc := 63) (tgt := 9) hx hb dX9_firstAgainst_63 (by decide) ?_
        exact hw _ _ _ hP hD hS (lv_sub hl [1, 2, 3, 4, 0] rfl)
      · replace hw := hw.2 c_3
        refine lv_iload_n (pc := 28) hx hb dX9_firstAgainst_28 rfl (lv_at hl 2 rfl) ?_
        refine lv_aload_n (pc := 29) hx hb dX9_firstAgainst_29 rfl (lv_at hl 0 rfl) ?_
        refine va_get (pc := 30) (D := G) (ci := 9) (v := .ref (q 9)) (C := RX9) (T := TX9) (N := 5) hx hb hts iw_X9_firstAgainst_X9 hown hK hP 0 rfl rfl 1 (by decide) (hts _ (List.mem_of_getElem? (i := 2) rfl)) (fun _ h9 => h9) rfl dX9_firstAgainst_30 ?_
        refine lv_iload (pc := 33) hx hb dX9_firstAgainst_33 (lv_at hl 4 rfl) ?_
        obtain ⟨h_5, hw⟩ := hw
        refine va_iald (pc := 35) hx hb hK hP 2 0 rfl rfl h_5 dX9_firstAgainst_35 ?_
        refine va_mmax (pc := 36) hx hb (hml.trans hl.1.symm) hown (hts _ (List.mem_of_getElem? (i := 3) rfl)) (hts _ (List.mem_of_getElem? (i := 4) rfl)) (hts _ (List.mem_of_getElem? (i := 5) rfl)) (hts _ (List.mem_of_getElem? (i := 6) rfl)) (Nat.le_of_ble_eq_true rfl) (Nat.le_of_ble_eq_true rfl) (Nat.zero_le _) (Nat.zero_le _) dX9_firstAgainst_36 ?_
        refine lv_topi (fun y_6 ey_6 => ?_)
        replace hw := hw y_6 ey_6
        refine lv_istore_n (pc := 39) (lv' := [(2, .int y_6), (0, .ref (q 7)), (1, .int p1), (3, .int x3), (4, .int x4)]) hx hb dX9_firstAgainst_39 rfl hl (by decide) rfl (fun ls hl => ?_)
        refine lv_iload_n (pc := 40) hx hb dX9_firstAgainst_40 rfl (lv_at hl 3 rfl) ?_
        refine lv_aload_n (pc := 41) hx hb dX9_firstAgainst_41 rfl (lv_at hl 1 rfl) ?_
        refine va_get (pc := 42) (D := G) (ci := 9) (v := .ref (q 10)) (C := RX9) (T := TX9) (N := 5) hx hb hts iw_X9_firstAgainst_X9 hown hK hP 0 rfl rfl 2 (by decide) (hts _ (List.mem_of_getElem? (i := 7) rfl)) (fun _ h9 => h9) rfl dX9_firstAgainst_42 ?_
        refine lv_iload (pc := 45) hx hb dX9_firstAgainst_45 (lv_at hl 4 rfl) ?_
        refine va_iald (pc := 47) hx hb hK hP 3 0 rfl rfl h_5 dX9_firstAgainst_47 ?_
        refine va_mmin (pc := 48) hx hb (hml.trans hl.1.symm) hown (hts _ (List.mem_of_getElem? (i := 8) rfl)) (hts _ (List.mem_of_getElem? (i := 9) rfl)) (hts _ (List.mem_of_getElem? (i := 5) rfl)) (hts _ (List.mem_of_getElem? (i := 10) rfl)) (Nat.le_of_ble_eq_true rfl) (Nat.le_of_ble_eq_true rfl) (Nat.zero_le _) (Nat.zero_le _) dX9_firstAgainst_48 ?_
        refine lv_topi (fun y_7 ey_7 => ?_)
        replace hw := hw y_7 ey_7
        refine lv_istore_n (pc := 51) (lv' := [(3, .int y_7), (2, .int y_6), (0, .ref (q 7)), (1, .int p1), (4, .int x4)]) hx hb dX9_firstAgainst_51 rfl hl (by decide) rfl (fun ls hl => ?_)
        refine lv_iload_n (pc := 52) hx hb dX9_firstAgainst_52 rfl (lv_at hl 1 rfl) ?_
        refine lv_iload_n (pc := 53) hx hb dX9_firstAgainst_53 rfl (lv_at hl 0 rfl) ?_
        refine lv_icmp_le (pc := 54) (tgt := 60) hx hb dX9_firstAgainst_54 (by decide) (fun c_8 => ?_) (fun c_8 => ?_)
        · replace hw := hw.1 c_8
          obtain ⟨y_9, ey_9⟩ : ∃ z : Int32, z = (x4 + (1 : Int32)) := ⟨_, rfl⟩
          replace hw := hw y_9 ey_9
          refine lv_iinc (pc := 60) (v := y_9) (lv' := [(4, .int y_9), (3, .int y_7), (2, .int y_6), (0, .ref (q 7)), (1, .int p1)]) hx hb dX9_firstAgainst_60 hl (k := 4) rfl (by rw [ey_9]; rfl) (by decide) rfl (fun ls hl => ?_)
          refine lv_goto (pc := 63) (tgt := 9) hx hb dX9_firstAgainst_63 (by decide) ?_
          exact hw _ _ _ hP hD hS (lv_sub hl [3, 4, 2, 1, 0] rfl)
        · replace hw := hw.2 c_8
          refine lv_iload (pc := 57) hx hb dX9_firstAgainst_57 (lv_at hl 4 rfl) ?_
          exact hRetI (S := Unit) () hx hb hr hlocks hQ hw hP hK hD hS dX9_firstAgainst_59)
  refine lv_iconst (pc := 0) (v := (0 : Int32)) hx hb dX9_firstAgainst_0 (by decide) ?_
  refine lv_istore_n (pc := 1) (lv' := [(2, .int (0 : Int32)), (0, .ref (q 7)), (1, .int p1)]) hx hb dX9_firstAgainst_1 rfl hl (by decide) rfl (fun ls hl => ?_)
  refine lv_sipush (pc := 2) (v := (2000 : Int32)) hx hb dX9_firstAgainst_2 (by decide) ?_
  refine lv_istore_n (pc := 5) (lv' := [(3, .int (2000 : Int32)), (2, .int (0 : Int32)), (0, .ref (q 7)), (1, .int p1)]) hx hb dX9_firstAgainst_5 rfl hl (by decide) rfl (fun ls hl => ?_)
  refine lv_iconst (pc := 6) (v := (0 : Int32)) hx hb dX9_firstAgainst_6 (by decide) ?_
  refine lv_istore (pc := 7) (lv' := [(4, .int (0 : Int32)), (3, .int (2000 : Int32)), (2, .int (0 : Int32)), (0, .ref (q 7)), (1, .int p1)]) hx hb dX9_firstAgainst_7 hl (by decide) rfl (fun ls hl => ?_)
  exact hw _ _ _ hP hD hS (lv_sub hl [3, 4, 2, 1, 0] rfl)
def P_X9_stop (post : Int32 → (Nat → Int32) → Prop) (p1 : Int32) (wg_counts : Nat → Int32) : Prop :=
  vp_in p1 40 ∧ ∀ y_2 : Int32, y_2 = (wg_counts p1.toNatClampNeg) → ∀ wg_counts_3 : Nat → Int32, wg_counts_3 = upd wg_counts p1.toNatClampNeg (vp_nar .boolean (0 : Int32)) → (y_2 = 0 ∨ y_2 = 1) ∧ post y_2 wg_counts_3
abbrev rm_X9_stop : Room := { frames := 0, cells := 0, slots := 0, locals := 0 }
theorem iw_X9_stop_X9 : ∀ w ∈ wsX90, w ∈ wsX9_stop := by decide +kernel
set_option maxHeartbeats 4000000 in
set_option maxRecDepth 100000 in
theorem c_X9_stop (l : Launch) (G : va_G) (K : ClassId × ClassId × ClassId) (tb q : Nat → Nat) (sz : Nat) (wg_size : Int32) (post : Int32 → (Nat → Int32) → Prop) (p1 : Int32) (wg_counts : Nat → Int32) (hw : P_X9_stop post p1 wg_counts) : Met l yX9_stop wsX9_stop rm_X9_stop (va_Pc [.ref (q 7), .int p1] (hPre G K tb [oX9 q wg_size, aZ K (q 11) 40 wg_counts] sz)) (va_Qi (fun (r : Int32) (u : (Nat → Int32)) => post r u) (fun u => hB G K (va_A [oX9 q wg_size, aZ K (q 11) 40 wg_counts] sz) [oX9 q wg_size, aZ K (q 11) 40 u]) (va_A [oX9 q wg_size, aZ K (q 11) 40 wg_counts] sz)) 0 0 (va_A [oX9 q wg_size, aZ K (q 11) 40 wg_counts] sz) := by
  refine hMet (fun A => va_Qi (fun (r : Int32) (u : (Nat → Int32)) => post r u) (fun u => hB G K A [oX9 q wg_size, aZ K (q 11) 40 u]) A) (by decide) rfl (Nat.le_of_ble_eq_true rfl) ?_
  intro p e s m av below meth c A Q ls hx hb hr hml hts hown hlocks hnm hA hP hK hD hS hE hQ hl
  have hts : ∀ w ∈ wsX9_stop, w.before av s = true := hts
  have hown : s.vm.findClass RX9 = some m.cls := hown
  have hl : lv_has ls 3 [(0, .ref (q 7)), (1, .int p1)] := hl
  unfold P_X9_stop at hw
  refine lv_aload_n (pc := 0) hx hb dX9_stop_0 rfl (lv_at hl 0 rfl) ?_
  refine va_get (pc := 1) (D := G) (ci := 9) (v := .ref (q 11)) (C := RX9) (T := TX9) (N := 5) hx hb hts iw_X9_stop_X9 hown hK hP 0 rfl rfl 3 (by decide) (hts _ (List.mem_of_getElem? (i := 1) rfl)) (fun _ h9 => h9) rfl dX9_stop_1 ?_
  refine lv_iload_n (pc := 4) hx hb dX9_stop_4 rfl (lv_at hl 1 rfl) ?_
  obtain ⟨h_1, hw⟩ := hw
  refine va_zald (pc := 5) hx hb hK hP 1 2 rfl rfl h_1 dX9_stop_5 ?_
  refine lv_topi (fun y_2 ey_2 => ?_)
  replace hw := hw y_2 ey_2
  refine lv_istore_n (pc := 6) (lv' := [(2, .int y_2), (0, .ref (q 7)), (1, .int p1)]) hx hb dX9_stop_6 rfl hl (by decide) rfl (fun ls hl => ?_)
  refine lv_aload_n (pc := 7) hx hb dX9_stop_7 rfl (lv_at hl 1 rfl) ?_
  refine va_get (pc := 8) (D := G) (ci := 9) (v := .ref (q 11)) (C := RX9) (T := TX9) (N := 5) hx hb hts iw_X9_stop_X9 hown hK hP 0 rfl rfl 3 (by decide) (hts _ (List.mem_of_getElem? (i := 1) rfl)) (fun _ h9 => h9) rfl dX9_stop_8 ?_
  refine lv_iload_n (pc := 11) hx hb dX9_stop_11 rfl (lv_at hl 2 rfl) ?_
  refine lv_iconst (pc := 12) (v := (0 : Int32)) hx hb dX9_stop_12 (by decide) ?_
  refine va_zast (pc := 13) hx hb hK hP hD hS 1 2 rfl rfl h_1 dX9_stop_13 (fun H locs hP hD hS => ?_)
  obtain ⟨wg_counts_3, ewg_counts_3⟩ : ∃ z : Nat → Int32, z = upd wg_counts p1.toNatClampNeg (vp_nar .boolean (0 : Int32)) := ⟨_, rfl⟩
  have hP : va_P G vwCl [oX9 q wg_size, aZ K (q 11) 40 wg_counts_3] H := by rw [ewg_counts_3]; exact hP
  have hD : va_D A [oX9 q wg_size, aZ K (q 11) 40 wg_counts_3] := by rw [ewg_counts_3]; exact hD
  replace hw := hw wg_counts_3 ewg_counts_3
  refine lv_iload_n (pc := 14) hx hb dX9_stop_14 rfl (lv_at hl 0 rfl) ?_
  obtain ⟨h_4, hw⟩ := hw
  exact hRetZ (S := (Nat → Int32)) wg_counts_3 hx hb hr hlocks hQ h_4 hw hP hK hD hS dX9_stop_15
