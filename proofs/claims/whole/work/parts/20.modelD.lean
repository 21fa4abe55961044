def P_X11_layJoin (post : Int32 → (Nat → Int32) → Prop) (p1 : Int32) (p2 : Int32) (m_marked : Nat → Int32) (m_signs : Nat → Int32) (m_weights : Nat → Int32) (m_joins : Nat → Int32) : Prop :=
  ∀ (X10 : Int32 → Int32 → (Nat → Int32) → Prop),
  ∀ (X43 : Int32 → (Nat → Int32) → Prop),
  ∀ (X51 : Int32 → Int32 → (Nat → Int32) → Prop),
  ∀ (X99 : Int32 → Int32 → Int32 → Int32 → (Nat → Int32) → Prop),
  ∀ (X132 : Int32 → Int32 → Int32 → Int32 → (Nat → Int32) → Prop),
  ∀ (X136 : Int32 → Int32 → Int32 → Int32 → (Nat → Int32) → Prop),
  ∀ (X157 : Int32 → Int32 → Int32 → Int32 → Int32 → (Nat → Int32) → Prop),
  (∀ (x3 : Int32) (x4 : Int32) (m_joins : Nat → Int32), ((((256 : Int32) ≤ x4 → ∀ y_4 : Int32, y_4 = (x3 - (1 : Int32)) → X43 y_4 m_joins) ∧ (¬ (256 : Int32) ≤ x4 → vp_in (((256 : Int32) * x3) + x4) 2304 ∧ ∀ m_joins_6 : Nat → Int32, m_joins_6 = upd m_joins (((256 : Int32) * x3) + x4).toNatClampNeg (0 : Int32) → ∀ y_7 : Int32, y_7 = (x4 + (1 : Int32)) → X10 x3 y_7 m_joins_6))) → X10 x3 x4 m_joins) →
  (∀ (x4 : Int32) (m_joins : Nat → Int32), (((x4 < (0 : Int32) → vp_in (0 : Int32) 2304 ∧ post (m_joins (0 : Int32).toNatClampNeg) m_joins) ∧ (¬ x4 < (0 : Int32) → X51 x4 (0 : Int32) m_joins))) → X43 x4 m_joins) →
  (∀ (x4 : Int32) (x5 : Int32) (m_joins : Nat → Int32), ((((256 : Int32) ≤ x5 → ∀ y_11 : Int32, y_11 = (x4 + (-1 : Int32)) → X43 y_11 m_joins) ∧ (¬ (256 : Int32) ≤ x5 → ((x4 = p1 → (((8 : Int32) ≤ p2 → (vp_in ((((256 : Int32) * x4) + (256 : Int32)) + x5) 2304 ∧ True)) ∧ (¬ (8 : Int32) ≤ p2 → True))) ∧ (¬ x4 = p1 → (vp_in ((((256 : Int32) * x4) + (256 : Int32)) + x5) 2304 ∧ True))) ∧ ∀ v_16 : Int32, v_16 = (if x4 = p1 then (if (8 : Int32) ≤ p2 then (m_joins ((((256 : Int32) * x4) + (256 : Int32)) + x5).toNatClampNeg) else (1000000 : Int32)) else (m_joins ((((256 : Int32) * x4) + (256 : Int32)) + x5).toNatClampNeg)) → X99 x4 x5 v_16 (0 : Int32) m_joins))) → X51 x4 x5 m_joins) →
  (∀ (x4 : Int32) (x5 : Int32) (x6 : Int32) (x7 : Int32) (m_joins : Nat → Int32), (vp_in (1 : Int32) 2 ∧ (((m_marked (1 : Int32).toNatClampNeg) ≤ x7 → vp_in (((256 : Int32) * x4) + x5) 2304 ∧ ∀ m_joins_20 : Nat → Int32, m_joins_20 = upd m_joins (((256 : Int32) * x4) + x5).toNatClampNeg x6 → ∀ y_21 : Int32, y_21 = (x5 + (1 : Int32)) → X51 x4 y_21 m_joins_20) ∧ (¬ (m_marked (1 : Int32).toNatClampNeg) ≤ x7 → ((((x5 >>> (x7 &&& 31)) &&& (1 : Int32)) = (0 : Int32) → ((x4 = p1 → ((p2 = x7 → X132 x4 x5 x6 x7 m_joins) ∧ (¬ p2 = x7 → X136 x4 x5 x6 x7 m_joins))) ∧ (¬ x4 = p1 → X132 x4 x5 x6 x7 m_joins))) ∧ (¬ ((x5 >>> (x7 &&& 31)) &&& (1 : Int32)) = (0 : Int32) → X136 x4 x5 x6 x7 m_joins))))) → X99 x4 x5 x6 x7 m_joins) →
  (∀ (x4 : Int32) (x5 : Int32) (x6 : Int32) (x7 : Int32) (m_joins : Nat → Int32), ((((1 : Int32) = (0 : Int32) → X157 x4 x5 x6 x7 (-9 : Int32) m_joins) ∧ (¬ (1 : Int32) = (0 : Int32) → P_X11_costOf (fun r_28 => X157 x4 x5 x6 x7 r_28 m_joins) x4 x7 m_signs m_weights))) → X132 x4 x5 x6 x7 m_joins) →
  (∀ (x4 : Int32) (x5 : Int32) (x6 : Int32) (x7 : Int32) (m_joins : Nat → Int32), ((((0 : Int32) = (0 : Int32) → X157 x4 x5 x6 x7 (-9 : Int32) m_joins) ∧ (¬ (0 : Int32) = (0 : Int32) → P_X11_costOf (fun r_26 => X157 x4 x5 x6 x7 r_26 m_joins) x4 x7 m_signs m_weights))) → X136 x4 x5 x6 x7 m_joins) →
  (∀ (x4 : Int32) (x5 : Int32) (x6 : Int32) (x7 : Int32) (s0 : Int32) (m_joins : Nat → Int32), (((s0 = (-9 : Int32) → True) ∧ (¬ s0 = (-9 : Int32) → (vp_in ((((256 : Int32) * x4) + (256 : Int32)) + (x5 ||| ((1 : Int32) <<< (x7 &&& 31)))) 2304 ∧ True))) ∧ ∀ v_31 : Int32, v_31 = (if s0 = (-9 : Int32) then (1000000 : Int32) else ((s0 - (1000 : Int32)) + (m_joins ((((256 : Int32) * x4) + (256 : Int32)) + (x5 ||| ((1 : Int32) <<< (x7 &&& 31)))).toNatClampNeg))) → ∀ v_33 : Int32, v_33 = (if x6 ≤ v_31 then x6 else v_31) → ∀ y_34 : Int32, y_34 = (x7 + (1 : Int32)) → X99 x4 x5 v_33 y_34 m_joins) → X157 x4 x5 x6 x7 s0 m_joins) →
  vp_in (0 : Int32) 2 ∧ ∀ y_2 : Int32, y_2 = (m_marked (0 : Int32).toNatClampNeg) → X10 y_2 (0 : Int32) m_joins
abbrev rm_X11_layJoin : Room := { frames := 1, cells := 0, slots := 0, locals := 27 }
theorem iw_X11_layJoin_X11 : ∀ w ∈ wsX110, w ∈ wsX11_layJoin := by decide +kernel
set_option maxHeartbeats 4000000 in
set_option maxRecDepth 100000 in
theorem c_X11_layJoin (l : Launch) (G : va_G) (K : ClassId × ClassId × ClassId) (tb q : Nat → Nat) (sz : Nat) (m_kinds : Int32) (m_weighings : Int32) (m_spanLow : Int32) (m_spanHigh : Int32) (m_events : Int32) (m_days : Int32) (m_edges : Int32) (m_crew : Int32) (m_breakages : Int32) (post : Int32 → (Nat → Int32) → Prop) (p1 : Int32) (p2 : Int32) (m_marked : Nat → Int32) (m_signs : Nat → Int32) (m_weights : Nat → Int32) (m_joins : Nat → Int32) (hw : P_X11_layJoin post p1 p2 m_marked m_signs m_weights m_joins) : Met l yX11_layJoin wsX11_layJoin rm_X11_layJoin (va_Pc [.ref (q 0), .int p1, .int p2] (hPre G K tb [oX11 q m_kinds m_weighings m_spanLow m_spanHigh m_events m_days m_edges m_crew m_breakages, aI K (q 29) 2 m_marked, aI K (q 30) 48 m_signs, aI K (q 31) 16 m_weights, aI K (q 32) 2304 m_joins] sz)) (va_Qi (fun (r : Int32) (u : (Nat → Int32)) => post r u) (fun u => hB G K (va_A [oX11 q m_kinds m_weighings m_spanLow m_spanHigh m_events m_days m_edges m_crew m_breakages, aI K (q 29) 2 m_marked, aI K (q 30) 48 m_signs, aI K (q 31) 16 m_weights, aI K (q 32) 2304 m_joins] sz) [oX11 q m_kinds m_weighings m_spanLow m_spanHigh m_events m_days m_edges m_crew m_breakages, aI K (q 29) 2 m_marked, aI K (q 30) 48 m_signs, aI K (q 31) 16 m_weights, aI K (q 32) 2304 u]) (va_A [oX11 q m_kinds m_weighings m_spanLow m_spanHigh m_events m_days m_edges m_crew m_breakages, aI K (q 29) 2 m_marked, aI K (q 30) 48 m_signs, aI K (q 31) 16 m_weights, aI K (q 32) 2304 m_joins] sz)) 0 0 (va_A [oX11 q m_kinds m_weighings m_spanLow m_spanHigh m_events m_days m_edges m_crew m_breakages, aI K (q 29) 2 m_marked, aI K (q 30) 48 m_signs, aI K (q 31) 16 m_weights, aI K (q 32) 2304 m_joins] sz) := by
  refine hMet (fun A => va_Qi (fun (r : Int32) (u : (Nat → Int32)) => post r u) (fun u => hB G K A [oX11 q m_kinds m_weighings m_spanLow m_spanHigh m_events m_days m_edges m_crew m_breakages, aI K (q 29) 2 m_marked, aI K (q 30) 48 m_signs, aI K (q 31) 16 m_weights, aI K (q 32) 2304 u]) A) (by decide) rfl (Nat.le_of_ble_eq_true rfl) ?_
  intro p e s m av below meth c A Q ls hx hb hr hml hts hown hlocks hnm hA hP hK hD hS hE hQ hl
  have hts : ∀ w ∈ wsX11_layJoin, w.before av s = true := hts
  have hown : s.vm.findClass RX11 = some m.cls := hown
  have hl : lv_has ls 11 [(0, .ref (q 0)), (1, .int p1), (2, .int p2)] := hl
  unfold P_X11_layJoin at hw
  replace hw := hw (fun (x3 : Int32) (x4 : Int32) (m_joins : Nat → Int32) => ∀ (H : Heap) (locs : List Loc) (ls : Array Slot), va_P G vwCl [oX11 q m_kinds m_weighings m_spanLow m_spanHigh m_events m_days m_edges m_crew m_breakages, aI K (q 29) 2 m_marked, aI K (q 30) 48 m_signs, aI K (q 31) 16 m_weights, aI K (q 32) 2304 m_joins] H → va_D A [oX11 q m_kinds m_weighings m_spanLow m_spanHigh m_events m_days m_edges m_crew m_breakages, aI K (q 29) 2 m_marked, aI K (q 30) 48 m_signs, aI K (q 31) 16 m_weights, aI K (q 32) 2304 m_joins] → va_S A s.heap H locs → lv_has ls 11 [(0, .ref (q 0)), (1, .int p1), (2, .int p2), (3, .int x3), (4, .int x4)] → W p l e rm_X11_layJoin s m av below meth c H locs 0 0 Q (F0 m 10 ls []))
  replace hw := hw (fun (x4 : Int32) (m_joins : Nat → Int32) => ∀ (H : Heap) (locs : List Loc) (ls : Array Slot), va_P G vwCl [oX11 q m_kinds m_weighings m_spanLow m_spanHigh m_events m_days m_edges m_crew m_breakages, aI K (q 29) 2 m_marked, aI K (q 30) 48 m_signs, aI K (q 31) 16 m_weights, aI K (q 32) 2304 m_joins] H → va_D A [oX11 q m_kinds m_weighings m_spanLow m_spanHigh m_events m_days m_edges m_crew m_breakages, aI K (q 29) 2 m_marked, aI K (q 30) 48 m_signs, aI K (q 31) 16 m_weights, aI K (q 32) 2304 m_joins] → va_S A s.heap H locs → lv_has ls 11 [(0, .ref (q 0)), (1, .int p1), (2, .int p2), (4, .int x4)] → W p l e rm_X11_layJoin s m av below meth c H locs 0 0 Q (F0 m 43 ls []))
  replace hw := hw (fun (x4 : Int32) (x5 : Int32) (m_joins : Nat → Int32) => ∀ (H : Heap) (locs : List Loc) (ls : Array Slot), va_P G vwCl [oX11 q m_kinds m_weighings m_spanLow m_spanHigh m_events m_days m_edges m_crew m_breakages, aI K (q 29) 2 m_marked, aI K (q 30) 48 m_signs, aI K (q 31) 16 m_weights, aI K (q 32) 2304 m_joins] H → va_D A [oX11 q m_kinds m_weighings m_spanLow m_spanHigh m_events m_days m_edges m_crew m_breakages, aI K (q 29) 2 m_marked, aI K (q 30) 48 m_signs, aI K (q 31) 16 m_weights, aI K (q 32) 2304 m_joins] → va_S A s.heap H locs → lv_has ls 11 [(0, .ref (q 0)), (1, .int p1), (2, .int p2), (4, .int x4), (5, .int x5)] → W p l e rm_X11_layJoin s m av below meth c H locs 0 0 Q (F0 m 51 ls []))
  replace hw := hw (fun (x4 : Int32) (x5 : Int32) (x6 : Int32) (x7 : Int32) (m_joins : Nat → Int32) => ∀ (H : Heap) (locs : List Loc) (ls : Array Slot), va_P G vwCl [oX11 q m_kinds m_weighings m_spanLow m_spanHigh m_events m_days m_edges m_crew m_breakages, aI K (q 29) 2 m_marked, aI K (q 30) 48 m_signs, aI K (q 31) 16 m_weights, aI K (q 32) 2304 m_joins] H → va_D A [oX11 q m_kinds m_weighings m_spanLow m_spanHigh m_events m_days m_edges m_crew m_breakages, aI K (q 29) 2 m_marked, aI K (q 30) 48 m_signs, aI K (q 31) 16 m_weights, aI K (q 32) 2304 m_joins] → va_S A s.heap H locs → lv_has ls 11 [(0, .ref (q 0)), (1, .int p1), (2, .int p2), (4, .int x4), (5, .int x5), (6, .int x6), (7, .int x7)] → W p l e rm_X11_layJoin s m av below meth c H locs 0 0 Q (F0 m 99 ls []))
  replace hw := hw (fun (x4 : Int32) (x5 : Int32) (x6 : Int32) (x7 : Int32) (m_joins : Nat → Int32) => ∀ (H : Heap) (locs : List Loc) (ls : Array Slot), va_P G vwCl [oX11 q m_kinds m_weighings m_spanLow m_spanHigh m_events m_days m_edges m_crew m_breakages, aI K (q 29) 2 m_marked, aI K (q 30) 48 m_signs, aI K (q 31) 16 m_weights, aI K (q 32) 2304 m_joins] H → va_D A [oX11 q m_kinds m_weighings m_spanLow m_spanHigh m_events m_days m_edges m_crew m_breakages, aI K (q 29) 2 m_marked, aI K (q 30) 48 m_signs, aI K (q 31) 16 m_weights, aI K (q 32) 2304 m_joins] → va_S A s.heap H locs → lv_has ls 11 [(0, .ref (q 0)), (1, .int p1), (2, .int p2), (4, .int x4), (5, .int x5), (6, .int x6), (7, .int x7)] → W p l e rm_X11_layJoin s m av below meth c H locs 0 0 Q (F0 m 132 ls []))
  replace hw := hw (fun (x4 : Int32) (x5 : Int32) (x6 : Int32) (x7 : Int32) (m_joins : Nat → Int32) => ∀ (H : Heap) (locs : List Loc) (ls : Array Slot), va_P G vwCl [oX11 q m_kinds m_weighings m_spanLow m_spanHigh m_events m_days m_edges m_crew m_breakages, aI K (q 29) 2 m_marked, aI K (q 30) 48 m_signs, aI K (q 31) 16 m_weights, aI K (q 32) 2304 m_joins] H → va_D A [oX11 q m_kinds m_weighings m_spanLow m_spanHigh m_events m_days m_edges m_crew m_breakages, aI K (q 29) 2 m_marked, aI K (q 30) 48 m_signs, aI K (q 31) 16 m_weights, aI K (q 32) 2304 m_joins] → va_S A s.heap H locs → lv_has ls 11 [(0, .ref (q 0)), (1, .int p1), (2, .int p2), (4, .int x4), (5, .int x5), (6, .int x6), (7, .int x7)] → W p l e rm_X11_layJoin s m av below meth c H locs 0 0 Q (F0 m 136 ls []))
  replace hw := hw (fun (x4 : Int32) (x5 : Int32) (x6 : Int32) (x7 : Int32) (s0 : Int32) (m_joins : Nat → Int32) => ∀ (H : Heap) (locs : List Loc) (ls : Array Slot), va_P G vwCl [oX11 q m_kinds m_weighings m_spanLow m_spanHigh m_events m_days m_edges m_crew m_breakages, aI K (q 29) 2 m_marked, aI K (q 30) 48 m_signs, aI K (q 31) 16 m_weights, aI K (q 32) 2304 m_joins] H → va_D A [oX11 q m_kinds m_weighings m_spanLow m_spanHigh m_events m_days m_edges m_crew m_breakages, aI K (q 29) 2 m_marked, aI K (q 30) 48 m_signs, aI K (q 31) 16 m_weights, aI K (q 32) 2304 m_joins] → va_S A s.heap H locs → lv_has ls 11 [(0, .ref (q 0)), (1, .int p1), (2, .int p2), (4, .int x4), (5, .int x5), (6, .int x6), (7, .int x7)] → W p l e rm_X11_layJoin s m av below meth c H locs 0 0 Q (F0 m 157 ls [.int s0]))
  replace hw := hw (by
    intro x3 x4 m_joins hw H locs ls hP hD hS hl
    refine lv_iload (pc := 10) hx hb dX11_layJoin_10 (lv_at hl 4 rfl) ?_
    refine lv_sipush (pc := 12) (v := (256 : Int32)) hx hb dX11_layJoin_12 (by decide) ?_
    refine lv_icmp_ge (pc := 15) (tgt := 38) hx hb dX11_layJoin_15 (by decide) (fun c_3 => ?_) (fun c_3 => ?_)
    · replace hw := hw.1 c_3
      refine lv_iload_n (pc := 38) hx hb dX11_layJoin_38 rfl (lv_at hl 3 rfl) ?_
      refine lv_iconst (pc := 39) (v := (1 : Int32)) hx hb dX11_layJoin_39 (by decide) ?_
      refine lv_isub (pc := 40) hx hb dX11_layJoin_40 ?_
      refine lv_topi (fun y_4 ey_4 => ?_)
      replace hw := hw y_4 ey_4
      refine lv_istore (pc := 41) (lv' := [(4, .int y_4), (0, .ref (q 0)), (1, .int p1), (2, .int p2), (3, .int x3)]) hx hb dX11_layJoin_41 hl (by decide) rfl (fun ls hl => ?_)
      exact hw _ _ _ hP hD hS (lv_sub hl [1, 2, 3, 0] rfl)
    · replace hw := hw.2 c_3
      refine lv_aload_n (pc := 18) hx hb dX11_layJoin_18 rfl (lv_at hl 0 rfl) ?_
      refine va_get (pc := 19) (D := G) (ci := 11) (v := .ref (q 32)) (C := RX11) (T := TX11) (N := 45) hx hb hts iw_X11_layJoin_X11 hown hK hP 0 rfl rfl 39 (by decide) (hts _ (List.mem_of_getElem? (i := 2) rfl)) (fun _ h9 => h9) rfl dX11_layJoin_19 ?_
      refine lv_sipush (pc := 22) (v := (256 : Int32)) hx hb dX11_layJoin_22 (by decide) ?_
      refine lv_iload_n (pc := 25) hx hb dX11_layJoin_25 rfl (lv_at hl 3 rfl) ?_
      refine lv_imul (pc := 26) hx hb dX11_layJoin_26 ?_
      refine lv_iload (pc := 27) hx hb dX11_layJoin_27 (lv_at hl 4 rfl) ?_
      refine lv_iadd (pc := 29) hx hb dX11_layJoin_29 ?_
      refine lv_iconst (pc := 30) (v := (0 : Int32)) hx hb dX11_layJoin_30 (by decide) ?_
      obtain ⟨h_5, hw⟩ := hw
      refine va_iast (pc := 31) hx hb hK hP hD hS 4 0 rfl rfl h_5 dX11_layJoin_31 (fun H locs hP hD hS => ?_)
      obtain ⟨m_joins_6, em_joins_6⟩ : ∃ z : Nat → Int32, z = upd m_joins (((256 : Int32) * x3) + x4).toNatClampNeg (0 : Int32) := ⟨_, rfl⟩
      have hP : va_P G vwCl [oX11 q m_kinds m_weighings m_spanLow m_spanHigh m_events m_days m_edges m_crew m_breakages, aI K (q 29) 2 m_marked, aI K (q 30) 48 m_signs, aI K (q 31) 16 m_weights, aI K (q 32) 2304 m_joins_6] H := by rw [em_joins_6]; exact hP
      have hD : va_D A [oX11 q m_kinds m_weighings m_spanLow m_spanHigh m_events m_days m_edges m_crew m_breakages, aI K (q 29) 2 m_marked, aI K (q 30) 48 m_signs, aI K (q 31) 16 m_weights, aI K (q 32) 2304 m_joins_6] := by rw [em_joins_6]; exact hD
      replace hw := hw m_joins_6 em_joins_6
      obtain ⟨y_7, ey_7⟩ : ∃ z : Int32, z = (x4 + (1 : Int32)) := ⟨_, rfl⟩
      replace hw := hw y_7 ey_7
      refine lv_iinc (pc := 32) (v := y_7) (lv' := [(4, .int y_7), (0, .ref (q 0)), (1, .int p1), (2, .int p2), (3, .int x3)]) hx hb dX11_layJoin_32 hl (k := 4) rfl (by rw [ey_7]; rfl) (by decide) rfl (fun ls hl => ?_)
      refine lv_goto (pc := 35) (tgt := 10) hx hb dX11_layJoin_35 (by decide) ?_
      exact hw _ _ _ hP hD hS (lv_sub hl [1, 2, 3, 4, 0] rfl))
  replace hw := hw (by
    intro x4 m_joins hw H locs ls hP hD hS hl
    refine lv_iload (pc := 43) hx hb dX11_layJoin_43 (lv_at hl 3 rfl) ?_
    refine lv_if_lt (pc := 45) (tgt := 253) hx hb dX11_layJoin_45 (by decide) (fun c_8 => ?_) (fun c_8 => ?_)
    · replace hw := hw.1 c_8
      refine lv_aload_n (pc := 253) hx hb dX11_layJoin_253 rfl (lv_at hl 0 rfl) ?_
      refine va_get (pc := 254) (D := G) (ci := 11) (v := .ref (q 32)) (C := RX11) (T := TX11) (N := 45) hx hb hts iw_X11_layJoin_X11 hown hK hP 0 rfl rfl 39 (by decide) (hts _ (List.mem_of_getElem? (i := 2) rfl)) (fun _ h9 => h9) rfl dX11_layJoin_254 ?_
      refine lv_iconst (pc := 257) (v := (0 : Int32)) hx hb dX11_layJoin_257 (by decide) ?_
      obtain ⟨h_9, hw⟩ := hw
      refine va_iald (pc := 258) hx hb hK hP 4 0 rfl rfl h_9 dX11_layJoin_258 ?_
      exact hRetI (S := (Nat → Int32)) m_joins hx hb hr hlocks hQ hw hP hK hD hS dX11_layJoin_259
    · replace hw := hw.2 c_8
      refine lv_iconst (pc := 48) (v := (0 : Int32)) hx hb dX11_layJoin_48 (by decide) ?_
      refine lv_istore (pc := 49) (lv' := [(5, .int (0 : Int32)), (0, .ref (q 0)), (1, .int p1), (2, .int p2), (4, .int x4)]) hx hb dX11_layJoin_49 hl (by decide) rfl (fun ls hl => ?_)
      exact hw _ _ _ hP hD hS (lv_sub hl [1, 2, 3, 4, 0] rfl))
  replace hw := hw (by
    intro x4 x5 m_joins hw H locs ls hP hD hS hl
    refine lv_iload (pc := 51) hx hb dX11_layJoin_51 (lv_at hl 4 rfl) ?_
    refine lv_sipush (pc := 53) (v := (256 : Int32)) hx hb dX11_layJoin_53 (by decide) ?_
    refine lv_icmp_ge (pc := 56) (tgt := 247) hx hb dX11_layJoin_56 (by decide) (fun c_10 => ?_) (fun c_10 => ?_)
    · replace hw := hw.1 c_10
      obtain ⟨y_11, ey_11⟩ : ∃ z : Int32, z = (x4 + (-1 : Int32)) := ⟨_, rfl⟩
      replace hw := hw y_11 ey_11
      refine lv_iinc (pc := 247) (v := y_11) (lv' := [(4, .int y_11), (0, .ref (q 0)), (1, .int p1), (2, .int p2), (5, .int x5)]) hx hb dX11_layJoin_247 hl (k := 3) rfl (by rw [ey_11]; rfl) (by decide) rfl (fun ls hl => ?_)
      refine lv_goto (pc := 250) (tgt := 43) hx hb dX11_layJoin_250 (by decide) ?_
      exact hw _ _ _ hP hD hS (lv_sub hl [1, 2, 3, 0] rfl)
    · replace hw := hw.2 c_10
      refine lv_iload (pc := 59) hx hb dX11_layJoin_59 (lv_at hl 3 rfl) ?_
      refine lv_iload_n (pc := 61) hx hb dX11_layJoin_61 rfl (lv_at hl 1 rfl) ?_
      obtain ⟨hsf, hw⟩ := hw
      have K_v_16 : ∀ v_16 : Int32, v_16 = (if x4 = p1 then (if (8 : Int32) ≤ p2 then (m_joins ((((256 : Int32) * x4) + (256 : Int32)) + x5).toNatClampNeg) else (1000000 : Int32)) else (m_joins ((((256 : Int32) * x4) + (256 : Int32)) + x5).toNatClampNeg)) → W p l e rm_X11_layJoin s m av below meth c H locs 0 0 Q (F0 m 94 ls [.int v_16]) := by
        intro v_16 ev_16
        replace hw := hw v_16 ev_16
        refine lv_istore (pc := 94) (lv' := [(6, .int v_16), (0, .ref (q 0)), (1, .int p1), (2, .int p2), (4, .int x4), (5, .int x5)]) hx hb dX11_layJoin_94 hl (by decide) rfl (fun ls hl => ?_)
        refine lv_iconst (pc := 96) (v := (0 : Int32)) hx hb dX11_layJoin_96 (by decide) ?_
        refine lv_istore (pc := 97) (lv' := [(7, .int (0 : Int32)), (6, .int v_16), (0, .ref (q 0)), (1, .int p1), (2, .int p2), (4, .int x4), (5, .int x5)]) hx hb dX11_layJoin_97 hl (by decide) rfl (fun ls hl => ?_)
        exact hw _ _ _ hP hD hS (lv_sub hl [2, 3, 4, 5, 6, 1, 0] rfl)
      refine lv_icmp_ne (pc := 62) (tgt := 76) hx hb dX11_layJoin_62 (by decide) (fun c_12 => ?_) (fun c_12 => ?_)
      · replace hsf := hsf.2 c_12
        refine lv_aload_n (pc := 76) hx hb dX11_layJoin_76 rfl (lv_at hl 0 rfl) ?_
        refine va_get (pc := 77) (D := G) (ci := 11) (v := .ref (q 32)) (C := RX11) (T := TX11) (N := 45) hx hb hts iw_X11_layJoin_X11 hown hK hP 0 rfl rfl 39 (by decide) (hts _ (List.mem_of_getElem? (i := 2) rfl)) (fun _ h9 => h9) rfl dX11_layJoin_77 ?_
        refine lv_sipush (pc := 80) (v := (256 : Int32)) hx hb dX11_layJoin_80 (by decide) ?_
        refine lv_iload (pc := 83) hx hb dX11_layJoin_83 (lv_at hl 3 rfl) ?_
        refine lv_imul (pc := 85) hx hb dX11_layJoin_85 ?_
        refine lv_sipush (pc := 86) (v := (256 : Int32)) hx hb dX11_layJoin_86 (by decide) ?_
        refine lv_iadd (pc := 89) hx hb dX11_layJoin_89 ?_
        refine lv_iload (pc := 90) hx hb dX11_layJoin_90 (lv_at hl 4 rfl) ?_
        refine lv_iadd (pc := 92) hx hb dX11_layJoin_92 ?_
        obtain ⟨h_13, hsf⟩ := hsf
        refine va_iald (pc := 93) hx hb hK hP 4 0 rfl rfl h_13 dX11_layJoin_93 ?_
        exact K_v_16 _ (by rw [if_neg c_12])
      · replace hsf := hsf.1 c_12
        refine lv_iload_n (pc := 65) hx hb dX11_layJoin_65 rfl (lv_at hl 2 rfl) ?_
        refine lv_bipush (pc := 66) (v := (8 : Int32)) hx hb dX11_layJoin_66 (by decide) ?_
        refine lv_icmp_ge (pc := 68) (tgt := 76) hx hb dX11_layJoin_68 (by decide) (fun c_14 => ?_) (fun c_14 => ?_)
        · replace hsf := hsf.1 c_14
          refine lv_aload_n (pc := 76) hx hb dX11_layJoin_76 rfl (lv_at hl 0 rfl) ?_
          refine va_get (pc := 77) (D := G) (ci := 11) (v := .ref (q 32)) (C := RX11) (T := TX11) (N := 45) hx hb hts iw_X11_layJoin_X11 hown hK hP 0 rfl rfl 39 (by decide) (hts _ (List.mem_of_getElem? (i := 2) rfl)) (fun _ h9 => h9) rfl dX11_layJoin_77 ?_
          refine lv_sipush (pc := 80) (v := (256 : Int32)) hx hb dX11_layJoin_80 (by decide) ?_
          refine lv_iload (pc := 83) hx hb dX11_layJoin_83 (lv_at hl 3 rfl) ?_
          refine lv_imul (pc := 85) hx hb dX11_layJoin_85 ?_
          refine lv_sipush (pc := 86) (v := (256 : Int32)) hx hb dX11_layJoin_86 (by decide) ?_
          refine lv_iadd (pc := 89) hx hb dX11_layJoin_89 ?_
          refine lv_iload (pc := 90) hx hb dX11_layJoin_90 (lv_at hl 4 rfl) ?_
          refine lv_iadd (pc := 92) hx hb dX11_layJoin_92 ?_
          obtain ⟨h_15, hsf⟩ := hsf
          refine va_iald (pc := 93) hx hb hK hP 4 0 rfl rfl h_15 dX11_layJoin_93 ?_
          exact K_v_16 _ (by rw [if_pos c_12, if_pos c_14])
        · replace hsf := hsf.2 c_14
          refine lv_ldc (pc := 71) (v := (1000000 : Int32)) hx hb hown (hts _ (List.mem_of_getElem? (i := 3) rfl)) dX11_layJoin_71 ?_
          refine lv_goto (pc := 73) (tgt := 94) hx hb dX11_layJoin_73 (by decide) ?_
          exact K_v_16 _ (by rw [if_pos c_12, if_neg c_14]))
  replace hw := hw (by
    intro x4 x5 x6 x7 m_joins hw H locs ls hP hD hS hl
    refine lv_iload (pc := 99) hx hb dX11_layJoin_99 (lv_at hl 6 rfl) ?_
    refine lv_aload_n (pc := 101) hx hb dX11_layJoin_101 rfl (lv_at hl 0 rfl) ?_
    refine va_get (pc := 102) (D := G) (ci := 11) (v := .ref (q 29)) (C := RX11) (T := TX11) (N := 45) hx hb hts iw_X11_layJoin_X11 hown hK hP 0 rfl rfl 36 (by decide) (hts _ (List.mem_of_getElem? (i := 1) rfl)) (fun _ h9 => h9) rfl dX11_layJoin_102 ?_
    refine lv_iconst (pc := 105) (v := (1 : Int32)) hx hb dX11_layJoin_105 (by decide) ?_
    obtain ⟨h_17, hw⟩ := hw
    refine va_iald (pc := 106) hx hb hK hP 1 0 rfl rfl h_17 dX11_layJoin_106 ?_
    refine lv_icmp_ge (pc := 107) (tgt := 225) hx hb dX11_layJoin_107 (by decide) (fun c_18 => ?_) (fun c_18 => ?_)
    · replace hw := hw.1 c_18
      refine lv_aload_n (pc := 225) hx hb dX11_layJoin_225 rfl (lv_at hl 0 rfl) ?_
      refine va_get (pc := 226) (D := G) (ci := 11) (v := .ref (q 32)) (C := RX11) (T := TX11) (N := 45) hx hb hts iw_X11_layJoin_X11 hown hK hP 0 rfl rfl 39 (by decide) (hts _ (List.mem_of_getElem? (i := 2) rfl)) (fun _ h9 => h9) rfl dX11_layJoin_226 ?_
      refine lv_sipush (pc := 229) (v := (256 : Int32)) hx hb dX11_layJoin_229 (by decide) ?_
      refine lv_iload (pc := 232) hx hb dX11_layJoin_232 (lv_at hl 3 rfl) ?_
      refine lv_imul (pc := 234) hx hb dX11_layJoin_234 ?_
      refine lv_iload (pc := 235) hx hb dX11_layJoin_235 (lv_at hl 4 rfl) ?_
      refine lv_iadd (pc := 237) hx hb dX11_layJoin_237 ?_
      refine lv_iload (pc := 238) hx hb dX11_layJoin_238 (lv_at hl 5 rfl) ?_
      obtain ⟨h_19, hw⟩ := hw
      refine va_iast (pc := 240) hx hb hK hP hD hS 4 0 rfl rfl h_19 dX11_layJoin_240 (fun H locs hP hD hS => ?_)
      obtain ⟨m_joins_20, em_joins_20⟩ : ∃ z : Nat → Int32, z = upd m_joins (((256 : Int32) * x4) + x5).toNatClampNeg x6 := ⟨_, rfl⟩
      have hP : va_P G vwCl [oX11 q m_kinds m_weighings m_spanLow m_spanHigh m_events m_days m_edges m_crew m_breakages, aI K (q 29) 2 m_marked, aI K (q 30) 48 m_signs, aI K (q 31) 16 m_weights, aI K (q 32) 2304 m_joins_20] H := by rw [em_joins_20]; exact hP
      have hD : va_D A [oX11 q m_kinds m_weighings m_spanLow m_spanHigh m_events m_days m_edges m_crew m_breakages, aI K (q 29) 2 m_marked, aI K (q 30) 48 m_signs, aI K (q 31) 16 m_weights, aI K (q 32) 2304 m_joins_20] := by rw [em_joins_20]; exact hD
      replace hw := hw m_joins_20 em_joins_20
      obtain ⟨y_21, ey_21⟩ : ∃ z : Int32, z = (x5 + (1 : Int32)) := ⟨_, rfl⟩
      replace hw := hw y_21 ey_21
      refine lv_iinc (pc := 241) (v := y_21) (lv' := [(5, .int y_21), (0, .ref (q 0)), (1, .int p1), (2, .int p2), (4, .int x4), (6, .int x6), (7, .int x7)]) hx hb dX11_layJoin_241 hl (k := 4) rfl (by rw [ey_21]; rfl) (by decide) rfl (fun ls hl => ?_)
      refine lv_goto (pc := 244) (tgt := 51) hx hb dX11_layJoin_244 (by decide) ?_
      exact hw _ _ _ hP hD hS (lv_sub hl [1, 2, 3, 4, 0] rfl)
    · replace hw := hw.2 c_18
      refine lv_iload (pc := 110) hx hb dX11_layJoin_110 (lv_at hl 4 rfl) ?_
      refine lv_iload (pc := 112) hx hb dX11_layJoin_112 (lv_at hl 6 rfl) ?_
      refine lv_ishr (pc := 114) hx hb dX11_layJoin_114 ?_
      refine lv_iconst (pc := 115) (v := (1 : Int32)) hx hb dX11_layJoin_115 (by decide) ?_
      refine lv_iand (pc := 116) hx hb dX11_layJoin_116 ?_
      refine lv_if_ne (pc := 117) (tgt := 136) hx hb dX11_layJoin_117 (by decide) (fun c_22 => ?_) (fun c_22 => ?_)
      · replace hw := hw.2 c_22
        exact hw _ _ _ hP hD hS (lv_sub hl [0, 1, 2, 3, 4, 5, 6] rfl)
      · replace hw := hw.1 c_22
        refine lv_iload (pc := 120) hx hb dX11_layJoin_120 (lv_at hl 3 rfl) ?_
        refine lv_iload_n (pc := 122) hx hb dX11_layJoin_122 rfl (lv_at hl 1 rfl) ?_
        refine lv_icmp_ne (pc := 123) (tgt := 132) hx hb dX11_layJoin_123 (by decide) (fun c_23 => ?_) (fun c_23 => ?_)
        · replace hw := hw.2 c_23
          exact hw _ _ _ hP hD hS (lv_sub hl [0, 1, 2, 3, 4, 5, 6] rfl)
        · replace hw := hw.1 c_23
          refine lv_iload_n (pc := 126) hx hb dX11_layJoin_126 rfl (lv_at hl 2 rfl) ?_
          refine lv_iload (pc := 127) hx hb dX11_layJoin_127 (lv_at hl 6 rfl) ?_
          refine lv_icmp_ne (pc := 129) (tgt := 136) hx hb dX11_layJoin_129 (by decide) (fun c_24 => ?_) (fun c_24 => ?_)
          · replace hw := hw.2 c_24
            exact hw _ _ _ hP hD hS (lv_sub hl [0, 1, 2, 3, 4, 5, 6] rfl)
          · replace hw := hw.1 c_24
            exact hw _ _ _ hP hD hS (lv_sub hl [0, 1, 2, 3, 4, 5, 6] rfl))
  replace hw := hw (by
    intro x4 x5 x6 x7 m_joins hw H locs ls hP hD hS hl
    refine lv_iconst (pc := 132) (v := (1 : Int32)) hx hb dX11_layJoin_132 (by decide) ?_
    refine lv_goto (pc := 133) (tgt := 137) hx hb dX11_layJoin_133 (by decide) ?_
    refine lv_istore (pc := 137) (lv' := [(8, .int (1 : Int32)), (0, .ref (q 0)), (1, .int p1), (2, .int p2), (4, .int x4), (5, .int x5), (6, .int x6), (7, .int x7)]) hx hb dX11_layJoin_137 hl (by decide) rfl (fun ls hl => ?_)
    refine lv_iload (pc := 139) hx hb dX11_layJoin_139 (lv_at hl 0 rfl) ?_
    refine lv_if_eq (pc := 141) (tgt := 155) hx hb dX11_layJoin_141 (by decide) (fun c_27 => ?_) (fun c_27 => ?_)
    · replace hw := hw.1 c_27
      refine lv_bipush (pc := 155) (v := (-9 : Int32)) hx hb dX11_layJoin_155 (by decide) ?_
      exact hw _ _ _ hP hD hS (lv_sub hl [1, 2, 3, 4, 5, 6, 7] rfl)
    · replace hw := hw.2 c_27
      refine lv_aload_n (pc := 144) hx hb dX11_layJoin_144 rfl (lv_at hl 1 rfl) ?_
      refine lv_iload (pc := 145) hx hb dX11_layJoin_145 (lv_at hl 4 rfl) ?_
      refine lv_iload (pc := 147) hx hb dX11_layJoin_147 (lv_at hl 7 rfl) ?_
      refine hCallI (pc := 149) (wr := [aI K (q 29) 2 m_marked, aI K (q 32) 2304 m_joins]) (wsf := fun (u : Unit) => [oX11 q m_kinds m_weighings m_spanLow m_spanHigh m_events m_days m_edges m_crew m_breakages, aI K (q 30) 48 m_signs, aI K (q 31) 16 m_weights]) [0, 2, 3] [1, 4] (va_runV (As := [.int x4, .int x7]) (rest := []) ⟨hx, hb, hml, hown, hts⟩ (c_X11_costOf l G K tb q H.size m_kinds m_weighings m_spanLow m_spanHigh m_events m_days m_edges m_crew m_breakages _ x4 x7 m_signs m_weights hw) (cwV 2 hts gX11_layJoin_X11_costOf rfl rfl rfl (by decide +kernel) ⟨Nat.le_of_ble_eq_true rfl, Nat.le_of_ble_eq_true rfl⟩) (hPreV hE hP hK hD hS hA [0, 2, 3] (by decide) rfl rfl rfl rfl (q0 := 0) (ci := 11) rfl) rfl rfl hl.1 rfl (lv_room (Nat.le_of_ble_eq_true rfl)) dX11_layJoin_149 ⟨Nat.zero_le _, Nat.zero_le _⟩) hP hD hS hA rfl rfl (by decide) (by decide) (fun r_28 u H locs hw hP hD hS => ?_)
      have hP : va_P G vwCl [oX11 q m_kinds m_weighings m_spanLow m_spanHigh m_events m_days m_edges m_crew m_breakages, aI K (q 29) 2 m_marked, aI K (q 30) 48 m_signs, aI K (q 31) 16 m_weights, aI K (q 32) 2304 m_joins] H := hP.sub [2, 0, 3, 4, 1] rfl
      have hD : va_D A [oX11 q m_kinds m_weighings m_spanLow m_spanHigh m_events m_days m_edges m_crew m_breakages, aI K (q 29) 2 m_marked, aI K (q 30) 48 m_signs, aI K (q 31) 16 m_weights, aI K (q 32) 2304 m_joins] := hD.sub [2, 0, 3, 4, 1] (by decide) rfl
      refine lv_goto (pc := 152) (tgt := 157) hx hb dX11_layJoin_152 (by decide) ?_
      exact hw _ _ _ hP hD hS (lv_sub hl [1, 2, 3, 4, 5, 6, 7] rfl))
  replace hw := hw (by
    intro x4 x5 x6 x7 m_joins hw H locs ls hP hD hS hl
    refine lv_iconst (pc := 136) (v := (0 : Int32)) hx hb dX11_layJoin_136 (by decide) ?_
    refine lv_istore (pc := 137) (lv' := [(8, .int (0 : Int32)), (0, .ref (q 0)), (1, .int p1), (2, .int p2), (4, .int x4), (5, .int x5), (6, .int x6), (7, .int x7)]) hx hb dX11_layJoin_137 hl (by decide) rfl (fun ls hl => ?_)
    refine lv_iload (pc := 139) hx hb dX11_layJoin_139 (lv_at hl 0 rfl) ?_
    refine lv_if_eq (pc := 141) (tgt := 155) hx hb dX11_layJoin_141 (by decide) (fun c_25 => ?_) (fun c_25 => ?_)
    · replace hw := hw.1 c_25
      refine lv_bipush (pc := 155) (v := (-9 : Int32)) hx hb dX11_layJoin_155 (by decide) ?_
      exact hw _ _ _ hP hD hS (lv_sub hl [1, 2, 3, 4, 5, 6, 7] rfl)
    · replace hw := hw.2 c_25
      refine lv_aload_n (pc := 144) hx hb dX11_layJoin_144 rfl (lv_at hl 1 rfl) ?_
      refine lv_iload (pc := 145) hx hb dX11_layJoin_145 (lv_at hl 4 rfl) ?_
      refine lv_iload (pc := 147) hx hb dX11_layJoin_147 (lv_at hl 7 rfl) ?_
      refine hCallI (pc := 149) (wr := [aI K (q 29) 2 m_marked, aI K (q 32) 2304 m_joins]) (wsf := fun (u : Unit) => [oX11 q m_kinds m_weighings m_spanLow m_spanHigh m_events m_days m_edges m_crew m_breakages, aI K (q 30) 48 m_signs, aI K (q 31) 16 m_weights]) [0, 2, 3] [1, 4] (va_runV (As := [.int x4, .int x7]) (rest := []) ⟨hx, hb, hml, hown, hts⟩ (c_X11_costOf l G K tb q H.size m_kinds m_weighings m_spanLow m_spanHigh m_events m_days m_edges m_crew m_breakages _ x4 x7 m_signs m_weights hw) (cwV 2 hts gX11_layJoin_X11_costOf rfl rfl rfl (by decide +kernel) ⟨Nat.le_of_ble_eq_true rfl, Nat.le_of_ble_eq_true rfl⟩) (hPreV hE hP hK hD hS hA [0, 2, 3] (by decide) rfl rfl rfl rfl (q0 := 0) (ci := 11) rfl) rfl rfl hl.1 rfl (lv_room (Nat.le_of_ble_eq_true rfl)) dX11_layJoin_149 ⟨Nat.zero_le _, Nat.zero_le _⟩) hP hD hS hA rfl rfl (by decide) (by decide) (fun r_26 u H locs hw hP hD hS => ?_)
      have hP : va_P G vwCl [oX11 q m_kinds m_weighings m_spanLow m_spanHigh m_events m_days m_edges m_crew m_breakages, aI K (q 29) 2 m_marked, aI K (q 30) 48 m_signs, aI K (q 31) 16 m_weights, aI K (q 32) 2304 m_joins] H := hP.sub [2, 0, 3, 4, 1] rfl
      have hD : va_D A [oX11 q m_kinds m_weighings m_spanLow m_spanHigh m_events m_days m_edges m_crew m_breakages, aI K (q 29) 2 m_marked, aI K (q 30) 48 m_signs, aI K (q 31) 16 m_weights, aI K (q 32) 2304 m_joins] := hD.sub [2, 0, 3, 4, 1] (by decide) rfl
      refine lv_goto (pc := 152) (tgt := 157) hx hb dX11_layJoin_152 (by decide) ?_
      exact hw _ _ _ hP hD hS (lv_sub hl [1, 2, 3, 4, 5, 6, 7] rfl))
  replace hw := hw (by
    intro x4 x5 x6 x7 s0 m_joins hw H locs ls hP hD hS hl
    refine lv_istore (pc := 157) (lv' := [(9, .int s0), (0, .ref (q 0)), (1, .int p1), (2, .int p2), (4, .int x4), (5, .int x5), (6, .int x6), (7, .int x7)]) hx hb dX11_layJoin_157 hl (by decide) rfl (fun ls hl => ?_)
    refine lv_iload (pc := 159) hx hb dX11_layJoin_159 (lv_at hl 0 rfl) ?_
    refine lv_bipush (pc := 161) (v := (-9 : Int32)) hx hb dX11_layJoin_161 (by decide) ?_
    obtain ⟨hsf, hw⟩ := hw
    have K_v_31 : ∀ v_31 : Int32, v_31 = (if s0 = (-9 : Int32) then (1000000 : Int32) else ((s0 - (1000 : Int32)) + (m_joins ((((256 : Int32) * x4) + (256 : Int32)) + (x5 ||| ((1 : Int32) <<< (x7 &&& 31)))).toNatClampNeg))) → W p l e rm_X11_layJoin s m av below meth c H locs 0 0 Q (F0 m 201 ls [.int v_31]) := by
      intro v_31 ev_31
      replace hw := hw v_31 ev_31
      refine lv_istore (pc := 201) (lv' := [(10, .int v_31), (9, .int s0), (0, .ref (q 0)), (1, .int p1), (2, .int p2), (4, .int x4), (5, .int x5), (6, .int x6), (7, .int x7)]) hx hb dX11_layJoin_201 hl (by decide) rfl (fun ls hl => ?_)
      refine lv_iload (pc := 203) hx hb dX11_layJoin_203 (lv_at hl 0 rfl) ?_
      refine lv_iload (pc := 205) hx hb dX11_layJoin_205 (lv_at hl 7 rfl) ?_
      have K_v_33 : ∀ v_33 : Int32, v_33 = (if x6 ≤ v_31 then x6 else v_31) → W p l e rm_X11_layJoin s m av below meth c H locs 0 0 Q (F0 m 217 ls [.int v_33]) := by
        intro v_33 ev_33
        replace hw := hw v_33 ev_33
        refine lv_istore (pc := 217) (lv' := [(6, .int v_33), (10, .int v_31), (9, .int s0), (0, .ref (q 0)), (1, .int p1), (2, .int p2), (4, .int x4), (5, .int x5), (7, .int x7)]) hx hb dX11_layJoin_217 hl (by decide) rfl (fun ls hl => ?_)
        obtain ⟨y_34, ey_34⟩ : ∃ z : Int32, z = (x7 + (1 : Int32)) := ⟨_, rfl⟩
        replace hw := hw y_34 ey_34
        refine lv_iinc (pc := 219) (v := y_34) (lv' := [(7, .int y_34), (6, .int v_33), (10, .int v_31), (9, .int s0), (0, .ref (q 0)), (1, .int p1), (2, .int p2), (4, .int x4), (5, .int x5)]) hx hb dX11_layJoin_219 hl (k := 8) rfl (by rw [ey_34]; rfl) (by decide) rfl (fun ls hl => ?_)
        refine lv_goto (pc := 222) (tgt := 99) hx hb dX11_layJoin_222 (by decide) ?_
        exact hw _ _ _ hP hD hS (lv_sub hl [4, 5, 6, 7, 8, 1, 0] rfl)
      refine lv_icmp_ge (pc := 207) (tgt := 215) hx hb dX11_layJoin_207 (by decide) (fun c_32 => ?_) (fun c_32 => ?_)
      · skip
        refine lv_iload (pc := 215) hx hb dX11_layJoin_215 (lv_at hl 7 rfl) ?_
        exact K_v_33 _ (by rw [if_pos c_32])
      · skip
        refine lv_iload (pc := 210) hx hb dX11_layJoin_210 (lv_at hl 0 rfl) ?_
        refine lv_goto (pc := 212) (tgt := 217) hx hb dX11_layJoin_212 (by decide) ?_
        exact K_v_33 _ (by rw [if_neg c_32])
    refine lv_icmp_ne (pc := 163) (tgt := 171) hx hb dX11_layJoin_163 (by decide) (fun c_29 => ?_) (fun c_29 => ?_)
    · replace hsf := hsf.2 c_29
      refine lv_iload (pc := 171) hx hb dX11_layJoin_171 (lv_at hl 0 rfl) ?_
      refine lv_sipush (pc := 173) (v := (1000 : Int32)) hx hb dX11_layJoin_173 (by decide) ?_
      refine lv_isub (pc := 176) hx hb dX11_layJoin_176 ?_
      refine lv_aload_n (pc := 177) hx hb dX11_layJoin_177 rfl (lv_at hl 1 rfl) ?_
      refine va_get (pc := 178) (D := G) (ci := 11) (v := .ref (q 32)) (C := RX11) (T := TX11) (N := 45) hx hb hts iw_X11_layJoin_X11 hown hK hP 0 rfl rfl 39 (by decide) (hts _ (List.mem_of_getElem? (i := 2) rfl)) (fun _ h9 => h9) rfl dX11_layJoin_178 ?_
      refine lv_sipush (pc := 181) (v := (256 : Int32)) hx hb dX11_layJoin_181 (by decide) ?_
      refine lv_iload (pc := 184) hx hb dX11_layJoin_184 (lv_at hl 4 rfl) ?_
      refine lv_imul (pc := 186) hx hb dX11_layJoin_186 ?_
      refine lv_sipush (pc := 187) (v := (256 : Int32)) hx hb dX11_layJoin_187 (by decide) ?_
      refine lv_iadd (pc := 190) hx hb dX11_layJoin_190 ?_
      refine lv_iload (pc := 191) hx hb dX11_layJoin_191 (lv_at hl 5 rfl) ?_
      refine lv_iconst (pc := 193) (v := (1 : Int32)) hx hb dX11_layJoin_193 (by decide) ?_
      refine lv_iload (pc := 194) hx hb dX11_layJoin_194 (lv_at hl 7 rfl) ?_
      refine lv_ishl (pc := 196) hx hb dX11_layJoin_196 ?_
      refine lv_ior (pc := 197) hx hb dX11_layJoin_197 ?_
      refine lv_iadd (pc := 198) hx hb dX11_layJoin_198 ?_
      obtain ⟨h_30, hsf⟩ := hsf
      refine va_iald (pc := 199) hx hb hK hP 4 0 rfl rfl h_30 dX11_layJoin_199 ?_
      refine lv_iadd (pc := 200) hx hb dX11_layJoin_200 ?_
      exact K_v_31 _ (by rw [if_neg c_29])
    · replace hsf := hsf.1 c_29
      refine lv_ldc (pc := 166) (v := (1000000 : Int32)) hx hb hown (hts _ (List.mem_of_getElem? (i := 3) rfl)) dX11_layJoin_166 ?_
      refine lv_goto (pc := 168) (tgt := 201) hx hb dX11_layJoin_168 (by decide) ?_
      exact K_v_31 _ (by rw [if_pos c_29]))
  refine lv_aload_n (pc := 0) hx hb dX11_layJoin_0 rfl (lv_at hl 0 rfl) ?_
  refine va_get (pc := 1) (D := G) (ci := 11) (v := .ref (q 29)) (C := RX11) (T := TX11) (N := 45) hx hb hts iw_X11_layJoin_X11 hown hK hP 0 rfl rfl 36 (by decide) (hts _ (List.mem_of_getElem? (i := 1) rfl)) (fun _ h9 => h9) rfl dX11_layJoin_1 ?_
  refine lv_iconst (pc := 4) (v := (0 : Int32)) hx hb dX11_layJoin_4 (by decide) ?_
  obtain ⟨h_1, hw⟩ := hw
  refine va_iald (pc := 5) hx hb hK hP 1 0 rfl rfl h_1 dX11_layJoin_5 ?_
  refine lv_topi (fun y_2 ey_2 => ?_)
  replace hw := hw y_2 ey_2
  refine lv_istore_n (pc := 6) (lv' := [(3, .int y_2), (0, .ref (q 0)), (1, .int p1), (2, .int p2)]) hx hb dX11_layJoin_6 rfl hl (by decide) rfl (fun ls hl => ?_)
  refine lv_iconst (pc := 7) (v := (0 : Int32)) hx hb dX11_layJoin_7 (by decide) ?_
  refine lv_istore (pc := 8) (lv' := [(4, .int (0 : Int32)), (3, .int y_2), (0, .ref (q 0)), (1, .int p1), (2, .int p2)]) hx hb dX11_layJoin_8 hl (by decide) rfl (fun ls hl => ?_)
  exact hw _ _ _ hP hD hS (lv_sub hl [2, 3, 4, 1, 0] rfl)
def P_X11_pairsOf (post : Int32 → Prop) (p0 : Int32) : Prop :=
  post (((-p0) + (999 : Int32)) / (1000 : Int32))
abbrev rm_X11_pairsOf : Room := { frames := 0, cells := 0, slots := 0, locals := 0 }
set_option maxHeartbeats 4000000 in
set_option maxRecDepth 100000 in
theorem c_X11_pairsOf (l : Launch) (G : va_G) (K : ClassId × ClassId × ClassId) (tb q : Nat → Nat) (sz : Nat) (post : Int32 → Prop) (p0 : Int32) (hw : P_X11_pairsOf post p0) : Met l yX11_pairsOf wsX11_pairsOf rm_X11_pairsOf (va_Pc [.int p0] (hPre G K tb [] sz)) (va_Qi (fun (r : Int32) (u : Unit) => post r) (fun u => hB G K (va_A [] sz) []) (va_A [] sz)) 0 0 (va_A [] sz) := by
  refine hMet (fun A => va_Qi (fun (r : Int32) (u : Unit) => post r) (fun u => hB G K A []) A) (by decide) rfl (Nat.le_of_ble_eq_true rfl) ?_
  intro p e s m av below meth c A Q ls hx hb hr hml hts hown hlocks hnm hA hP hK hD hS hE hQ hl
  have hts : ∀ w ∈ wsX11_pairsOf, w.before av s = true := hts
  have hown : s.vm.findClass RX11 = some m.cls := hown
  have hl : lv_has ls 1 [(0, .int p0)] := hl
  unfold P_X11_pairsOf at hw
  refine lv_iload_n (pc := 0) hx hb dX11_pairsOf_0 rfl (lv_at hl 0 rfl) ?_
  refine lv_ineg (pc := 1) hx hb dX11_pairsOf_1 ?_
  refine lv_sipush (pc := 2) (v := (999 : Int32)) hx hb dX11_pairsOf_2 (by decide) ?_
  refine lv_iadd (pc := 5) hx hb dX11_pairsOf_5 ?_
  refine lv_sipush (pc := 6) (v := (1000 : Int32)) hx hb dX11_pairsOf_6 (by decide) ?_
  refine lv_idiv (pc := 9) hx hb dX11_pairsOf_9 (by decide) ?_
  exact hRetI (S := Unit) () hx hb hr hlocks hQ hw hP hK hD hS dX11_pairsOf_10
def P_X11_join (post : Int32 → (Nat → Int32) → Prop) (p1 : Int32) (m_marked : Nat → Int32) (m_signs : Nat → Int32) (m_weights : Nat → Int32) (m_joins : Nat → Int32) : Prop :=
  P_X11_layJoin (fun r_1 m_joins_2 => ((p1 = (0 : Int32) → P_X11_pairsOf (fun r_4 => post r_4 m_joins_2) r_1) ∧ (¬ p1 = (0 : Int32) → P_X11_pairsOf (fun r_5 => post (r_1 + ((1000 : Int32) * r_5)) m_joins_2) r_1))) (-9 : Int32) (-9 : Int32) m_marked m_signs m_weights m_joins
abbrev rm_X11_join : Room := { frames := 2, cells := 0, slots := 0, locals := 57 }
set_option maxHeartbeats 4000000 in
set_option maxRecDepth 100000 in
theorem c_X11_join (l : Launch) (G : va_G) (K : ClassId × ClassId × ClassId) (tb q : Nat → Nat) (sz : Nat) (m_kinds : Int32) (m_weighings : Int32) (m_spanLow : Int32) (m_spanHigh : Int32) (m_events : Int32) (m_days : Int32) (m_edges : Int32) (m_crew : Int32) (m_breakages : Int32) (post : Int32 → (Nat → Int32) → Prop) (p1 : Int32) (m_marked : Nat → Int32) (m_signs : Nat → Int32) (m_weights : Nat → Int32) (m_joins : Nat → Int32) (hw : P_X11_join post p1 m_marked m_signs m_weights m_joins) : Met l yX11_join wsX11_join rm_X11_join (va_Pc [.ref (q 0), .int p1] (hPre G K tb [oX11 q m_kinds m_weighings m_spanLow m_spanHigh m_events m_days m_edges m_crew m_breakages, aI K (q 29) 2 m_marked, aI K (q 30) 48 m_signs, aI K (q 31) 16 m_weights, aI K (q 32) 2304 m_joins] sz)) (va_Qi (fun (r : Int32) (u : (Nat → Int32)) => post r u) (fun u => hB G K (va_A [oX11 q m_kinds m_weighings m_spanLow m_spanHigh m_events m_days m_edges m_crew m_breakages, aI K (q 29) 2 m_marked, aI K (q 30) 48 m_signs, aI K (q 31) 16 m_weights, aI K (q 32) 2304 m_joins] sz) [oX11 q m_kinds m_weighings m_spanLow m_spanHigh m_events m_days m_edges m_crew m_breakages, aI K (q 29) 2 m_marked, aI K (q 30) 48 m_signs, aI K (q 31) 16 m_weights, aI K (q 32) 2304 u]) (va_A [oX11 q m_kinds m_weighings m_spanLow m_spanHigh m_events m_days m_edges m_crew m_breakages, aI K (q 29) 2 m_marked, aI K (q 30) 48 m_signs, aI K (q 31) 16 m_weights, aI K (q 32) 2304 m_joins] sz)) 0 0 (va_A [oX11 q m_kinds m_weighings m_spanLow m_spanHigh m_events m_days m_edges m_crew m_breakages, aI K (q 29) 2 m_marked, aI K (q 30) 48 m_signs, aI K (q 31) 16 m_weights, aI K (q 32) 2304 m_joins] sz) := by
  refine hMet (fun A => va_Qi (fun (r : Int32) (u : (Nat → Int32)) => post r u) (fun u => hB G K A [oX11 q m_kinds m_weighings m_spanLow m_spanHigh m_events m_days m_edges m_crew m_breakages, aI K (q 29) 2 m_marked, aI K (q 30) 48 m_signs, aI K (q 31) 16 m_weights, aI K (q 32) 2304 u]) A) (by decide) rfl (Nat.le_of_ble_eq_true rfl) ?_
  intro p e s m av below meth c A Q ls hx hb hr hml hts hown hlocks hnm hA hP hK hD hS hE hQ hl
  have hts : ∀ w ∈ wsX11_join, w.before av s = true := hts
  have hown : s.vm.findClass RX11 = some m.cls := hown
  have hl : lv_has ls 3 [(0, .ref (q 0)), (1, .int p1)] := hl
  unfold P_X11_join at hw
  refine lv_aload_n (pc := 0) hx hb dX11_join_0 rfl (lv_at hl 0 rfl) ?_
  refine lv_bipush (pc := 1) (v := (-9 : Int32)) hx hb dX11_join_1 (by decide) ?_
  refine lv_bipush (pc := 3) (v := (-9 : Int32)) hx hb dX11_join_3 (by decide) ?_
  refine hCallI (pc := 5) (wr := []) (wsf := fun (u : (Nat → Int32)) => [oX11 q m_kinds m_weighings m_spanLow m_spanHigh m_events m_days m_edges m_crew m_breakages, aI K (q 29) 2 m_marked, aI K (q 30) 48 m_signs, aI K (q 31) 16 m_weights, aI K (q 32) 2304 u]) [0, 1, 2, 3, 4] [] (va_runV (As := [.int (-9 : Int32), .int (-9 : Int32)]) (rest := []) ⟨hx, hb, hml, hown, hts⟩ (c_X11_layJoin l G K tb q s.heap.size m_kinds m_weighings m_spanLow m_spanHigh m_events m_days m_edges m_crew m_breakages _ (-9 : Int32) (-9 : Int32) m_marked m_signs m_weights m_joins hw) (cwV 2 hts gX11_join_X11_layJoin rfl rfl rfl (by decide +kernel) ⟨Nat.le_of_ble_eq_true rfl, Nat.le_of_ble_eq_true rfl⟩) (hPreV hE hP hK hD hS hA [0, 1, 2, 3, 4] (by decide) rfl rfl rfl rfl (q0 := 0) (ci := 11) rfl) rfl rfl hl.1 rfl (lv_room (Nat.le_of_ble_eq_true rfl)) dX11_join_5 ⟨Nat.zero_le _, Nat.zero_le _⟩) hP hD hS hA rfl rfl (by decide) (by decide) (fun r_1 u H locs hw hP hD hS => ?_)
  obtain ⟨m_joins_2, rfl⟩ : ∃ z, z = u := ⟨_, rfl⟩
  have hP : va_P G vwCl [oX11 q m_kinds m_weighings m_spanLow m_spanHigh m_events m_days m_edges m_crew m_breakages, aI K (q 29) 2 m_marked, aI K (q 30) 48 m_signs, aI K (q 31) 16 m_weights, aI K (q 32) 2304 m_joins_2] H := hP.sub [0, 1, 2, 3, 4] rfl
  have hD : va_D A [oX11 q m_kinds m_weighings m_spanLow m_spanHigh m_events m_days m_edges m_crew m_breakages, aI K (q 29) 2 m_marked, aI K (q 30) 48 m_signs, aI K (q 31) 16 m_weights, aI K (q 32) 2304 m_joins_2] := hD.sub [0, 1, 2, 3, 4] (by decide) rfl
  refine lv_istore_n (pc := 8) (lv' := [(2, .int r_1), (0, .ref (q 0)), (1, .int p1)]) hx hb dX11_join_8 rfl hl (by decide) rfl (fun ls hl => ?_)
  refine lv_iload_n (pc := 9) hx hb dX11_join_9 rfl (lv_at hl 2 rfl) ?_
  refine lv_if_eq (pc := 10) (tgt := 26) hx hb dX11_join_10 (by decide) (fun c_3 => ?_) (fun c_3 => ?_)
  · replace hw := hw.1 c_3
    refine lv_iload_n (pc := 26) hx hb dX11_join_26 rfl (lv_at hl 0 rfl) ?_
    refine hCallI (pc := 27) (wr := [oX11 q m_kinds m_weighings m_spanLow m_spanHigh m_events m_days m_edges m_crew m_breakages, aI K (q 29) 2 m_marked, aI K (q 30) 48 m_signs, aI K (q 31) 16 m_weights, aI K (q 32) 2304 m_joins_2]) (wsf := fun (u : Unit) => []) [] [0, 1, 2, 3, 4] (va_runS (As := [.int r_1]) (rest := []) ⟨hx, hb, hml, hown, hts⟩ (c_X11_pairsOf l G K tb q H.size _ r_1 hw) (va_cwS 1 hts gX11_join_X11_pairsOf rfl rfl rfl (by decide +kernel) ⟨Nat.le_of_ble_eq_true rfl, Nat.le_of_ble_eq_true rfl⟩) (hPreS hE hP hK hD hS hA [] (by decide) rfl rfl) rfl rfl hl.1 rfl (lv_room (Nat.le_of_ble_eq_true rfl)) dX11_join_27 ⟨Nat.zero_le _, Nat.zero_le _⟩) hP hD hS hA rfl rfl (by decide) (by decide) (fun r_4 u H locs hw hP hD hS => ?_)
    have hP : va_P G vwCl [oX11 q m_kinds m_weighings m_spanLow m_spanHigh m_events m_days m_edges m_crew m_breakages, aI K (q 29) 2 m_marked, aI K (q 30) 48 m_signs, aI K (q 31) 16 m_weights, aI K (q 32) 2304 m_joins_2] H := hP.sub [0, 1, 2, 3, 4] rfl
    have hD : va_D A [oX11 q m_kinds m_weighings m_spanLow m_spanHigh m_events m_days m_edges m_crew m_breakages, aI K (q 29) 2 m_marked, aI K (q 30) 48 m_signs, aI K (q 31) 16 m_weights, aI K (q 32) 2304 m_joins_2] := hD.sub [0, 1, 2, 3, 4] (by decide) rfl
    exact hRetI (S := (Nat → Int32)) m_joins_2 hx hb hr hlocks hQ hw hP hK hD hS dX11_join_30
  · replace hw := hw.2 c_3
    refine lv_iload_n (pc := 13) hx hb dX11_join_13 rfl (lv_at hl 0 rfl) ?_
    refine lv_sipush (pc := 14) (v := (1000 : Int32)) hx hb dX11_join_14 (by decide) ?_
    refine lv_iload_n (pc := 17) hx hb dX11_join_17 rfl (lv_at hl 0 rfl) ?_
    refine hCallI (pc := 18) (wr := [oX11 q m_kinds m_weighings m_spanLow m_spanHigh m_events m_days m_edges m_crew m_breakages, aI K (q 29) 2 m_marked, aI K (q 30) 48 m_signs, aI K (q 31) 16 m_weights, aI K (q 32) 2304 m_joins_2]) (wsf := fun (u : Unit) => []) [] [0, 1, 2, 3, 4] (va_runS (As := [.int r_1]) (rest := [.int (1000 : Int32), .int r_1]) ⟨hx, hb, hml, hown, hts⟩ (c_X11_pairsOf l G K tb q H.size _ r_1 hw) (va_cwS 1 hts gX11_join_X11_pairsOf rfl rfl rfl (by decide +kernel) ⟨Nat.le_of_ble_eq_true rfl, Nat.le_of_ble_eq_true rfl⟩) (hPreS hE hP hK hD hS hA [] (by decide) rfl rfl) rfl rfl hl.1 rfl (lv_room (Nat.le_of_ble_eq_true rfl)) dX11_join_18 ⟨Nat.zero_le _, Nat.zero_le _⟩) hP hD hS hA rfl rfl (by decide) (by decide) (fun r_5 u H locs hw hP hD hS => ?_)
    have hP : va_P G vwCl [oX11 q m_kinds m_weighings m_spanLow m_spanHigh m_events m_days m_edges m_crew m_breakages, aI K (q 29) 2 m_marked, aI K (q 30) 48 m_signs, aI K (q 31) 16 m_weights, aI K (q 32) 2304 m_joins_2] H := hP.sub [0, 1, 2, 3, 4] rfl
    have hD : va_D A [oX11 q m_kinds m_weighings m_spanLow m_spanHigh m_events m_days m_edges m_crew m_breakages, aI K (q 29) 2 m_marked, aI K (q 30) 48 m_signs, aI K (q 31) 16 m_weights, aI K (q 32) 2304 m_joins_2] := hD.sub [0, 1, 2, 3, 4] (by decide) rfl
    refine lv_imul (pc := 21) hx hb dX11_join_21 ?_
    refine lv_iadd (pc := 22) hx hb dX11_join_22 ?_
    refine lv_goto (pc := 23) (tgt := 30) hx hb dX11_join_23 (by decide) ?_
    exact hRetI (S := (Nat → Int32)) m_joins_2 hx hb hr hlocks hQ hw hP hK hD hS dX11_join_30
def P_X11_joined (post : Int32 → (Nat → Int32) → Prop) (p1 : Int32) (m_marked : Nat → Int32) (m_signs : Nat → Int32) (m_weights : Nat → Int32) (m_joins : Nat → Int32) : Prop :=
  ∀ (X38 : Int32 → Int32 → Int32 → Int32 → (Nat → Int32) → Prop),
  ∀ (X58 : Int32 → Int32 → Int32 → Int32 → Int32 → (Nat → Int32) → Prop),
  ∀ (X85 : Int32 → Int32 → Int32 → Int32 → Int32 → Int32 → (Nat → Int32) → Prop),
  (∀ (x2 : Int32) (x3 : Int32) (x4 : Int32) (x5 : Int32) (m_joins : Nat → Int32), (((p1 < x5 → post x4 m_joins) ∧ (¬ p1 < x5 → vp_in (1 : Int32) 2 ∧ ∀ y_8 : Int32, y_8 = ((m_marked (1 : Int32).toNatClampNeg) - (1 : Int32)) → X58 x2 x3 (-9 : Int32) x5 y_8 m_joins))) → X38 x2 x3 x4 x5 m_joins) →
  (∀ (x2 : Int32) (x3 : Int32) (x4 : Int32) (x5 : Int32) (x6 : Int32) (m_joins : Nat → Int32), (((x6 < (0 : Int32) → ∀ v_11 : Int32, v_11 = (if x4 = (-9 : Int32) then (0 : Int32) else ((1 : Int32) <<< (x4 &&& 31))) → ∀ y_12 : Int32, y_12 = (x3 ||| v_11) → vp_in ((((256 : Int32) * x5) + (256 : Int32)) + y_12) 2304 ∧ ∀ y_14 : Int32, y_14 = (m_joins ((((256 : Int32) * x5) + (256 : Int32)) + y_12).toNatClampNeg) → ∀ y_15 : Int32, y_15 = (x5 + (1 : Int32)) → X38 y_14 y_12 x4 y_15 m_joins) ∧ (¬ x6 < (0 : Int32) → ((((x3 >>> (x6 &&& 31)) &&& (1 : Int32)) = (0 : Int32) → P_X11_costOf (fun r_17 => X85 x2 x3 x4 x5 x6 r_17 m_joins) x5 x6 m_signs m_weights) ∧ (¬ ((x3 >>> (x6 &&& 31)) &&& (1 : Int32)) = (0 : Int32) → X85 x2 x3 x4 x5 x6 (-9 : Int32) m_joins))))) → X58 x2 x3 x4 x5 x6 m_joins) →
  (∀ (x2 : Int32) (x3 : Int32) (x4 : Int32) (x5 : Int32) (x6 : Int32) (s0 : Int32) (m_joins : Nat → Int32), (((s0 = (-9 : Int32) → True) ∧ (¬ s0 = (-9 : Int32) → (vp_in ((((256 : Int32) * x5) + (256 : Int32)) + (x3 ||| ((1 : Int32) <<< (x6 &&& 31)))) 2304 ∧ ((((s0 - (1000 : Int32)) + (m_joins ((((256 : Int32) * x5) + (256 : Int32)) + (x3 ||| ((1 : Int32) <<< (x6 &&& 31)))).toNatClampNeg)) = x2 → True) ∧ (¬ ((s0 - (1000 : Int32)) + (m_joins ((((256 : Int32) * x5) + (256 : Int32)) + (x3 ||| ((1 : Int32) <<< (x6 &&& 31)))).toNatClampNeg)) = x2 → True))))) ∧ ∀ v_21 : Int32, v_21 = (if s0 = (-9 : Int32) then x4 else (if ((s0 - (1000 : Int32)) + (m_joins ((((256 : Int32) * x5) + (256 : Int32)) + (x3 ||| ((1 : Int32) <<< (x6 &&& 31)))).toNatClampNeg)) = x2 then x6 else x4)) → ∀ y_22 : Int32, y_22 = (x6 + (-1 : Int32)) → X58 x2 x3 v_21 x5 y_22 m_joins) → X85 x2 x3 x4 x5 x6 s0 m_joins) →
  vp_in (0 : Int32) 2 ∧ P_X11_in (fun r_2 => ((r_2 = (0 : Int32) → post (-1 : Int32) m_joins) ∧ (¬ r_2 = (0 : Int32) → P_X11_layJoin (fun r_4 m_joins_5 => X38 r_4 (0 : Int32) (-9 : Int32) (0 : Int32) m_joins_5) (-9 : Int32) (-9 : Int32) m_marked m_signs m_weights m_joins))) p1.toInt64 (0 : Int64) ((m_marked (0 : Int32).toNatClampNeg) - (1 : Int32)).toInt64
abbrev rm_X11_joined : Room := { frames := 2, cells := 0, slots := 0, locals := 57 }
theorem iw_X11_joined_X11 : ∀ w ∈ wsX110, w ∈ wsX11_joined := by decide +kernel
set_option maxHeartbeats 4000000 in
set_option maxRecDepth 100000 in
theorem c_X11_joined (l : Launch) (G : va_G) (K : ClassId × ClassId × ClassId) (tb q : Nat → Nat) (sz : Nat) (m_kinds : Int32) (m_weighings : Int32) (m_spanLow : Int32) (m_spanHigh : Int32) (m_events : Int32) (m_days : Int32) (m_edges : Int32) (m_crew : Int32) (m_breakages : Int32) (post : Int32 → (Nat → Int32) → Prop) (p1 : Int32) (m_marked : Nat → Int32) (m_signs : Nat → Int32) (m_weights : Nat → Int32) (m_joins : Nat → Int32) (hw : P_X11_joined post p1 m_marked m_signs m_weights m_joins) : Met l yX11_joined wsX11_joined rm_X11_joined (va_Pc [.ref (q 0), .int p1] (hPre G K tb [oX11 q m_kinds m_weighings m_spanLow m_spanHigh m_events m_days m_edges m_crew m_breakages, aI K (q 29) 2 m_marked, aI K (q 30) 48 m_signs, aI K (q 31) 16 m_weights, aI K (q 32) 2304 m_joins] sz)) (va_Qi (fun (r : Int32) (u : (Nat → Int32)) => post r u) (fun u => hB G K (va_A [oX11 q m_kinds m_weighings m_spanLow m_spanHigh m_events m_days m_edges m_crew m_breakages, aI K (q 29) 2 m_marked, aI K (q 30) 48 m_signs, aI K (q 31) 16 m_weights, aI K (q 32) 2304 m_joins] sz) [oX11 q m_kinds m_weighings m_spanLow m_spanHigh m_events m_days m_edges m_crew m_breakages, aI K (q 29) 2 m_marked, aI K (q 30) 48 m_signs, aI K (q 31) 16 m_weights, aI K (q 32) 2304 u]) (va_A [oX11 q m_kinds m_weighings m_spanLow m_spanHigh m_events m_days m_edges m_crew m_breakages, aI K (q 29) 2 m_marked, aI K (q 30) 48 m_signs, aI K (q 31) 16 m_weights, aI K (q 32) 2304 m_joins] sz)) 0 0 (va_A [oX11 q m_kinds m_weighings m_spanLow m_spanHigh m_events m_days m_edges m_crew m_breakages, aI K (q 29) 2 m_marked, aI K (q 30) 48 m_signs, aI K (q 31) 16 m_weights, aI K (q 32) 2304 m_joins] sz) := by
  refine hMet (fun A => va_Qi (fun (r : Int32) (u : (Nat → Int32)) => post r u) (fun u => hB G K A [oX11 q m_kinds m_weighings m_spanLow m_spanHigh m_events m_days m_edges m_crew m_breakages, aI K (q 29) 2 m_marked, aI K (q 30) 48 m_signs, aI K (q 31) 16 m_weights, aI K (q 32) 2304 u]) A) (by decide) rfl (Nat.le_of_ble_eq_true rfl) ?_
  intro p e s m av below meth c A Q ls hx hb hr hml hts hown hlocks hnm hA hP hK hD hS hE hQ hl
  have hts : ∀ w ∈ wsX11_joined, w.before av s = true := hts
  have hown : s.vm.findClass RX11 = some m.cls := hown
  have hl : lv_has ls 8 [(0, .ref (q 0)), (1, .int p1)] := hl
  unfold P_X11_joined at hw
  replace hw := hw (fun (x2 : Int32) (x3 : Int32) (x4 : Int32) (x5 : Int32) (m_joins : Nat → Int32) => ∀ (H : Heap) (locs : List Loc) (ls : Array Slot), va_P G vwCl [oX11 q m_kinds m_weighings m_spanLow m_spanHigh m_events m_days m_edges m_crew m_breakages, aI K (q 29) 2 m_marked, aI K (q 30) 48 m_signs, aI K (q 31) 16 m_weights, aI K (q 32) 2304 m_joins] H → va_D A [oX11 q m_kinds m_weighings m_spanLow m_spanHigh m_events m_days m_edges m_crew m_breakages, aI K (q 29) 2 m_marked, aI K (q 30) 48 m_signs, aI K (q 31) 16 m_weights, aI K (q 32) 2304 m_joins] → va_S A s.heap H locs → lv_has ls 8 [(0, .ref (q 0)), (1, .int p1), (2, .int x2), (3, .int x3), (4, .int x4), (5, .int x5)] → W p l e rm_X11_joined s m av below meth c H locs 0 0 Q (F0 m 38 ls []))
  replace hw := hw (fun (x2 : Int32) (x3 : Int32) (x4 : Int32) (x5 : Int32) (x6 : Int32) (m_joins : Nat → Int32) => ∀ (H : Heap) (locs : List Loc) (ls : Array Slot), va_P G vwCl [oX11 q m_kinds m_weighings m_spanLow m_spanHigh m_events m_days m_edges m_crew m_breakages, aI K (q 29) 2 m_marked, aI K (q 30) 48 m_signs, aI K (q 31) 16 m_weights, aI K (q 32) 2304 m_joins] H → va_D A [oX11 q m_kinds m_weighings m_spanLow m_spanHigh m_events m_days m_edges m_crew m_breakages, aI K (q 29) 2 m_marked, aI K (q 30) 48 m_signs, aI K (q 31) 16 m_weights, aI K (q 32) 2304 m_joins] → va_S A s.heap H locs → lv_has ls 8 [(0, .ref (q 0)), (1, .int p1), (2, .int x2), (3, .int x3), (4, .int x4), (5, .int x5), (6, .int x6)] → W p l e rm_X11_joined s m av below meth c H locs 0 0 Q (F0 m 58 ls []))
  replace hw := hw (fun (x2 : Int32) (x3 : Int32) (x4 : Int32) (x5 : Int32) (x6 : Int32) (s0 : Int32) (m_joins : Nat → Int32) => ∀ (H : Heap) (locs : List Loc) (ls : Array Slot), va_P G vwCl [oX11 q m_kinds m_weighings m_spanLow m_spanHigh m_events m_days m_edges m_crew m_breakages, aI K (q 29) 2 m_marked, aI K (q 30) 48 m_signs, aI K (q 31) 16 m_weights, aI K (q 32) 2304 m_joins] H → va_D A [oX11 q m_kinds m_weighings m_spanLow m_spanHigh m_events m_days m_edges m_crew m_breakages, aI K (q 29) 2 m_marked, aI K (q 30) 48 m_signs, aI K (q 31) 16 m_weights, aI K (q 32) 2304 m_joins] → va_S A s.heap H locs → lv_has ls 8 [(0, .ref (q 0)), (1, .int p1), (2, .int x2), (3, .int x3), (4, .int x4), (5, .int x5), (6, .int x6)] → W p l e rm_X11_joined s m av below meth c H locs 0 0 Q (F0 m 85 ls [.int s0]))
  replace hw := hw (by
    intro x2 x3 x4 x5 m_joins hw H locs ls hP hD hS hl
    refine lv_iload (pc := 38) hx hb dX11_joined_38 (lv_at hl 5 rfl) ?_
    refine lv_iload_n (pc := 40) hx hb dX11_joined_40 rfl (lv_at hl 1 rfl) ?_
    refine lv_icmp_gt (pc := 41) (tgt := 184) hx hb dX11_joined_41 (by decide) (fun c_6 => ?_) (fun c_6 => ?_)
    · replace hw := hw.1 c_6
      refine lv_iload (pc := 184) hx hb dX11_joined_184 (lv_at hl 4 rfl) ?_
      exact hRetI (S := (Nat → Int32)) m_joins hx hb hr hlocks hQ hw hP hK hD hS dX11_joined_186
    · replace hw := hw.2 c_6
      refine lv_bipush (pc := 44) (v := (-9 : Int32)) hx hb dX11_joined_44 (by decide) ?_
      refine lv_istore (pc := 46) (lv' := [(4, .int (-9 : Int32)), (0, .ref (q 0)), (1, .int p1), (2, .int x2), (3, .int x3), (5, .int x5)]) hx hb dX11_joined_46 hl (by decide) rfl (fun ls hl => ?_)
      refine lv_aload_n (pc := 48) hx hb dX11_joined_48 rfl (lv_at hl 1 rfl) ?_
      refine va_get (pc := 49) (D := G) (ci := 11) (v := .ref (q 29)) (C := RX11) (T := TX11) (N := 45) hx hb hts iw_X11_joined_X11 hown hK hP 0 rfl rfl 36 (by decide) (hts _ (List.mem_of_getElem? (i := 1) rfl)) (fun _ h9 => h9) rfl dX11_joined_49 ?_
      refine lv_iconst (pc := 52) (v := (1 : Int32)) hx hb dX11_joined_52 (by decide) ?_
      obtain ⟨h_7, hw⟩ := hw
      refine va_iald (pc := 53) hx hb hK hP 1 0 rfl rfl h_7 dX11_joined_53 ?_
      refine lv_iconst (pc := 54) (v := (1 : Int32)) hx hb dX11_joined_54 (by decide) ?_
      refine lv_isub (pc := 55) hx hb dX11_joined_55 ?_
      refine lv_topi (fun y_8 ey_8 => ?_)
      replace hw := hw y_8 ey_8
      refine lv_istore (pc := 56) (lv' := [(6, .int y_8), (4, .int (-9 : Int32)), (0, .ref (q 0)), (1, .int p1), (2, .int x2), (3, .int x3), (5, .int x5)]) hx hb dX11_joined_56 hl (by decide) rfl (fun ls hl => ?_)
      exact hw _ _ _ hP hD hS (lv_sub hl [2, 3, 4, 5, 1, 6, 0] rfl))
  replace hw := hw (by
    intro x2 x3 x4 x5 x6 m_joins hw H locs ls hP hD hS hl
    refine lv_iload (pc := 58) hx hb dX11_joined_58 (lv_at hl 6 rfl) ?_
    refine lv_if_lt (pc := 60) (tgt := 142) hx hb dX11_joined_60 (by decide) (fun c_9 => ?_) (fun c_9 => ?_)
    · replace hw := hw.1 c_9
      refine lv_iload_n (pc := 142) hx hb dX11_joined_142 rfl (lv_at hl 3 rfl) ?_
      refine lv_iload (pc := 143) hx hb dX11_joined_143 (lv_at hl 4 rfl) ?_
      refine lv_bipush (pc := 145) (v := (-9 : Int32)) hx hb dX11_joined_145 (by decide) ?_
      have K_v_11 : ∀ v_11 : Int32, v_11 = (if x4 = (-9 : Int32) then (0 : Int32) else ((1 : Int32) <<< (x4 &&& 31))) → W p l e rm_X11_joined s m av below meth c H locs 0 0 Q (F0 m 158 ls [.int v_11, .int x3]) := by
        intro v_11 ev_11
        replace hw := hw v_11 ev_11
        refine lv_ior (pc := 158) hx hb dX11_joined_158 ?_
        refine lv_topi (fun y_12 ey_12 => ?_)
        replace hw := hw y_12 ey_12
        refine lv_istore_n (pc := 159) (lv' := [(3, .int y_12), (0, .ref (q 0)), (1, .int p1), (2, .int x2), (4, .int x4), (5, .int x5), (6, .int x6)]) hx hb dX11_joined_159 rfl hl (by decide) rfl (fun ls hl => ?_)
        refine lv_aload_n (pc := 160) hx hb dX11_joined_160 rfl (lv_at hl 1 rfl) ?_
        refine va_get (pc := 161) (D := G) (ci := 11) (v := .ref (q 32)) (C := RX11) (T := TX11) (N := 45) hx hb hts iw_X11_joined_X11 hown hK hP 0 rfl rfl 39 (by decide) (hts _ (List.mem_of_getElem? (i := 2) rfl)) (fun _ h9 => h9) rfl dX11_joined_161 ?_
        refine lv_sipush (pc := 164) (v := (256 : Int32)) hx hb dX11_joined_164 (by decide) ?_
        refine lv_iload (pc := 167) hx hb dX11_joined_167 (lv_at hl 5 rfl) ?_
        refine lv_imul (pc := 169) hx hb dX11_joined_169 ?_
        refine lv_sipush (pc := 170) (v := (256 : Int32)) hx hb dX11_joined_170 (by decide) ?_
        refine lv_iadd (pc := 173) hx hb dX11_joined_173 ?_
        refine lv_iload_n (pc := 174) hx hb dX11_joined_174 rfl (lv_at hl 0 rfl) ?_
        refine lv_iadd (pc := 175) hx hb dX11_joined_175 ?_
        obtain ⟨h_13, hw⟩ := hw
        refine va_iald (pc := 176) hx hb hK hP 4 0 rfl rfl h_13 dX11_joined_176 ?_
        refine lv_topi (fun y_14 ey_14 => ?_)
        replace hw := hw y_14 ey_14
        refine lv_istore_n (pc := 177) (lv' := [(2, .int y_14), (3, .int y_12), (0, .ref (q 0)), (1, .int p1), (4, .int x4), (5, .int x5), (6, .int x6)]) hx hb dX11_joined_177 rfl hl (by decide) rfl (fun ls hl => ?_)
        obtain ⟨y_15, ey_15⟩ : ∃ z : Int32, z = (x5 + (1 : Int32)) := ⟨_, rfl⟩
        replace hw := hw y_15 ey_15
        refine lv_iinc (pc := 178) (v := y_15) (lv' := [(5, .int y_15), (2, .int y_14), (3, .int y_12), (0, .ref (q 0)), (1, .int p1), (4, .int x4), (6, .int x6)]) hx hb dX11_joined_178 hl (k := 5) rfl (by rw [ey_15]; rfl) (by decide) rfl (fun ls hl => ?_)
        refine lv_goto (pc := 181) (tgt := 38) hx hb dX11_joined_181 (by decide) ?_
        exact hw _ _ _ hP hD hS (lv_sub hl [3, 4, 1, 2, 5, 0] rfl)
      refine lv_icmp_ne (pc := 147) (tgt := 154) hx hb dX11_joined_147 (by decide) (fun c_10 => ?_) (fun c_10 => ?_)
      · skip
        refine lv_iconst (pc := 154) (v := (1 : Int32)) hx hb dX11_joined_154 (by decide) ?_
        refine lv_iload (pc := 155) hx hb dX11_joined_155 (lv_at hl 4 rfl) ?_
        refine lv_ishl (pc := 157) hx hb dX11_joined_157 ?_
        exact K_v_11 _ (by rw [if_neg c_10])
      · skip
        refine lv_iconst (pc := 150) (v := (0 : Int32)) hx hb dX11_joined_150 (by decide) ?_
        refine lv_goto (pc := 151) (tgt := 158) hx hb dX11_joined_151 (by decide) ?_
        exact K_v_11 _ (by rw [if_pos c_10])
    · replace hw := hw.2 c_9
      refine lv_iload_n (pc := 63) hx hb dX11_joined_63 rfl (lv_at hl 3 rfl) ?_
      refine lv_iload (pc := 64) hx hb dX11_joined_64 (lv_at hl 6 rfl) ?_
      refine lv_ishr (pc := 66) hx hb dX11_joined_66 ?_
      refine lv_iconst (pc := 67) (v := (1 : Int32)) hx hb dX11_joined_67 (by decide) ?_
      refine lv_iand (pc := 68) hx hb dX11_joined_68 ?_
      refine lv_if_ne (pc := 69) (tgt := 83) hx hb dX11_joined_69 (by decide) (fun c_16 => ?_) (fun c_16 => ?_)
      · replace hw := hw.2 c_16
        refine lv_bipush (pc := 83) (v := (-9 : Int32)) hx hb dX11_joined_83 (by decide) ?_
        exact hw _ _ _ hP hD hS (lv_sub hl [0, 1, 2, 3, 4, 5, 6] rfl)
      · replace hw := hw.1 c_16
        refine lv_aload_n (pc := 72) hx hb dX11_joined_72 rfl (lv_at hl 0 rfl) ?_
        refine lv_iload (pc := 73) hx hb dX11_joined_73 (lv_at hl 5 rfl) ?_
        refine lv_iload (pc := 75) hx hb dX11_joined_75 (lv_at hl 6 rfl) ?_
        refine hCallI (pc := 77) (wr := [aI K (q 29) 2 m_marked, aI K (q 32) 2304 m_joins]) (wsf := fun (u : Unit) => [oX11 q m_kinds m_weighings m_spanLow m_spanHigh m_events m_days m_edges m_crew m_breakages, aI K (q 30) 48 m_signs, aI K (q 31) 16 m_weights]) [0, 2, 3] [1, 4] (va_runV (As := [.int x5, .int x6]) (rest := []) ⟨hx, hb, hml, hown, hts⟩ (c_X11_costOf l G K tb q H.size m_kinds m_weighings m_spanLow m_spanHigh m_events m_days m_edges m_crew m_breakages _ x5 x6 m_signs m_weights hw) (cwV 2 hts gX11_joined_X11_costOf rfl rfl rfl (by decide +kernel) ⟨Nat.le_of_ble_eq_true rfl, Nat.le_of_ble_eq_true rfl⟩) (hPreV hE hP hK hD hS hA [0, 2, 3] (by decide) rfl rfl rfl rfl (q0 := 0) (ci := 11) rfl) rfl rfl hl.1 rfl (lv_room (Nat.le_of_ble_eq_true rfl)) dX11_joined_77 ⟨Nat.zero_le _, Nat.zero_le _⟩) hP hD hS hA rfl rfl (by decide) (by decide) (fun r_17 u H locs hw hP hD hS => ?_)
        have hP : va_P G vwCl [oX11 q m_kinds m_weighings m_spanLow m_spanHigh m_events m_days m_edges m_crew m_breakages, aI K (q 29) 2 m_marked, aI K (q 30) 48 m_signs, aI K (q 31) 16 m_weights, aI K (q 32) 2304 m_joins] H := hP.sub [2, 0, 3, 4, 1] rfl
        have hD : va_D A [oX11 q m_kinds m_weighings m_spanLow m_spanHigh m_events m_days m_edges m_crew m_breakages, aI K (q 29) 2 m_marked, aI K (q 30) 48 m_signs, aI K (q 31) 16 m_weights, aI K (q 32) 2304 m_joins] := hD.sub [2, 0, 3, 4, 1] (by decide) rfl
        refine lv_goto (pc := 80) (tgt := 85) hx hb dX11_joined_80 (by decide) ?_
        exact hw _ _ _ hP hD hS (lv_sub hl [0, 1, 2, 3, 4, 5, 6] rfl))
  replace hw := hw (by
    intro x2 x3 x4 x5 x6 s0 m_joins hw H locs ls hP hD hS hl
    refine lv_istore (pc := 85) (lv' := [(7, .int s0), (0, .ref (q 0)), (1, .int p1), (2, .int x2), (3, .int x3), (4, .int x4), (5, .int x5), (6, .int x6)]) hx hb dX11_joined_85 hl (by decide) rfl (fun ls hl => ?_)
    refine lv_iload (pc := 87) hx hb dX11_joined_87 (lv_at hl 0 rfl) ?_
    refine lv_bipush (pc := 89) (v := (-9 : Int32)) hx hb dX11_joined_89 (by decide) ?_
    obtain ⟨hsf, hw⟩ := hw
    have K_v_21 : ∀ v_21 : Int32, v_21 = (if s0 = (-9 : Int32) then x4 else (if ((s0 - (1000 : Int32)) + (m_joins ((((256 : Int32) * x5) + (256 : Int32)) + (x3 ||| ((1 : Int32) <<< (x6 &&& 31)))).toNatClampNeg)) = x2 then x6 else x4)) → W p l e rm_X11_joined s m av below meth c H locs 0 0 Q (F0 m 134 ls [.int v_21]) := by
      intro v_21 ev_21
      replace hw := hw v_21 ev_21
      refine lv_istore (pc := 134) (lv' := [(4, .int v_21), (7, .int s0), (0, .ref (q 0)), (1, .int p1), (2, .int x2), (3, .int x3), (5, .int x5), (6, .int x6)]) hx hb dX11_joined_134 hl (by decide) rfl (fun ls hl => ?_)
      obtain ⟨y_22, ey_22⟩ : ∃ z : Int32, z = (x6 + (-1 : Int32)) := ⟨_, rfl⟩
      replace hw := hw y_22 ey_22
      refine lv_iinc (pc := 136) (v := y_22) (lv' := [(6, .int y_22), (4, .int v_21), (7, .int s0), (0, .ref (q 0)), (1, .int p1), (2, .int x2), (3, .int x3), (5, .int x5)]) hx hb dX11_joined_136 hl (k := 7) rfl (by rw [ey_22]; rfl) (by decide) rfl (fun ls hl => ?_)
      refine lv_goto (pc := 139) (tgt := 58) hx hb dX11_joined_139 (by decide) ?_
      exact hw _ _ _ hP hD hS (lv_sub hl [3, 4, 5, 6, 1, 7, 0] rfl)
    refine lv_icmp_eq (pc := 91) (tgt := 132) hx hb dX11_joined_91 (by decide) (fun c_18 => ?_) (fun c_18 => ?_)
    · replace hsf := hsf.1 c_18
      refine lv_iload (pc := 132) hx hb dX11_joined_132 (lv_at hl 5 rfl) ?_
      exact K_v_21 _ (by rw [if_pos c_18])
    · replace hsf := hsf.2 c_18
      refine lv_iload (pc := 94) hx hb dX11_joined_94 (lv_at hl 0 rfl) ?_
      refine lv_sipush (pc := 96) (v := (1000 : Int32)) hx hb dX11_joined_96 (by decide) ?_
      refine lv_isub (pc := 99) hx hb dX11_joined_99 ?_
      refine lv_aload_n (pc := 100) hx hb dX11_joined_100 rfl (lv_at hl 1 rfl) ?_
      refine va_get (pc := 101) (D := G) (ci := 11) (v := .ref (q 32)) (C := RX11) (T := TX11) (N := 45) hx hb hts iw_X11_joined_X11 hown hK hP 0 rfl rfl 39 (by decide) (hts _ (List.mem_of_getElem? (i := 2) rfl)) (fun _ h9 => h9) rfl dX11_joined_101 ?_
      refine lv_sipush (pc := 104) (v := (256 : Int32)) hx hb dX11_joined_104 (by decide) ?_
      refine lv_iload (pc := 107) hx hb dX11_joined_107 (lv_at hl 6 rfl) ?_
      refine lv_imul (pc := 109) hx hb dX11_joined_109 ?_
      refine lv_sipush (pc := 110) (v := (256 : Int32)) hx hb dX11_joined_110 (by decide) ?_
      refine lv_iadd (pc := 113) hx hb dX11_joined_113 ?_
      refine lv_iload_n (pc := 114) hx hb dX11_joined_114 rfl (lv_at hl 4 rfl) ?_
      refine lv_iconst (pc := 115) (v := (1 : Int32)) hx hb dX11_joined_115 (by decide) ?_
      refine lv_iload (pc := 116) hx hb dX11_joined_116 (lv_at hl 7 rfl) ?_
      refine lv_ishl (pc := 118) hx hb dX11_joined_118 ?_
      refine lv_ior (pc := 119) hx hb dX11_joined_119 ?_
      refine lv_iadd (pc := 120) hx hb dX11_joined_120 ?_
      obtain ⟨h_19, hsf⟩ := hsf
      refine va_iald (pc := 121) hx hb hK hP 4 0 rfl rfl h_19 dX11_joined_121 ?_
      refine lv_iadd (pc := 122) hx hb dX11_joined_122 ?_
      refine lv_iload_n (pc := 123) hx hb dX11_joined_123 rfl (lv_at hl 3 rfl) ?_
      refine lv_icmp_ne (pc := 124) (tgt := 132) hx hb dX11_joined_124 (by decide) (fun c_20 => ?_) (fun c_20 => ?_)
      · replace hsf := hsf.2 c_20
        refine lv_iload (pc := 132) hx hb dX11_joined_132 (lv_at hl 5 rfl) ?_
        exact K_v_21 _ (by rw [if_neg c_18, if_neg c_20])
      · replace hsf := hsf.1 c_20
        refine lv_iload (pc := 127) hx hb dX11_joined_127 (lv_at hl 7 rfl) ?_
        refine lv_goto (pc := 129) (tgt := 134) hx hb dX11_joined_129 (by decide) ?_
        exact K_v_21 _ (by rw [if_neg c_18, if_pos c_20]))
  refine lv_iload_n (pc := 0) hx hb dX11_joined_0 rfl (lv_at hl 1 rfl) ?_
  refine lv_i2l (pc := 1) hx hb dX11_joined_1 rfl ?_
  refine lv_lconst (pc := 2) (v := (0 : Int64)) hx hb dX11_joined_2 (by decide) ?_
  refine lv_aload_n (pc := 3) hx hb dX11_joined_3 rfl (lv_at hl 0 rfl) ?_
  refine va_get (pc := 4) (D := G) (ci := 11) (v := .ref (q 29)) (C := RX11) (T := TX11) (N := 45) hx hb hts iw_X11_joined_X11 hown hK hP 0 rfl rfl 36 (by decide) (hts _ (List.mem_of_getElem? (i := 1) rfl)) (fun _ h9 => h9) rfl dX11_joined_4 ?_
  refine lv_iconst (pc := 7) (v := (0 : Int32)) hx hb dX11_joined_7 (by decide) ?_
  obtain ⟨h_1, hw⟩ := hw
  refine va_iald (pc := 8) hx hb hK hP 1 0 rfl rfl h_1 dX11_joined_8 ?_
  refine lv_iconst (pc := 9) (v := (1 : Int32)) hx hb dX11_joined_9 (by decide) ?_
  refine lv_isub (pc := 10) hx hb dX11_joined_10 ?_
  refine lv_i2l (pc := 11) hx hb dX11_joined_11 rfl ?_
  refine hCallI (pc := 12) (wr := [oX11 q m_kinds m_weighings m_spanLow m_spanHigh m_events m_days m_edges m_crew m_breakages, aI K (q 29) 2 m_marked, aI K (q 30) 48 m_signs, aI K (q 31) 16 m_weights, aI K (q 32) 2304 m_joins]) (wsf := fun (u : Unit) => []) [] [0, 1, 2, 3, 4] (va_runS (As := [.long p1.toInt64, .long (0 : Int64), .long ((m_marked (0 : Int32).toNatClampNeg) - (1 : Int32)).toInt64]) (rest := []) ⟨hx, hb, hml, hown, hts⟩ (c_X11_in l G K tb q s.heap.size _ p1.toInt64 (0 : Int64) ((m_marked (0 : Int32).toNatClampNeg) - (1 : Int32)).toInt64 hw) (va_cwS 3 hts gX11_joined_X11_in rfl rfl rfl (by decide +kernel) ⟨Nat.le_of_ble_eq_true rfl, Nat.le_of_ble_eq_true rfl⟩) (hPreS hE hP hK hD hS hA [] (by decide) rfl rfl) rfl rfl hl.1 rfl (lv_room (Nat.le_of_ble_eq_true rfl)) dX11_joined_12 ⟨Nat.zero_le _, Nat.zero_le _⟩) hP hD hS hA rfl rfl (by decide) (by decide) (fun r_2 u H locs hw hP hD hS => ?_)
  have hP : va_P G vwCl [oX11 q m_kinds m_weighings m_spanLow m_spanHigh m_events m_days m_edges m_crew m_breakages, aI K (q 29) 2 m_marked, aI K (q 30) 48 m_signs, aI K (q 31) 16 m_weights, aI K (q 32) 2304 m_joins] H := hP.sub [0, 1, 2, 3, 4] rfl
  have hD : va_D A [oX11 q m_kinds m_weighings m_spanLow m_spanHigh m_events m_days m_edges m_crew m_breakages, aI K (q 29) 2 m_marked, aI K (q 30) 48 m_signs, aI K (q 31) 16 m_weights, aI K (q 32) 2304 m_joins] := hD.sub [0, 1, 2, 3, 4] (by decide) rfl
  refine lv_if_ne (pc := 15) (tgt := 20) hx hb dX11_joined_15 (by decide) (fun c_3 => ?_) (fun c_3 => ?_)
  · replace hw := hw.2 c_3
    refine lv_aload_n (pc := 20) hx hb dX11_joined_20 rfl (lv_at hl 0 rfl) ?_
    refine lv_bipush (pc := 21) (v := (-9 : Int32)) hx hb dX11_joined_21 (by decide) ?_
    refine lv_bipush (pc := 23) (v := (-9 : Int32)) hx hb dX11_joined_23 (by decide) ?_
    refine hCallI (pc := 25) (wr := []) (wsf := fun (u : (Nat → Int32)) => [oX11 q m_kinds m_weighings m_spanLow m_spanHigh m_events m_days m_edges m_crew m_breakages, aI K (q 29) 2 m_marked, aI K (q 30) 48 m_signs, aI K (q 31) 16 m_weights, aI K (q 32) 2304 u]) [0, 1, 2, 3, 4] [] (va_runV (As := [.int (-9 : Int32), .int (-9 : Int32)]) (rest := []) ⟨hx, hb, hml, hown, hts⟩ (c_X11_layJoin l G K tb q H.size m_kinds m_weighings m_spanLow m_spanHigh m_events m_days m_edges m_crew m_breakages _ (-9 : Int32) (-9 : Int32) m_marked m_signs m_weights m_joins hw) (cwV 2 hts gX11_joined_X11_layJoin rfl rfl rfl (by decide +kernel) ⟨Nat.le_of_ble_eq_true rfl, Nat.le_of_ble_eq_true rfl⟩) (hPreV hE hP hK hD hS hA [0, 1, 2, 3, 4] (by decide) rfl rfl rfl rfl (q0 := 0) (ci := 11) rfl) rfl rfl hl.1 rfl (lv_room (Nat.le_of_ble_eq_true rfl)) dX11_joined_25 ⟨Nat.zero_le _, Nat.zero_le _⟩) hP hD hS hA rfl rfl (by decide) (by decide) (fun r_4 u H locs hw hP hD hS => ?_)
    obtain ⟨m_joins_5, rfl⟩ : ∃ z, z = u := ⟨_, rfl⟩
    have hP : va_P G vwCl [oX11 q m_kinds m_weighings m_spanLow m_spanHigh m_events m_days m_edges m_crew m_breakages, aI K (q 29) 2 m_marked, aI K (q 30) 48 m_signs, aI K (q 31) 16 m_weights, aI K (q 32) 2304 m_joins_5] H := hP.sub [0, 1, 2, 3, 4] rfl
    have hD : va_D A [oX11 q m_kinds m_weighings m_spanLow m_spanHigh m_events m_days m_edges m_crew m_breakages, aI K (q 29) 2 m_marked, aI K (q 30) 48 m_signs, aI K (q 31) 16 m_weights, aI K (q 32) 2304 m_joins_5] := hD.sub [0, 1, 2, 3, 4] (by decide) rfl
    refine lv_istore_n (pc := 28) (lv' := [(2, .int r_4), (0, .ref (q 0)), (1, .int p1)]) hx hb dX11_joined_28 rfl hl (by decide) rfl (fun ls hl => ?_)
    refine lv_iconst (pc := 29) (v := (0 : Int32)) hx hb dX11_joined_29 (by decide) ?_
    refine lv_istore_n (pc := 30) (lv' := [(3, .int (0 : Int32)), (2, .int r_4), (0, .ref (q 0)), (1, .int p1)]) hx hb dX11_joined_30 rfl hl (by decide) rfl (fun ls hl => ?_)
    refine lv_bipush (pc := 31) (v := (-9 : Int32)) hx hb dX11_joined_31 (by decide) ?_
    refine lv_istore (pc := 33) (lv' := [(4, .int (-9 : Int32)), (3, .int (0 : Int32)), (2, .int r_4), (0, .ref (q 0)), (1, .int p1)]) hx hb dX11_joined_33 hl (by decide) rfl (fun ls hl => ?_)
    refine lv_iconst (pc := 35) (v := (0 : Int32)) hx hb dX11_joined_35 (by decide) ?_
    refine lv_istore (pc := 36) (lv' := [(5, .int (0 : Int32)), (4, .int (-9 : Int32)), (3, .int (0 : Int32)), (2, .int r_4), (0, .ref (q 0)), (1, .int p1)]) hx hb dX11_joined_36 hl (by decide) rfl (fun ls hl => ?_)
    exact hw _ _ _ hP hD hS (lv_sub hl [4, 5, 3, 2, 1, 0] rfl)
  · replace hw := hw.1 c_3
    refine lv_iconst (pc := 18) (v := (-1 : Int32)) hx hb dX11_joined_18 (by decide) ?_
    exact hRetI (S := (Nat → Int32)) m_joins hx hb hr hlocks hQ hw hP hK hD hS dX11_joined_19
def P_X11_certain (post : Int32 → (Nat → Int32) → Prop) (p1 : Int32) (m_marked : Nat → Int32) (m_signs : Nat → Int32) (m_weights : Nat → Int32) (m_joins : Nat → Int32) : Prop :=
  ∀ (X34 : Int32 → Int32 → Int32 → (Nat → Int32) → Prop),
  (∀ (x2 : Int32) (x3 : Int32) (x4 : Int32) (m_joins : Nat → Int32), ((((8 : Int32) < x4 → ∀ v_8 : Int32, v_8 = (if x3 = (1 : Int32) then (1 : Int32) else (0 : Int32)) → post v_8 m_joins) ∧ (¬ (8 : Int32) < x4 → ((x4 = (8 : Int32) → P_X11_layJoin (fun r_10 m_joins_11 => ∀ v_13 : Int32, v_13 = (if r_10 = x2 then (1 : Int32) else (0 : Int32)) → ∀ y_14 : Int32, y_14 = (x3 + v_13) → ∀ y_15 : Int32, y_15 = (x4 + (1 : Int32)) → X34 x2 y_14 y_15 m_joins_11) p1 x4 m_marked m_signs m_weights m_joins) ∧ (¬ x4 = (8 : Int32) → vp_in (1 : Int32) 2 ∧ (((m_marked (1 : Int32).toNatClampNeg) ≤ x4 → ∀ y_18 : Int32, y_18 = (x3 + (0 : Int32)) → ∀ y_19 : Int32, y_19 = (x4 + (1 : Int32)) → X34 x2 y_18 y_19 m_joins) ∧ (¬ (m_marked (1 : Int32).toNatClampNeg) ≤ x4 → P_X11_layJoin (fun r_20 m_joins_21 => ∀ v_23 : Int32, v_23 = (if r_20 = x2 then (1 : Int32) else (0 : Int32)) → ∀ y_24 : Int32, y_24 = (x3 + v_23) → ∀ y_25 : Int32, y_25 = (x4 + (1 : Int32)) → X34 x2 y_24 y_25 m_joins_21) p1 x4 m_marked m_signs m_weights m_joins))))))) → X34 x2 x3 x4 m_joins) →
  vp_in (0 : Int32) 2 ∧ P_X11_in (fun r_2 => ((r_2 = (0 : Int32) → post (-1 : Int32) m_joins) ∧ (¬ r_2 = (0 : Int32) → P_X11_layJoin (fun r_4 m_joins_5 => X34 r_4 (0 : Int32) (0 : Int32) m_joins_5) (-9 : Int32) (-9 : Int32) m_marked m_signs m_weights m_joins))) p1.toInt64 (0 : Int64) ((m_marked (0 : Int32).toNatClampNeg) - (1 : Int32)).toInt64
abbrev rm_X11_certain : Room := { frames := 2, cells := 0, slots := 0, locals := 57 }
theorem iw_X11_certain_X11 : ∀ w ∈ wsX110, w ∈ wsX11_certain := by decide +kernel
set_option maxHeartbeats 4000000 in
set_option maxRecDepth 100000 in
theorem c_X11_certain (l : Launch) (G : va_G) (K : ClassId × ClassId × ClassId) (tb q : Nat → Nat) (sz : Nat) (m_kinds : Int32) (m_weighings : Int32) (m_spanLow : Int32) (m_spanHigh : Int32) (m_events : Int32) (m_days : Int32) (m_edges : Int32) (m_crew : Int32) (m_breakages : Int32) (post : Int32 → (Nat → Int32) → Prop) (p1 : Int32) (m_marked : Nat → Int32) (m_signs : Nat → Int32) (m_weights : Nat → Int32) (m_joins : Nat → Int32) (hw : P_X11_certain post p1 m_marked m_signs m_weights m_joins) : Met l yX11_certain wsX11_certain rm_X11_certain (va_Pc [.ref (q 0), .int p1] (hPre G K tb [oX11 q m_kinds m_weighings m_spanLow m_spanHigh m_events m_days m_edges m_crew m_breakages, aI K (q 29) 2 m_marked, aI K (q 30) 48 m_signs, aI K (q 31) 16 m_weights, aI K (q 32) 2304 m_joins] sz)) (va_Qi (fun (r : Int32) (u : (Nat → Int32)) => post r u) (fun u => hB G K (va_A [oX11 q m_kinds m_weighings m_spanLow m_spanHigh m_events m_days m_edges m_crew m_breakages, aI K (q 29) 2 m_marked, aI K (q 30) 48 m_signs, aI K (q 31) 16 m_weights, aI K (q 32) 2304 m_joins] sz) [oX11 q m_kinds m_weighings m_spanLow m_spanHigh m_events m_days m_edges m_crew m_breakages, aI K (q 29) 2 m_marked, aI K (q 30) 48 m_signs, aI K (q 31) 16 m_weights, aI K (q 32) 2304 u]) (va_A [oX11 q m_kinds m_weighings m_spanLow m_spanHigh m_events m_days m_edges m_crew m_breakages, aI K (q 29) 2 m_marked, aI K (q 30) 48 m_signs, aI K (q 31) 16 m_weights, aI K (q 32) 2304 m_joins] sz)) 0 0 (va_A [oX11 q m_kinds m_weighings m_spanLow m_spanHigh m_events m_days m_edges m_crew m_breakages, aI K (q 29) 2 m_marked, aI K (q 30) 48 m_signs, aI K (q 31) 16 m_weights, aI K (q 32) 2304 m_joins] sz) := by
  refine hMet (fun A => va_Qi (fun (r : Int32) (u : (Nat → Int32)) => post r u) (fun u => hB G K A [oX11 q m_kinds m_weighings m_spanLow m_spanHigh m_events m_days m_edges m_crew m_breakages, aI K (q 29) 2 m_marked, aI K (q 30) 48 m_signs, aI K (q 31) 16 m_weights, aI K (q 32) 2304 u]) A) (by decide) rfl (Nat.le_of_ble_eq_true rfl) ?_
  intro p e s m av below meth c A Q ls hx hb hr hml hts hown hlocks hnm hA hP hK hD hS hE hQ hl
  have hts : ∀ w ∈ wsX11_certain, w.before av s = true := hts
  have hown : s.vm.findClass RX11 = some m.cls := hown
  have hl : lv_has ls 5 [(0, .ref (q 0)), (1, .int p1)] := hl
  unfold P_X11_certain at hw
  replace hw := hw (fun (x2 : Int32) (x3 : Int32) (x4 : Int32) (m_joins : Nat → Int32) => ∀ (H : Heap) (locs : List Loc) (ls : Array Slot), va_P G vwCl [oX11 q m_kinds m_weighings m_spanLow m_spanHigh m_events m_days m_edges m_crew m_breakages, aI K (q 29) 2 m_marked, aI K (q 30) 48 m_signs, aI K (q 31) 16 m_weights, aI K (q 32) 2304 m_joins] H → va_D A [oX11 q m_kinds m_weighings m_spanLow m_spanHigh m_events m_days m_edges m_crew m_breakages, aI K (q 29) 2 m_marked, aI K (q 30) 48 m_signs, aI K (q 31) 16 m_weights, aI K (q 32) 2304 m_joins] → va_S A s.heap H locs → lv_has ls 5 [(0, .ref (q 0)), (1, .int p1), (2, .int x2), (3, .int x3), (4, .int x4)] → W p l e rm_X11_certain s m av below meth c H locs 0 0 Q (F0 m 34 ls []))
  replace hw := hw (by
    intro x2 x3 x4 m_joins hw H locs ls hP hD hS hl
    refine lv_iload (pc := 34) hx hb dX11_certain_34 (lv_at hl 4 rfl) ?_
    refine lv_bipush (pc := 36) (v := (8 : Int32)) hx hb dX11_certain_36 (by decide) ?_
    refine lv_icmp_gt (pc := 38) (tgt := 84) hx hb dX11_certain_38 (by decide) (fun c_6 => ?_) (fun c_6 => ?_)
    · replace hw := hw.1 c_6
      refine lv_iload_n (pc := 84) hx hb dX11_certain_84 rfl (lv_at hl 3 rfl) ?_
      refine lv_iconst (pc := 85) (v := (1 : Int32)) hx hb dX11_certain_85 (by decide) ?_
      have K_v_8 : ∀ v_8 : Int32, v_8 = (if x3 = (1 : Int32) then (1 : Int32) else (0 : Int32)) → W p l e rm_X11_certain s m av below meth c H locs 0 0 Q (F0 m 94 ls [.int v_8]) := by
        intro v_8 ev_8
        replace hw := hw v_8 ev_8
        exact hRetI (S := (Nat → Int32)) m_joins hx hb hr hlocks hQ hw hP hK hD hS dX11_certain_94
      refine lv_icmp_ne (pc := 86) (tgt := 93) hx hb dX11_certain_86 (by decide) (fun c_7 => ?_) (fun c_7 => ?_)
      · skip
        refine lv_iconst (pc := 93) (v := (0 : Int32)) hx hb dX11_certain_93 (by decide) ?_
        exact K_v_8 _ (by rw [if_neg c_7])
      · skip
        refine lv_iconst (pc := 89) (v := (1 : Int32)) hx hb dX11_certain_89 (by decide) ?_
        refine lv_goto (pc := 90) (tgt := 94) hx hb dX11_certain_90 (by decide) ?_
        exact K_v_8 _ (by rw [if_pos c_7])
    · replace hw := hw.2 c_6
      refine lv_iload_n (pc := 41) hx hb dX11_certain_41 rfl (lv_at hl 3 rfl) ?_
      refine lv_iload (pc := 42) hx hb dX11_certain_42 (lv_at hl 4 rfl) ?_
      refine lv_bipush (pc := 44) (v := (8 : Int32)) hx hb dX11_certain_44 (by decide) ?_
      refine lv_icmp_eq (pc := 46) (tgt := 60) hx hb dX11_certain_46 (by decide) (fun c_9 => ?_) (fun c_9 => ?_)
      · replace hw := hw.1 c_9
        refine lv_aload_n (pc := 60) hx hb dX11_certain_60 rfl (lv_at hl 0 rfl) ?_
        refine lv_iload_n (pc := 61) hx hb dX11_certain_61 rfl (lv_at hl 1 rfl) ?_
        refine lv_iload (pc := 62) hx hb dX11_certain_62 (lv_at hl 4 rfl) ?_
        refine hCallI (pc := 64) (wr := []) (wsf := fun (u : (Nat → Int32)) => [oX11 q m_kinds m_weighings m_spanLow m_spanHigh m_events m_days m_edges m_crew m_breakages, aI K (q 29) 2 m_marked, aI K (q 30) 48 m_signs, aI K (q 31) 16 m_weights, aI K (q 32) 2304 u]) [0, 1, 2, 3, 4] [] (va_runV (As := [.int p1, .int x4]) (rest := [.int x3]) ⟨hx, hb, hml, hown, hts⟩ (c_X11_layJoin l G K tb q H.size m_kinds m_weighings m_spanLow m_spanHigh m_events m_days m_edges m_crew m_breakages _ p1 x4 m_marked m_signs m_weights m_joins hw) (cwV 2 hts gX11_certain_X11_layJoin rfl rfl rfl (by decide +kernel) ⟨Nat.le_of_ble_eq_true rfl, Nat.le_of_ble_eq_true rfl⟩) (hPreV hE hP hK hD hS hA [0, 1, 2, 3, 4] (by decide) rfl rfl rfl rfl (q0 := 0) (ci := 11) rfl) rfl rfl hl.1 rfl (lv_room (Nat.le_of_ble_eq_true rfl)) dX11_certain_64 ⟨Nat.zero_le _, Nat.zero_le _⟩) hP hD hS hA rfl rfl (by decide) (by decide) (fun r_10 u H locs hw hP hD hS => ?_)
        obtain ⟨m_joins_11, rfl⟩ : ∃ z, z = u := ⟨_, rfl⟩
        have hP : va_P G vwCl [oX11 q m_kinds m_weighings m_spanLow m_spanHigh m_events m_days m_edges m_crew m_breakages, aI K (q 29) 2 m_marked, aI K (q 30) 48 m_signs, aI K (q 31) 16 m_weights, aI K (q 32) 2304 m_joins_11] H := hP.sub [0, 1, 2, 3, 4] rfl
        have hD : va_D A [oX11 q m_kinds m_weighings m_spanLow m_spanHigh m_events m_days m_edges m_crew m_breakages, aI K (q 29) 2 m_marked, aI K (q 30) 48 m_signs, aI K (q 31) 16 m_weights, aI K (q 32) 2304 m_joins_11] := hD.sub [0, 1, 2, 3, 4] (by decide) rfl
        refine lv_iload_n (pc := 67) hx hb dX11_certain_67 rfl (lv_at hl 2 rfl) ?_
        have K_v_13 : ∀ v_13 : Int32, v_13 = (if r_10 = x2 then (1 : Int32) else (0 : Int32)) → W p l e rm_X11_certain s m av below meth c H locs 0 0 Q (F0 m 76 ls [.int v_13, .int x3]) := by
          intro v_13 ev_13
          replace hw := hw v_13 ev_13
          refine lv_iadd (pc := 76) hx hb dX11_certain_76 ?_
          refine lv_topi (fun y_14 ey_14 => ?_)
          replace hw := hw y_14 ey_14
          refine lv_istore_n (pc := 77) (lv' := [(3, .int y_14), (0, .ref (q 0)), (1, .int p1), (2, .int x2), (4, .int x4)]) hx hb dX11_certain_77 rfl hl (by decide) rfl (fun ls hl => ?_)
          obtain ⟨y_15, ey_15⟩ : ∃ z : Int32, z = (x4 + (1 : Int32)) := ⟨_, rfl⟩
          replace hw := hw y_15 ey_15
          refine lv_iinc (pc := 78) (v := y_15) (lv' := [(4, .int y_15), (3, .int y_14), (0, .ref (q 0)), (1, .int p1), (2, .int x2)]) hx hb dX11_certain_78 hl (k := 4) rfl (by rw [ey_15]; rfl) (by decide) rfl (fun ls hl => ?_)
          refine lv_goto (pc := 81) (tgt := 34) hx hb dX11_certain_81 (by decide) ?_
          exact hw _ _ _ hP hD hS (lv_sub hl [2, 3, 4, 1, 0] rfl)
        refine lv_icmp_ne (pc := 68) (tgt := 75) hx hb dX11_certain_68 (by decide) (fun c_12 => ?_) (fun c_12 => ?_)
        · skip
          refine lv_iconst (pc := 75) (v := (0 : Int32)) hx hb dX11_certain_75 (by decide) ?_
          exact K_v_13 _ (by rw [if_neg c_12])
        · skip
          refine lv_iconst (pc := 71) (v := (1 : Int32)) hx hb dX11_certain_71 (by decide) ?_
          refine lv_goto (pc := 72) (tgt := 76) hx hb dX11_certain_72 (by decide) ?_
          exact K_v_13 _ (by rw [if_pos c_12])
      · replace hw := hw.2 c_9
        refine lv_iload (pc := 49) hx hb dX11_certain_49 (lv_at hl 4 rfl) ?_
        refine lv_aload_n (pc := 51) hx hb dX11_certain_51 rfl (lv_at hl 0 rfl) ?_
        refine va_get (pc := 52) (D := G) (ci := 11) (v := .ref (q 29)) (C := RX11) (T := TX11) (N := 45) hx hb hts iw_X11_certain_X11 hown hK hP 0 rfl rfl 36 (by decide) (hts _ (List.mem_of_getElem? (i := 1) rfl)) (fun _ h9 => h9) rfl dX11_certain_52 ?_
        refine lv_iconst (pc := 55) (v := (1 : Int32)) hx hb dX11_certain_55 (by decide) ?_
        obtain ⟨h_16, hw⟩ := hw
        refine va_iald (pc := 56) hx hb hK hP 1 0 rfl rfl h_16 dX11_certain_56 ?_
        refine lv_icmp_ge (pc := 57) (tgt := 75) hx hb dX11_certain_57 (by decide) (fun c_17 => ?_) (fun c_17 => ?_)
        · replace hw := hw.1 c_17
          refine lv_iconst (pc := 75) (v := (0 : Int32)) hx hb dX11_certain_75 (by decide) ?_
          refine lv_iadd (pc := 76) hx hb dX11_certain_76 ?_
          refine lv_topi (fun y_18 ey_18 => ?_)
          replace hw := hw y_18 ey_18
          refine lv_istore_n (pc := 77) (lv' := [(3, .int y_18), (0, .ref (q 0)), (1, .int p1), (2, .int x2), (4, .int x4)]) hx hb dX11_certain_77 rfl hl (by decide) rfl (fun ls hl => ?_)
          obtain ⟨y_19, ey_19⟩ : ∃ z : Int32, z = (x4 + (1 : Int32)) := ⟨_, rfl⟩
          replace hw := hw y_19 ey_19
          refine lv_iinc (pc := 78) (v := y_19) (lv' := [(4, .int y_19), (3, .int y_18), (0, .ref (q 0)), (1, .int p1), (2, .int x2)]) hx hb dX11_certain_78 hl (k := 4) rfl (by rw [ey_19]; rfl) (by decide) rfl (fun ls hl => ?_)
          refine lv_goto (pc := 81) (tgt := 34) hx hb dX11_certain_81 (by decide) ?_
          exact hw _ _ _ hP hD hS (lv_sub hl [2, 3, 4, 1, 0] rfl)
        · replace hw := hw.2 c_17
          refine lv_aload_n (pc := 60) hx hb dX11_certain_60 rfl (lv_at hl 0 rfl) ?_
          refine lv_iload_n (pc := 61) hx hb dX11_certain_61 rfl (lv_at hl 1 rfl) ?_
          refine lv_iload (pc := 62) hx hb dX11_certain_62 (lv_at hl 4 rfl) ?_
          refine hCallI (pc := 64) (wr := []) (wsf := fun (u : (Nat → Int32)) => [oX11 q m_kinds m_weighings m_spanLow m_spanHigh m_events m_days m_edges m_crew m_breakages, aI K (q 29) 2 m_marked, aI K (q 30) 48 m_signs, aI K (q 31) 16 m_weights, aI K (q 32) 2304 u]) [0, 1, 2, 3, 4] [] (va_runV (As := [.int p1, .int x4]) (rest := [.int x3]) ⟨hx, hb, hml, hown, hts⟩ (c_X11_layJoin l G K tb q H.size m_kinds m_weighings m_spanLow m_spanHigh m_events m_days m_edges m_crew m_breakages _ p1 x4 m_marked m_signs m_weights m_joins hw) (cwV 2 hts gX11_certain_X11_layJoin rfl rfl rfl (by decide +kernel) ⟨Nat.le_of_ble_eq_true rfl, Nat.le_of_ble_eq_true rfl⟩) (hPreV hE hP hK hD hS hA [0, 1, 2, 3, 4] (by decide) rfl rfl rfl rfl (q0 := 0) (ci := 11) rfl) rfl rfl hl.1 rfl (lv_room (Nat.le_of_ble_eq_true rfl)) dX11_certain_64 ⟨Nat.zero_le _, Nat.zero_le _⟩) hP hD hS hA rfl rfl (by decide) (by decide) (fun r_20 u H locs hw hP hD hS => ?_)
          obtain ⟨m_joins_21, rfl⟩ : ∃ z, z = u := ⟨_, rfl⟩
          have hP : va_P G vwCl [oX11 q m_kinds m_weighings m_spanLow m_spanHigh m_events m_days m_edges m_crew m_breakages, aI K (q 29) 2 m_marked, aI K (q 30) 48 m_signs, aI K (q 31) 16 m_weights, aI K (q 32) 2304 m_joins_21] H := hP.sub [0, 1, 2, 3, 4] rfl
          have hD : va_D A [oX11 q m_kinds m_weighings m_spanLow m_spanHigh m_events m_days m_edges m_crew m_breakages, aI K (q 29) 2 m_marked, aI K (q 30) 48 m_signs, aI K (q 31) 16 m_weights, aI K (q 32) 2304 m_joins_21] := hD.sub [0, 1, 2, 3, 4] (by decide) rfl
          refine lv_iload_n (pc := 67) hx hb dX11_certain_67 rfl (lv_at hl 2 rfl) ?_
          have K_v_23 : ∀ v_23 : Int32, v_23 = (if r_20 = x2 then (1 : Int32) else (0 : Int32)) → W p l e rm_X11_certain s m av below meth c H locs 0 0 Q (F0 m 76 ls [.int v_23, .int x3]) := by
            intro v_23 ev_23
            replace hw := hw v_23 ev_23
            refine lv_iadd (pc := 76) hx hb dX11_certain_76 ?_
            refine lv_topi (fun y_24 ey_24 => ?_)
            replace hw := hw y_24 ey_24
            refine lv_istore_n (pc := 77) (lv' := [(3, .int y_24), (0, .ref (q 0)), (1, .int p1), (2, .int x2), (4, .int x4)]) hx hb dX11_certain_77 rfl hl (by decide) rfl (fun ls hl => ?_)
            obtain ⟨y_25, ey_25⟩ : ∃ z : Int32, z = (x4 + (1 : Int32)) := ⟨_, rfl⟩
            replace hw := hw y_25 ey_25
            refine lv_iinc (pc := 78) (v := y_25) (lv' := [(4, .int y_25), (3, .int y_24), (0, .ref (q 0)), (1, .int p1), (2, .int x2)]) hx hb dX11_certain_78 hl (k := 4) rfl (by rw [ey_25]; rfl) (by decide) rfl (fun ls hl => ?_)
            refine lv_goto (pc := 81) (tgt := 34) hx hb dX11_certain_81 (by decide) ?_
            exact hw _ _ _ hP hD hS (lv_sub hl [2, 3, 4, 1, 0] rfl)
          refine lv_icmp_ne (pc := 68) (tgt := 75) hx hb dX11_certain_68 (by decide) (fun c_22 => ?_) (fun c_22 => ?_)
          · skip
            refine lv_iconst (pc := 75) (v := (0 : Int32)) hx hb dX11_certain_75 (by decide) ?_
            exact K_v_23 _ (by rw [if_neg c_22])
          · skip
            refine lv_iconst (pc := 71) (v := (1 : Int32)) hx hb dX11_certain_71 (by decide) ?_
            refine lv_goto (pc := 72) (tgt := 76) hx hb dX11_certain_72 (by decide) ?_
            exact K_v_23 _ (by rw [if_pos c_22]))
  refine lv_iload_n (pc := 0) hx hb dX11_certain_0 rfl (lv_at hl 1 rfl) ?_
  refine lv_i2l (pc := 1) hx hb dX11_certain_1 rfl ?_
  refine lv_lconst (pc := 2) (v := (0 : Int64)) hx hb dX11_certain_2 (by decide) ?_
  refine lv_aload_n (pc := 3) hx hb dX11_certain_3 rfl (lv_at hl 0 rfl) ?_
  refine va_get (pc := 4) (D := G) (ci := 11) (v := .ref (q 29)) (C := RX11) (T := TX11) (N := 45) hx hb hts iw_X11_certain_X11 hown hK hP 0 rfl rfl 36 (by decide) (hts _ (List.mem_of_getElem? (i := 1) rfl)) (fun _ h9 => h9) rfl dX11_certain_4 ?_
  refine lv_iconst (pc := 7) (v := (0 : Int32)) hx hb dX11_certain_7 (by decide) ?_
  obtain ⟨h_1, hw⟩ := hw
  refine va_iald (pc := 8) hx hb hK hP 1 0 rfl rfl h_1 dX11_certain_8 ?_
  refine lv_iconst (pc := 9) (v := (1 : Int32)) hx hb dX11_certain_9 (by decide) ?_
  refine lv_isub (pc := 10) hx hb dX11_certain_10 ?_
  refine lv_i2l (pc := 11) hx hb dX11_certain_11 rfl ?_
  refine hCallI (pc := 12) (wr := [oX11 q m_kinds m_weighings m_spanLow m_spanHigh m_events m_days m_edges m_crew m_breakages, aI K (q 29) 2 m_marked, aI K (q 30) 48 m_signs, aI K (q 31) 16 m_weights, aI K (q 32) 2304 m_joins]) (wsf := fun (u : Unit) => []) [] [0, 1, 2, 3, 4] (va_runS (As := [.long p1.toInt64, .long (0 : Int64), .long ((m_marked (0 : Int32).toNatClampNeg) - (1 : Int32)).toInt64]) (rest := []) ⟨hx, hb, hml, hown, hts⟩ (c_X11_in l G K tb q s.heap.size _ p1.toInt64 (0 : Int64) ((m_marked (0 : Int32).toNatClampNeg) - (1 : Int32)).toInt64 hw) (va_cwS 3 hts gX11_certain_X11_in rfl rfl rfl (by decide +kernel) ⟨Nat.le_of_ble_eq_true rfl, Nat.le_of_ble_eq_true rfl⟩) (hPreS hE hP hK hD hS hA [] (by decide) rfl rfl) rfl rfl hl.1 rfl (lv_room (Nat.le_of_ble_eq_true rfl)) dX11_certain_12 ⟨Nat.zero_le _, Nat.zero_le _⟩) hP hD hS hA rfl rfl (by decide) (by decide) (fun r_2 u H locs hw hP hD hS => ?_)
  have hP : va_P G vwCl [oX11 q m_kinds m_weighings m_spanLow m_spanHigh m_events m_days m_edges m_crew m_breakages, aI K (q 29) 2 m_marked, aI K (q 30) 48 m_signs, aI K (q 31) 16 m_weights, aI K (q 32) 2304 m_joins] H := hP.sub [0, 1, 2, 3, 4] rfl
  have hD : va_D A [oX11 q m_kinds m_weighings m_spanLow m_spanHigh m_events m_days m_edges m_crew m_breakages, aI K (q 29) 2 m_marked, aI K (q 30) 48 m_signs, aI K (q 31) 16 m_weights, aI K (q 32) 2304 m_joins] := hD.sub [0, 1, 2, 3, 4] (by decide) rfl
  refine lv_if_ne (pc := 15) (tgt := 20) hx hb dX11_certain_15 (by decide) (fun c_3 => ?_) (fun c_3 => ?_)
  · replace hw := hw.2 c_3
    refine lv_aload_n (pc := 20) hx hb dX11_certain_20 rfl (lv_at hl 0 rfl) ?_
    refine lv_bipush (pc := 21) (v := (-9 : Int32)) hx hb dX11_certain_21 (by decide) ?_
    refine lv_bipush (pc := 23) (v := (-9 : Int32)) hx hb dX11_certain_23 (by decide) ?_
    refine hCallI (pc := 25) (wr := []) (wsf := fun (u : (Nat → Int32)) => [oX11 q m_kinds m_weighings m_spanLow m_spanHigh m_events m_days m_edges m_crew m_breakages, aI K (q 29) 2 m_marked, aI K (q 30) 48 m_signs, aI K (q 31) 16 m_weights, aI K (q 32) 2304 u]) [0, 1, 2, 3, 4] [] (va_runV (As := [.int (-9 : Int32), .int (-9 : Int32)]) (rest := []) ⟨hx, hb, hml, hown, hts⟩ (c_X11_layJoin l G K tb q H.size m_kinds m_weighings m_spanLow m_spanHigh m_events m_days m_edges m_crew m_breakages _ (-9 : Int32) (-9 : Int32) m_marked m_signs m_weights m_joins hw) (cwV 2 hts gX11_certain_X11_layJoin rfl rfl rfl (by decide +kernel) ⟨Nat.le_of_ble_eq_true rfl, Nat.le_of_ble_eq_true rfl⟩) (hPreV hE hP hK hD hS hA [0, 1, 2, 3, 4] (by decide) rfl rfl rfl rfl (q0 := 0) (ci := 11) rfl) rfl rfl hl.1 rfl (lv_room (Nat.le_of_ble_eq_true rfl)) dX11_certain_25 ⟨Nat.zero_le _, Nat.zero_le _⟩) hP hD hS hA rfl rfl (by decide) (by decide) (fun r_4 u H locs hw hP hD hS => ?_)
    obtain ⟨m_joins_5, rfl⟩ : ∃ z, z = u := ⟨_, rfl⟩
    have hP : va_P G vwCl [oX11 q m_kinds m_weighings m_spanLow m_spanHigh m_events m_days m_edges m_crew m_breakages, aI K (q 29) 2 m_marked, aI K (q 30) 48 m_signs, aI K (q 31) 16 m_weights, aI K (q 32) 2304 m_joins_5] H := hP.sub [0, 1, 2, 3, 4] rfl
    have hD : va_D A [oX11 q m_kinds m_weighings m_spanLow m_spanHigh m_events m_days m_edges m_crew m_breakages, aI K (q 29) 2 m_marked, aI K (q 30) 48 m_signs, aI K (q 31) 16 m_weights, aI K (q 32) 2304 m_joins_5] := hD.sub [0, 1, 2, 3, 4] (by decide) rfl
    refine lv_istore_n (pc := 28) (lv' := [(2, .int r_4), (0, .ref (q 0)), (1, .int p1)]) hx hb dX11_certain_28 rfl hl (by decide) rfl (fun ls hl => ?_)
    refine lv_iconst (pc := 29) (v := (0 : Int32)) hx hb dX11_certain_29 (by decide) ?_
    refine lv_istore_n (pc := 30) (lv' := [(3, .int (0 : Int32)), (2, .int r_4), (0, .ref (q 0)), (1, .int p1)]) hx hb dX11_certain_30 rfl hl (by decide) rfl (fun ls hl => ?_)
    refine lv_iconst (pc := 31) (v := (0 : Int32)) hx hb dX11_certain_31 (by decide) ?_
    refine lv_istore (pc := 32) (lv' := [(4, .int (0 : Int32)), (3, .int (0 : Int32)), (2, .int r_4), (0, .ref (q 0)), (1, .int p1)]) hx hb dX11_certain_32 hl (by decide) rfl (fun ls hl => ?_)
    exact hw _ _ _ hP hD hS (lv_sub hl [3, 4, 2, 1, 0] rfl)
  · replace hw := hw.1 c_3
    refine lv_iconst (pc := 18) (v := (-1 : Int32)) hx hb dX11_certain_18 (by decide) ?_
    exact hRetI (S := (Nat → Int32)) m_joins hx hb hr hlocks hQ hw hP hK hD hS dX11_certain_19
def P_X11_areBags (post : Int32 → Prop) (p0 : Int32) (p1 : Int32) (p2 : Int32) : Prop :=
  P_X11_in (fun r_1 => ((r_1 = (0 : Int32) → post (0 : Int32)) ∧ (¬ r_1 = (0 : Int32) → P_X11_in (fun r_3 => ((r_3 = (0 : Int32) → post (0 : Int32)) ∧ (¬ r_3 = (0 : Int32) → P_X11_in (fun r_5 => ∀ v_7 : Int32, v_7 = (if r_5 = (0 : Int32) then (0 : Int32) else (1 : Int32)) → post v_7) p2.toInt64 (0 : Int64) p1.toInt64))) p1.toInt64 (1 : Int64) p0.toInt64))) p0.toInt64 (1 : Int64) (60 : Int64)
abbrev rm_X11_areBags : Room := { frames := 1, cells := 0, slots := 0, locals := 25 }
set_option maxHeartbeats 4000000 in
set_option maxRecDepth 100000 in
theorem c_X11_areBags (l : Launch) (G : va_G) (K : ClassId × ClassId × ClassId) (tb q : Nat → Nat) (sz : Nat) (post : Int32 → Prop) (p0 : Int32) (p1 : Int32) (p2 : Int32) (hw : P_X11_areBags post p0 p1 p2) : Met l yX11_areBags wsX11_areBags rm_X11_areBags (va_Pc [.int p0, .int p1, .int p2] (hPre G K tb [] sz)) (va_Qi (fun (r : Int32) (u : Unit) => post r) (fun u => hB G K (va_A [] sz) []) (va_A [] sz)) 0 0 (va_A [] sz) := by
  refine hMet (fun A => va_Qi (fun (r : Int32) (u : Unit) => post r) (fun u => hB G K A []) A) (by decide) rfl (Nat.le_of_ble_eq_true rfl) ?_
  intro p e s m av below meth c A Q ls hx hb hr hml hts hown hlocks hnm hA hP hK hD hS hE hQ hl
  have hts : ∀ w ∈ wsX11_areBags, w.before av s = true := hts
  have hown : s.vm.findClass RX11 = some m.cls := hown
  have hl : lv_has ls 3 [(0, .int p0), (1, .int p1), (2, .int p2)] := hl
  unfold P_X11_areBags at hw
  refine lv_iload_n (pc := 0) hx hb dX11_areBags_0 rfl (lv_at hl 0 rfl) ?_
  refine lv_i2l (pc := 1) hx hb dX11_areBags_1 rfl ?_
  refine lv_lconst (pc := 2) (v := (1 : Int64)) hx hb dX11_areBags_2 (by decide) ?_
  refine lv_ldc2 (pc := 3) (v := (60 : Int64)) hx hb hown (hts _ (List.mem_of_getElem? (i := 1) rfl)) dX11_areBags_3 ?_
  refine hCallI (pc := 6) (wr := []) (wsf := fun (u : Unit) => []) [] [] (va_runS (As := [.long p0.toInt64, .long (1 : Int64), .long (60 : Int64)]) (rest := []) ⟨hx, hb, hml, hown, hts⟩ (c_X11_in l G K tb q s.heap.size _ p0.toInt64 (1 : Int64) (60 : Int64) hw) (va_cwS 3 hts gX11_areBags_X11_in rfl rfl rfl (by decide +kernel) ⟨Nat.le_of_ble_eq_true rfl, Nat.le_of_ble_eq_true rfl⟩) (hPreS hE hP hK hD hS hA [] (by decide) rfl rfl) rfl rfl hl.1 rfl (lv_room (Nat.le_of_ble_eq_true rfl)) dX11_areBags_6 ⟨Nat.zero_le _, Nat.zero_le _⟩) hP hD hS hA rfl rfl (by decide) (by decide) (fun r_1 u H locs hw hP hD hS => ?_)
  have hP : va_P G vwCl [] H := hP.sub [] rfl
  have hD : va_D A [] := hD.sub [] (by decide) rfl
  refine lv_if_eq (pc := 9) (tgt := 38) hx hb dX11_areBags_9 (by decide) (fun c_2 => ?_) (fun c_2 => ?_)
  · replace hw := hw.1 c_2
    refine lv_iconst (pc := 38) (v := (0 : Int32)) hx hb dX11_areBags_38 (by decide) ?_
    exact hRetZ (S := Unit) () hx hb hr hlocks hQ (Or.inl rfl) hw hP hK hD hS dX11_areBags_39
  · replace hw := hw.2 c_2
    refine lv_iload_n (pc := 12) hx hb dX11_areBags_12 rfl (lv_at hl 1 rfl) ?_
    refine lv_i2l (pc := 13) hx hb dX11_areBags_13 rfl ?_
    refine lv_lconst (pc := 14) (v := (1 : Int64)) hx hb dX11_areBags_14 (by decide) ?_
    refine lv_iload_n (pc := 15) hx hb dX11_areBags_15 rfl (lv_at hl 0 rfl) ?_
    refine lv_i2l (pc := 16) hx hb dX11_areBags_16 rfl ?_
    refine hCallI (pc := 17) (wr := []) (wsf := fun (u : Unit) => []) [] [] (va_runS (As := [.long p1.toInt64, .long (1 : Int64), .long p0.toInt64]) (rest := []) ⟨hx, hb, hml, hown, hts⟩ (c_X11_in l G K tb q H.size _ p1.toInt64 (1 : Int64) p0.toInt64 hw) (va_cwS 3 hts gX11_areBags_X11_in rfl rfl rfl (by decide +kernel) ⟨Nat.le_of_ble_eq_true rfl, Nat.le_of_ble_eq_true rfl⟩) (hPreS hE hP hK hD hS hA [] (by decide) rfl rfl) rfl rfl hl.1 rfl (lv_room (Nat.le_of_ble_eq_true rfl)) dX11_areBags_17 ⟨Nat.zero_le _, Nat.zero_le _⟩) hP hD hS hA rfl rfl (by decide) (by decide) (fun r_3 u H locs hw hP hD hS => ?_)
    have hP : va_P G vwCl [] H := hP.sub [] rfl
    have hD : va_D A [] := hD.sub [] (by decide) rfl
    refine lv_if_eq (pc := 20) (tgt := 38) hx hb dX11_areBags_20 (by decide) (fun c_4 => ?_) (fun c_4 => ?_)
    · replace hw := hw.1 c_4
      refine lv_iconst (pc := 38) (v := (0 : Int32)) hx hb dX11_areBags_38 (by decide) ?_
      exact hRetZ (S := Unit) () hx hb hr hlocks hQ (Or.inl rfl) hw hP hK hD hS dX11_areBags_39
    · replace hw := hw.2 c_4
      refine lv_iload_n (pc := 23) hx hb dX11_areBags_23 rfl (lv_at hl 2 rfl) ?_
      refine lv_i2l (pc := 24) hx hb dX11_areBags_24 rfl ?_
      refine lv_lconst (pc := 25) (v := (0 : Int64)) hx hb dX11_areBags_25 (by decide) ?_
      refine lv_iload_n (pc := 26) hx hb dX11_areBags_26 rfl (lv_at hl 1 rfl) ?_
      refine lv_i2l (pc := 27) hx hb dX11_areBags_27 rfl ?_
      refine hCallI (pc := 28) (wr := []) (wsf := fun (u : Unit) => []) [] [] (va_runS (As := [.long p2.toInt64, .long (0 : Int64), .long p1.toInt64]) (rest := []) ⟨hx, hb, hml, hown, hts⟩ (c_X11_in l G K tb q H.size _ p2.toInt64 (0 : Int64) p1.toInt64 hw) (va_cwS 3 hts gX11_areBags_X11_in rfl rfl rfl (by decide +kernel) ⟨Nat.le_of_ble_eq_true rfl, Nat.le_of_ble_eq_true rfl⟩) (hPreS hE hP hK hD hS hA [] (by decide) rfl rfl) rfl rfl hl.1 rfl (lv_room (Nat.le_of_ble_eq_true rfl)) dX11_areBags_28 ⟨Nat.zero_le _, Nat.zero_le _⟩) hP hD hS hA rfl rfl (by decide) (by decide) (fun r_5 u H locs hw hP hD hS => ?_)
      have hP : va_P G vwCl [] H := hP.sub [] rfl
      have hD : va_D A [] := hD.sub [] (by decide) rfl
      have K_v_7 : ∀ v_7 : Int32, v_7 = (if r_5 = (0 : Int32) then (0 : Int32) else (1 : Int32)) → W p l e rm_X11_areBags s m av below meth c H locs 0 0 Q (F0 m 39 ls [.int v_7]) := by
        intro v_7 ev_7
        replace hw := hw v_7 ev_7
        exact hRetZ (S := Unit) () hx hb hr hlocks hQ (by rw [ev_7]; (repeat' split) <;> first | exact Or.inl rfl | exact Or.inr rfl) hw hP hK hD hS dX11_areBags_39
      refine lv_if_eq (pc := 31) (tgt := 38) hx hb dX11_areBags_31 (by decide) (fun c_6 => ?_) (fun c_6 => ?_)
      · skip
        refine lv_iconst (pc := 38) (v := (0 : Int32)) hx hb dX11_areBags_38 (by decide) ?_
        exact K_v_7 _ (by rw [if_pos c_6])
      · skip
        refine lv_iconst (pc := 34) (v := (1 : Int32)) hx hb dX11_areBags_34 (by decide) ?_
        refine lv_goto (pc := 35) (tgt := 39) hx hb dX11_areBags_35 (by decide) ?_
        exact K_v_7 _ (by rw [if_neg c_6])
def P_X11_waysOf (post : Int64 → Prop) (p1 : Int32) (p2 : Int32) (p3 : Int32) (p4 : Int32) (m_choose : Nat → Int64) : Prop :=
  ((p4 < p3 → True) ∧ (¬ p4 < p3 → (((p2 - p3) ≤ (p1 - p4) → (vp_in (((61 : Int32) * p4) + p3) 3721 ∧ vp_in ((((61 : Int32) * (p1 - p4)) + p2) - p3) 3721 ∧ True)) ∧ (¬ (p2 - p3) ≤ (p1 - p4) → True)))) ∧ ∀ v_5 : Int64, v_5 = (if p4 < p3 then (0 : Int64) else (if (p2 - p3) ≤ (p1 - p4) then ((m_choose (((61 : Int32) * p4) + p3).toNatClampNeg) * (m_choose ((((61 : Int32) * (p1 - p4)) + p2) - p3).toNatClampNeg)) else (0 : Int64))) → post v_5
abbrev rm_X11_waysOf : Room := { frames := 0, cells := 0, slots := 0, locals := 0 }
theorem iw_X11_waysOf_X11 : ∀ w ∈ wsX110, w ∈ wsX11_waysOf := by decide +kernel
set_option maxHeartbeats 4000000 in
set_option maxRecDepth 100000 in
theorem c_X11_waysOf (l : Launch) (G : va_G) (K : ClassId × ClassId × ClassId) (tb q : Nat → Nat) (sz : Nat) (m_kinds : Int32) (m_weighings : Int32) (m_spanLow : Int32) (m_spanHigh : Int32) (m_events : Int32) (m_days : Int32) (m_edges : Int32) (m_crew : Int32) (m_breakages : Int32) (post : Int64 → Prop) (p1 : Int32) (p2 : Int32) (p3 : Int32) (p4 : Int32) (m_choose : Nat → Int64) (hw : P_X11_waysOf post p1 p2 p3 p4 m_choose) : Met l yX11_waysOf wsX11_waysOf rm_X11_waysOf (va_Pc [.ref (q 0), .int p1, .int p2, .int p3, .int p4] (hPre G K tb [oX11 q m_kinds m_weighings m_spanLow m_spanHigh m_events m_days m_edges m_crew m_breakages, aJ K (q 33) 3721 m_choose] sz)) (va_Ql (fun (r : Int64) (u : Unit) => post r) (fun u => hB G K (va_A [oX11 q m_kinds m_weighings m_spanLow m_spanHigh m_events m_days m_edges m_crew m_breakages, aJ K (q 33) 3721 m_choose] sz) [oX11 q m_kinds m_weighings m_spanLow m_spanHigh m_events m_days m_edges m_crew m_breakages, aJ K (q 33) 3721 m_choose]) (va_A [oX11 q m_kinds m_weighings m_spanLow m_spanHigh m_events m_days m_edges m_crew m_breakages, aJ K (q 33) 3721 m_choose] sz)) 0 0 (va_A [oX11 q m_kinds m_weighings m_spanLow m_spanHigh m_events m_days m_edges m_crew m_breakages, aJ K (q 33) 3721 m_choose] sz) := by
  refine hMet (fun A => va_Ql (fun (r : Int64) (u : Unit) => post r) (fun u => hB G K A [oX11 q m_kinds m_weighings m_spanLow m_spanHigh m_events m_days m_edges m_crew m_breakages, aJ K (q 33) 3721 m_choose]) A) (by decide) rfl (Nat.le_of_ble_eq_true rfl) ?_
  intro p e s m av below meth c A Q ls hx hb hr hml hts hown hlocks hnm hA hP hK hD hS hE hQ hl
  have hts : ∀ w ∈ wsX11_waysOf, w.before av s = true := hts
  have hown : s.vm.findClass RX11 = some m.cls := hown
  have hl : lv_has ls 5 [(0, .ref (q 0)), (1, .int p1), (2, .int p2), (3, .int p3), (4, .int p4)] := hl
  unfold P_X11_waysOf at hw
  refine lv_iload_n (pc := 0) hx hb dX11_waysOf_0 rfl (lv_at hl 3 rfl) ?_
  refine lv_iload (pc := 1) hx hb dX11_waysOf_1 (lv_at hl 4 rfl) ?_
  obtain ⟨hsf, hw⟩ := hw
  have K_v_5 : ∀ v_5 : Int64, v_5 = (if p4 < p3 then (0 : Int64) else (if (p2 - p3) ≤ (p1 - p4) then ((m_choose (((61 : Int32) * p4) + p3).toNatClampNeg) * (m_choose ((((61 : Int32) * (p1 - p4)) + p2) - p3).toNatClampNeg)) else (0 : Int64))) → W p l e rm_X11_waysOf s m av below meth c s.heap [] 0 0 Q (F0 m 49 ls [.long v_5]) := by
    intro v_5 ev_5
    replace hw := hw v_5 ev_5
    exact hRetL (S := Unit) () hx hb hr hlocks hQ hw hP hK hD hS dX11_waysOf_49
  refine lv_icmp_gt (pc := 3) (tgt := 16) hx hb dX11_waysOf_3 (by decide) (fun c_1 => ?_) (fun c_1 => ?_)
  · replace hsf := hsf.1 c_1
    refine lv_lconst (pc := 16) (v := (0 : Int64)) hx hb dX11_waysOf_16 (by decide) ?_
    refine lv_goto (pc := 17) (tgt := 49) hx hb dX11_waysOf_17 (by decide) ?_
    exact K_v_5 _ (by rw [if_pos c_1])
  · replace hsf := hsf.2 c_1
    refine lv_iload_n (pc := 6) hx hb dX11_waysOf_6 rfl (lv_at hl 2 rfl) ?_
    refine lv_iload_n (pc := 7) hx hb dX11_waysOf_7 rfl (lv_at hl 3 rfl) ?_
    refine lv_isub (pc := 8) hx hb dX11_waysOf_8 ?_
    refine lv_iload_n (pc := 9) hx hb dX11_waysOf_9 rfl (lv_at hl 1 rfl) ?_
    refine lv_iload (pc := 10) hx hb dX11_waysOf_10 (lv_at hl 4 rfl) ?_
    refine lv_isub (pc := 12) hx hb dX11_waysOf_12 ?_
    refine lv_icmp_le (pc := 13) (tgt := 20) hx hb dX11_waysOf_13 (by decide) (fun c_2 => ?_) (fun c_2 => ?_)
    · replace hsf := hsf.1 c_2
      refine lv_aload_n (pc := 20) hx hb dX11_waysOf_20 rfl (lv_at hl 0 rfl) ?_
      refine va_get (pc := 21) (D := G) (ci := 11) (v := .ref (q 33)) (C := RX11) (T := TX11) (N := 45) hx hb hts iw_X11_waysOf_X11 hown hK hP 0 rfl rfl 40 (by decide) (hts _ (List.mem_of_getElem? (i := 1) rfl)) (fun _ h9 => h9) rfl dX11_waysOf_21 ?_
      refine lv_bipush (pc := 24) (v := (61 : Int32)) hx hb dX11_waysOf_24 (by decide) ?_
      refine lv_iload (pc := 26) hx hb dX11_waysOf_26 (lv_at hl 4 rfl) ?_
      refine lv_imul (pc := 28) hx hb dX11_waysOf_28 ?_
      refine lv_iload_n (pc := 29) hx hb dX11_waysOf_29 rfl (lv_at hl 3 rfl) ?_
      refine lv_iadd (pc := 30) hx hb dX11_waysOf_30 ?_
      obtain ⟨h_3, hsf⟩ := hsf
      refine va_lald (pc := 31) hx hb hK hP 1 1 rfl rfl h_3 dX11_waysOf_31 ?_
      refine lv_aload_n (pc := 32) hx hb dX11_waysOf_32 rfl (lv_at hl 0 rfl) ?_
      refine va_get (pc := 33) (D := G) (ci := 11) (v := .ref (q 33)) (C := RX11) (T := TX11) (N := 45) hx hb hts iw_X11_waysOf_X11 hown hK hP 0 rfl rfl 40 (by decide) (hts _ (List.mem_of_getElem? (i := 1) rfl)) (fun _ h9 => h9) rfl dX11_waysOf_33 ?_
      refine lv_bipush (pc := 36) (v := (61 : Int32)) hx hb dX11_waysOf_36 (by decide) ?_
      refine lv_iload_n (pc := 38) hx hb dX11_waysOf_38 rfl (lv_at hl 1 rfl) ?_
      refine lv_iload (pc := 39) hx hb dX11_waysOf_39 (lv_at hl 4 rfl) ?_
      refine lv_isub (pc := 41) hx hb dX11_waysOf_41 ?_
      refine lv_imul (pc := 42) hx hb dX11_waysOf_42 ?_
      refine lv_iload_n (pc := 43) hx hb dX11_waysOf_43 rfl (lv_at hl 2 rfl) ?_
      refine lv_iadd (pc := 44) hx hb dX11_waysOf_44 ?_
      refine lv_iload_n (pc := 45) hx hb dX11_waysOf_45 rfl (lv_at hl 3 rfl) ?_
      refine lv_isub (pc := 46) hx hb dX11_waysOf_46 ?_
      obtain ⟨h_4, hsf⟩ := hsf
      refine va_lald (pc := 47) hx hb hK hP 1 1 rfl rfl h_4 dX11_waysOf_47 ?_
      refine lv_lmul (pc := 48) hx hb dX11_waysOf_48 ?_
      exact K_v_5 _ (by rw [if_neg c_1, if_pos c_2])
    · replace hsf := hsf.2 c_2
      refine lv_lconst (pc := 16) (v := (0 : Int64)) hx hb dX11_waysOf_16 (by decide) ?_
      refine lv_goto (pc := 17) (tgt := 49) hx hb dX11_waysOf_17 (by decide) ?_
      exact K_v_5 _ (by rw [if_neg c_1, if_neg c_2])
def P_X11_isDoubted (post : Int32 → Prop) (p1 : Int32) (p2 : Int32) (p3 : Int32) (p4 : Int32) (m_choose : Nat → Int64) : Prop :=
  ∀ (X9 : Int64 → Int64 → Int32 → Prop),
  ∀ (X37 : Int64 → Int32 → Int64 → Int64 → Prop),
  (∀ (x5 : Int64) (x7 : Int64) (x9 : Int32), (((p2 < x9 → vp_in (((61 : Int32) * p1) + p2) 3721 ∧ ∀ y_3 : Int64, y_3 = (m_choose (((61 : Int32) * p1) + p2).toNatClampNeg) → ∀ v_6 : Int32, v_6 = (if (lg_cmp ((20 : Int64) * x5) y_3) < (0 : Int32) then (1 : Int32) else (if (0 : Int32) ≤ (lg_cmp ((20 : Int64) * x7) y_3) then (0 : Int32) else (1 : Int32))) → post v_6) ∧ (¬ p2 < x9 → ((p3 < x9 → X37 x7 x9 (0 : Int64) x5) ∧ (¬ p3 < x9 → P_X11_waysOf (fun r_8 => X37 x7 x9 r_8 x5) p1 p2 x9 p4 m_choose))))) → X9 x5 x7 x9) →
  (∀ (x7 : Int64) (x9 : Int32) (s0 : Int64) (s1 : Int64), (∀ y_9 : Int64, y_9 = (s1 + s0) → ((x9 < p3 → ∀ y_11 : Int64, y_11 = (x7 + (0 : Int64)) → ∀ y_12 : Int32, y_12 = (x9 + (1 : Int32)) → X9 y_9 y_11 y_12) ∧ (¬ x9 < p3 → P_X11_waysOf (fun r_13 => ∀ y_14 : Int64, y_14 = (x7 + r_13) → ∀ y_15 : Int32, y_15 = (x9 + (1 : Int32)) → X9 y_9 y_14 y_15) p1 p2 x9 p4 m_choose))) → X37 x7 x9 s0 s1) →
  X9 (0 : Int64) (0 : Int64) (0 : Int32)
abbrev rm_X11_isDoubted : Room := { frames := 1, cells := 0, slots := 0, locals := 24 }
theorem iw_X11_isDoubted_X11 : ∀ w ∈ wsX110, w ∈ wsX11_isDoubted := by decide +kernel
set_option maxHeartbeats 4000000 in
set_option maxRecDepth 100000 in
theorem c_X11_isDoubted (l : Launch) (G : va_G) (K : ClassId × ClassId × ClassId) (tb q : Nat → Nat) (sz : Nat) (m_kinds : Int32) (m_weighings : Int32) (m_spanLow : Int32) (m_spanHigh : Int32) (m_events : Int32) (m_days : Int32) (m_edges : Int32) (m_crew : Int32) (m_breakages : Int32) (post : Int32 → Prop) (p1 : Int32) (p2 : Int32) (p3 : Int32) (p4 : Int32) (m_choose : Nat → Int64) (hw : P_X11_isDoubted post p1 p2 p3 p4 m_choose) : Met l yX11_isDoubted wsX11_isDoubted rm_X11_isDoubted (va_Pc [.ref (q 0), .int p1, .int p2, .int p3, .int p4] (hPre G K tb [oX11 q m_kinds m_weighings m_spanLow m_spanHigh m_events m_days m_edges m_crew m_breakages, aJ K (q 33) 3721 m_choose] sz)) (va_Qi (fun (r : Int32) (u : Unit) => post r) (fun u => hB G K (va_A [oX11 q m_kinds m_weighings m_spanLow m_spanHigh m_events m_days m_edges m_crew m_breakages, aJ K (q 33) 3721 m_choose] sz) [oX11 q m_kinds m_weighings m_spanLow m_spanHigh m_events m_days m_edges m_crew m_breakages, aJ K (q 33) 3721 m_choose]) (va_A [oX11 q m_kinds m_weighings m_spanLow m_spanHigh m_events m_days m_edges m_crew m_breakages, aJ K (q 33) 3721 m_choose] sz)) 0 0 (va_A [oX11 q m_kinds m_weighings m_spanLow m_spanHigh m_events m_days m_edges m_crew m_breakages, aJ K (q 33) 3721 m_choose] sz) := by
  refine hMet (fun A => va_Qi (fun (r : Int32) (u : Unit) => post r) (fun u => hB G K A [oX11 q m_kinds m_weighings m_spanLow m_spanHigh m_events m_days m_edges m_crew m_breakages, aJ K (q 33) 3721 m_choose]) A) (by decide) rfl (Nat.le_of_ble_eq_true rfl) ?_
  intro p e s m av below meth c A Q ls hx hb hr hml hts hown hlocks hnm hA hP hK hD hS hE hQ hl
  have hts : ∀ w ∈ wsX11_isDoubted, w.before av s = true := hts
  have hown : s.vm.findClass RX11 = some m.cls := hown
  have hl : lv_has ls 11 [(0, .ref (q 0)), (1, .int p1), (2, .int p2), (3, .int p3), (4, .int p4)] := hl
  unfold P_X11_isDoubted at hw
  replace hw := hw (fun (x5 : Int64) (x7 : Int64) (x9 : Int32) => ∀ (H : Heap) (locs : List Loc) (ls : Array Slot), va_P G vwCl [oX11 q m_kinds m_weighings m_spanLow m_spanHigh m_events m_days m_edges m_crew m_breakages, aJ K (q 33) 3721 m_choose] H → va_D A [oX11 q m_kinds m_weighings m_spanLow m_spanHigh m_events m_days m_edges m_crew m_breakages, aJ K (q 33) 3721 m_choose] → va_S A s.heap H locs → lv_has ls 11 [(0, .ref (q 0)), (1, .int p1), (2, .int p2), (3, .int p3), (4, .int p4), (5, .long x5), (7, .long x7), (9, .int x9)] → W p l e rm_X11_isDoubted s m av below meth c H locs 0 0 Q (F0 m 9 ls []))
  replace hw := hw (fun (x7 : Int64) (x9 : Int32) (s0 : Int64) (s1 : Int64) => ∀ (H : Heap) (locs : List Loc) (ls : Array Slot), va_P G vwCl [oX11 q m_kinds m_weighings m_spanLow m_spanHigh m_events m_days m_edges m_crew m_breakages, aJ K (q 33) 3721 m_choose] H → va_D A [oX11 q m_kinds m_weighings m_spanLow m_spanHigh m_events m_days m_edges m_crew m_breakages, aJ K (q 33) 3721 m_choose] → va_S A s.heap H locs → lv_has ls 11 [(0, .ref (q 0)), (1, .int p1), (2, .int p2), (3, .int p3), (4, .int p4), (7, .long x7), (9, .int x9)] → W p l e rm_X11_isDoubted s m av below meth c H locs 0 0 Q (F0 m 37 ls [.long s0, .long s1]))
  replace hw := hw (by
    intro x5 x7 x9 hw H locs ls hP hD hS hl
    refine lv_iload (pc := 9) hx hb dX11_isDoubted_9 (lv_at hl 7 rfl) ?_
    refine lv_iload_n (pc := 11) hx hb dX11_isDoubted_11 rfl (lv_at hl 2 rfl) ?_
    refine lv_icmp_gt (pc := 12) (tgt := 71) hx hb dX11_isDoubted_12 (by decide) (fun c_1 => ?_) (fun c_1 => ?_)
    · replace hw := hw.1 c_1
      refine lv_aload_n (pc := 71) hx hb dX11_isDoubted_71 rfl (lv_at hl 0 rfl) ?_
      refine va_get (pc := 72) (D := G) (ci := 11) (v := .ref (q 33)) (C := RX11) (T := TX11) (N := 45) hx hb hts iw_X11_isDoubted_X11 hown hK hP 0 rfl rfl 40 (by decide) (hts _ (List.mem_of_getElem? (i := 1) rfl)) (fun _ h9 => h9) rfl dX11_isDoubted_72 ?_
      refine lv_bipush (pc := 75) (v := (61 : Int32)) hx hb dX11_isDoubted_75 (by decide) ?_
      refine lv_iload_n (pc := 77) hx hb dX11_isDoubted_77 rfl (lv_at hl 1 rfl) ?_
      refine lv_imul (pc := 78) hx hb dX11_isDoubted_78 ?_
      refine lv_iload_n (pc := 79) hx hb dX11_isDoubted_79 rfl (lv_at hl 2 rfl) ?_
      refine lv_iadd (pc := 80) hx hb dX11_isDoubted_80 ?_
      obtain ⟨h_2, hw⟩ := hw
      refine va_lald (pc := 81) hx hb hK hP 1 1 rfl rfl h_2 dX11_isDoubted_81 ?_
      refine lv_topl (fun y_3 ey_3 => ?_)
      replace hw := hw y_3 ey_3
      refine lv_lstore (pc := 82) (lv' := [(9, .long y_3), (0, .ref (q 0)), (1, .int p1), (2, .int p2), (3, .int p3), (4, .int p4), (5, .long x5), (7, .long x7)]) hx hb dX11_isDoubted_82 hl (by decide) rfl (fun ls hl => ?_)
      refine lv_ldc2 (pc := 84) (v := (20 : Int64)) hx hb hown (hts _ (List.mem_of_getElem? (i := 2) rfl)) dX11_isDoubted_84 ?_
      refine lv_lload (pc := 87) hx hb dX11_isDoubted_87 (lv_at hl 6 rfl) ?_
      refine lv_lmul (pc := 89) hx hb dX11_isDoubted_89 ?_
      refine lv_lload (pc := 90) hx hb dX11_isDoubted_90 (lv_at hl 0 rfl) ?_
      refine W.lcmp (pc := 92) hx hb dX11_isDoubted_92 ?_
      have K_v_6 : ∀ v_6 : Int32, v_6 = (if (lg_cmp ((20 : Int64) * x5) y_3) < (0 : Int32) then (1 : Int32) else (if (0 : Int32) ≤ (lg_cmp ((20 : Int64) * x7) y_3) then (0 : Int32) else (1 : Int32))) → W p l e rm_X11_isDoubted s m av below meth c H locs 0 0 Q (F0 m 113 ls [.int v_6]) := by
        intro v_6 ev_6
        replace hw := hw v_6 ev_6
        exact hRetZ (S := Unit) () hx hb hr hlocks hQ (by rw [ev_6]; (repeat' split) <;> first | exact Or.inl rfl | exact Or.inr rfl) hw hP hK hD hS dX11_isDoubted_113
      refine lv_if_lt (pc := 93) (tgt := 108) hx hb dX11_isDoubted_93 (by decide) (fun c_4 => ?_) (fun c_4 => ?_)
      · skip
        refine lv_iconst (pc := 108) (v := (1 : Int32)) hx hb dX11_isDoubted_108 (by decide) ?_
        refine lv_goto (pc := 109) (tgt := 113) hx hb dX11_isDoubted_109 (by decide) ?_
        exact K_v_6 _ (by rw [if_pos c_4])
      · skip
        refine lv_ldc2 (pc := 96) (v := (20 : Int64)) hx hb hown (hts _ (List.mem_of_getElem? (i := 2) rfl)) dX11_isDoubted_96 ?_
        refine lv_lload (pc := 99) hx hb dX11_isDoubted_99 (lv_at hl 7 rfl) ?_
        refine lv_lmul (pc := 101) hx hb dX11_isDoubted_101 ?_
        refine lv_lload (pc := 102) hx hb dX11_isDoubted_102 (lv_at hl 0 rfl) ?_
        refine W.lcmp (pc := 104) hx hb dX11_isDoubted_104 ?_
        refine lv_if_ge (pc := 105) (tgt := 112) hx hb dX11_isDoubted_105 (by decide) (fun c_5 => ?_) (fun c_5 => ?_)
        · skip
          refine lv_iconst (pc := 112) (v := (0 : Int32)) hx hb dX11_isDoubted_112 (by decide) ?_
          exact K_v_6 _ (by rw [if_neg c_4, if_pos c_5])
        · skip
          refine lv_iconst (pc := 108) (v := (1 : Int32)) hx hb dX11_isDoubted_108 (by decide) ?_
          refine lv_goto (pc := 109) (tgt := 113) hx hb dX11_isDoubted_109 (by decide) ?_
          exact K_v_6 _ (by rw [if_neg c_4, if_neg c_5])
    · replace hw := hw.2 c_1
      refine lv_lload (pc := 15) hx hb dX11_isDoubted_15 (lv_at hl 5 rfl) ?_
      refine lv_iload (pc := 17) hx hb dX11_isDoubted_17 (lv_at hl 7 rfl) ?_
      refine lv_iload_n (pc := 19) hx hb dX11_isDoubted_19 rfl (lv_at hl 3 rfl) ?_
      refine lv_icmp_gt (pc := 20) (tgt := 36) hx hb dX11_isDoubted_20 (by decide) (fun c_7 => ?_) (fun c_7 => ?_)
      · replace hw := hw.1 c_7
        refine lv_lconst (pc := 36) (v := (0 : Int64)) hx hb dX11_isDoubted_36 (by decide) ?_
        exact hw _ _ _ hP hD hS (lv_sub hl [0, 1, 2, 3, 4, 6, 7] rfl)
      · replace hw := hw.2 c_7
        refine lv_aload_n (pc := 23) hx hb dX11_isDoubted_23 rfl (lv_at hl 0 rfl) ?_
        refine lv_iload_n (pc := 24) hx hb dX11_isDoubted_24 rfl (lv_at hl 1 rfl) ?_
        refine lv_iload_n (pc := 25) hx hb dX11_isDoubted_25 rfl (lv_at hl 2 rfl) ?_
        refine lv_iload (pc := 26) hx hb dX11_isDoubted_26 (lv_at hl 7 rfl) ?_
        refine lv_iload (pc := 28) hx hb dX11_isDoubted_28 (lv_at hl 4 rfl) ?_
        refine hCallL (pc := 30) (wr := []) (wsf := fun (u : Unit) => [oX11 q m_kinds m_weighings m_spanLow m_spanHigh m_events m_days m_edges m_crew m_breakages, aJ K (q 33) 3721 m_choose]) [0, 1] [] (va_runV (As := [.int p1, .int p2, .int x9, .int p4]) (rest := [.long x5]) ⟨hx, hb, hml, hown, hts⟩ (c_X11_waysOf l G K tb q H.size m_kinds m_weighings m_spanLow m_spanHigh m_events m_days m_edges m_crew m_breakages _ p1 p2 x9 p4 m_choose hw) (cwV 4 hts gX11_isDoubted_X11_waysOf rfl rfl rfl (by decide +kernel) ⟨Nat.le_of_ble_eq_true rfl, Nat.le_of_ble_eq_true rfl⟩) (hPreV hE hP hK hD hS hA [0, 1] (by decide) rfl rfl rfl rfl (q0 := 0) (ci := 11) rfl) rfl rfl hl.1 rfl (lv_room (Nat.le_of_ble_eq_true rfl)) dX11_isDoubted_30 ⟨Nat.zero_le _, Nat.zero_le _⟩) hP hD hS hA rfl rfl (by decide) (by decide) (fun r_8 u H locs hw hP hD hS => ?_)
        have hP : va_P G vwCl [oX11 q m_kinds m_weighings m_spanLow m_spanHigh m_events m_days m_edges m_crew m_breakages, aJ K (q 33) 3721 m_choose] H := hP.sub [0, 1] rfl
        have hD : va_D A [oX11 q m_kinds m_weighings m_spanLow m_spanHigh m_events m_days m_edges m_crew m_breakages, aJ K (q 33) 3721 m_choose] := hD.sub [0, 1] (by decide) rfl
        refine lv_goto (pc := 33) (tgt := 37) hx hb dX11_isDoubted_33 (by decide) ?_
        exact hw _ _ _ hP hD hS (lv_sub hl [0, 1, 2, 3, 4, 6, 7] rfl))
  replace hw := hw (by
    intro x7 x9 s0 s1 hw H locs ls hP hD hS hl
    refine lv_ladd (pc := 37) hx hb dX11_isDoubted_37 ?_
    refine lv_topl (fun y_9 ey_9 => ?_)
    replace hw := hw y_9 ey_9
    refine lv_lstore (pc := 38) (lv' := [(5, .long y_9), (0, .ref (q 0)), (1, .int p1), (2, .int p2), (3, .int p3), (4, .int p4), (7, .long x7), (9, .int x9)]) hx hb dX11_isDoubted_38 hl (by decide) rfl (fun ls hl => ?_)
    refine lv_lload (pc := 40) hx hb dX11_isDoubted_40 (lv_at hl 6 rfl) ?_
    refine lv_iload (pc := 42) hx hb dX11_isDoubted_42 (lv_at hl 7 rfl) ?_
    refine lv_iload_n (pc := 44) hx hb dX11_isDoubted_44 rfl (lv_at hl 4 rfl) ?_
    refine lv_icmp_lt (pc := 45) (tgt := 61) hx hb dX11_isDoubted_45 (by decide) (fun c_10 => ?_) (fun c_10 => ?_)
    · replace hw := hw.1 c_10
      refine lv_lconst (pc := 61) (v := (0 : Int64)) hx hb dX11_isDoubted_61 (by decide) ?_
      refine lv_ladd (pc := 62) hx hb dX11_isDoubted_62 ?_
      refine lv_topl (fun y_11 ey_11 => ?_)
      replace hw := hw y_11 ey_11
      refine lv_lstore (pc := 63) (lv' := [(7, .long y_11), (5, .long y_9), (0, .ref (q 0)), (1, .int p1), (2, .int p2), (3, .int p3), (4, .int p4), (9, .int x9)]) hx hb dX11_isDoubted_63 hl (by decide) rfl (fun ls hl => ?_)
      obtain ⟨y_12, ey_12⟩ : ∃ z : Int32, z = (x9 + (1 : Int32)) := ⟨_, rfl⟩
      replace hw := hw y_12 ey_12
      refine lv_iinc (pc := 65) (v := y_12) (lv' := [(9, .int y_12), (7, .long y_11), (5, .long y_9), (0, .ref (q 0)), (1, .int p1), (2, .int p2), (3, .int p3), (4, .int p4)]) hx hb dX11_isDoubted_65 hl (k := 7) rfl (by rw [ey_12]; rfl) (by decide) rfl (fun ls hl => ?_)
      refine lv_goto (pc := 68) (tgt := 9) hx hb dX11_isDoubted_68 (by decide) ?_
      exact hw _ _ _ hP hD hS (lv_sub hl [3, 4, 5, 6, 7, 2, 1, 0] rfl)
    · replace hw := hw.2 c_10
      refine lv_aload_n (pc := 48) hx hb dX11_isDoubted_48 rfl (lv_at hl 1 rfl) ?_
      refine lv_iload_n (pc := 49) hx hb dX11_isDoubted_49 rfl (lv_at hl 2 rfl) ?_
      refine lv_iload_n (pc := 50) hx hb dX11_isDoubted_50 rfl (lv_at hl 3 rfl) ?_
      refine lv_iload (pc := 51) hx hb dX11_isDoubted_51 (lv_at hl 7 rfl) ?_
      refine lv_iload (pc := 53) hx hb dX11_isDoubted_53 (lv_at hl 5 rfl) ?_
      refine hCallL (pc := 55) (wr := []) (wsf := fun (u : Unit) => [oX11 q m_kinds m_weighings m_spanLow m_spanHigh m_events m_days m_edges m_crew m_breakages, aJ K (q 33) 3721 m_choose]) [0, 1] [] (va_runV (As := [.int p1, .int p2, .int x9, .int p4]) (rest := [.long x7]) ⟨hx, hb, hml, hown, hts⟩ (c_X11_waysOf l G K tb q H.size m_kinds m_weighings m_spanLow m_spanHigh m_events m_days m_edges m_crew m_breakages _ p1 p2 x9 p4 m_choose hw) (cwV 4 hts gX11_isDoubted_X11_waysOf rfl rfl rfl (by decide +kernel) ⟨Nat.le_of_ble_eq_true rfl, Nat.le_of_ble_eq_true rfl⟩) (hPreV hE hP hK hD hS hA [0, 1] (by decide) rfl rfl rfl rfl (q0 := 0) (ci := 11) rfl) rfl rfl hl.1 rfl (lv_room (Nat.le_of_ble_eq_true rfl)) dX11_isDoubted_55 ⟨Nat.zero_le _, Nat.zero_le _⟩) hP hD hS hA rfl rfl (by decide) (by decide) (fun r_13 u H locs hw hP hD hS => ?_)
      have hP : va_P G vwCl [oX11 q m_kinds m_weighings m_spanLow m_spanHigh m_events m_days m_edges m_crew m_breakages, aJ K (q 33) 3721 m_choose] H := hP.sub [0, 1] rfl
      have hD : va_D A [oX11 q m_kinds m_weighings m_spanLow m_spanHigh m_events m_days m_edges m_crew m_breakages, aJ K (q 33) 3721 m_choose] := hD.sub [0, 1] (by decide) rfl
      refine lv_goto (pc := 58) (tgt := 62) hx hb dX11_isDoubted_58 (by decide) ?_
      refine lv_ladd (pc := 62) hx hb dX11_isDoubted_62 ?_
      refine lv_topl (fun y_14 ey_14 => ?_)
      replace hw := hw y_14 ey_14
      refine lv_lstore (pc := 63) (lv' := [(7, .long y_14), (5, .long y_9), (0, .ref (q 0)), (1, .int p1), (2, .int p2), (3, .int p3), (4, .int p4), (9, .int x9)]) hx hb dX11_isDoubted_63 hl (by decide) rfl (fun ls hl => ?_)
      obtain ⟨y_15, ey_15⟩ : ∃ z : Int32, z = (x9 + (1 : Int32)) := ⟨_, rfl⟩
      replace hw := hw y_15 ey_15
      refine lv_iinc (pc := 65) (v := y_15) (lv' := [(9, .int y_15), (7, .long y_14), (5, .long y_9), (0, .ref (q 0)), (1, .int p1), (2, .int p2), (3, .int p3), (4, .int p4)]) hx hb dX11_isDoubted_65 hl (k := 7) rfl (by rw [ey_15]; rfl) (by decide) rfl (fun ls hl => ?_)
      refine lv_goto (pc := 68) (tgt := 9) hx hb dX11_isDoubted_68 (by decide) ?_
      exact hw _ _ _ hP hD hS (lv_sub hl [3, 4, 5, 6, 7, 2, 1, 0] rfl))
  refine lv_lconst (pc := 0) (v := (0 : Int64)) hx hb dX11_isDoubted_0 (by decide) ?_
  refine lv_lstore (pc := 1) (lv' := [(5, .long (0 : Int64)), (0, .ref (q 0)), (1, .int p1), (2, .int p2), (3, .int p3), (4, .int p4)]) hx hb dX11_isDoubted_1 hl (by decide) rfl (fun ls hl => ?_)
  refine lv_lconst (pc := 3) (v := (0 : Int64)) hx hb dX11_isDoubted_3 (by decide) ?_
  refine lv_lstore (pc := 4) (lv' := [(7, .long (0 : Int64)), (5, .long (0 : Int64)), (0, .ref (q 0)), (1, .int p1), (2, .int p2), (3, .int p3), (4, .int p4)]) hx hb dX11_isDoubted_4 hl (by decide) rfl (fun ls hl => ?_)
  refine lv_iconst (pc := 6) (v := (0 : Int32)) hx hb dX11_isDoubted_6 (by decide) ?_
  refine lv_istore (pc := 7) (lv' := [(9, .int (0 : Int32)), (7, .long (0 : Int64)), (5, .long (0 : Int64)), (0, .ref (q 0)), (1, .int p1), (2, .int p2), (3, .int p3), (4, .int p4)]) hx hb dX11_isDoubted_7 hl (by decide) rfl (fun ls hl => ?_)
  exact hw _ _ _ hP hD hS (lv_sub hl [3, 4, 5, 6, 7, 2, 1, 0] rfl)
def P_X11_doubted (post : Int32 → Prop) (p1 : Int32) (p2 : Int32) (p3 : Int32) (p4 : Int32) (m_choose : Nat → Int64) : Prop :=
  P_X11_areBags (fun r_1 => ((r_1 = (0 : Int32) → post (-2 : Int32)) ∧ (¬ r_1 = (0 : Int32) → P_X11_in (fun r_3 => ((r_3 = (0 : Int32) → post (-2 : Int32)) ∧ (¬ r_3 = (0 : Int32) → P_X11_isDoubted (fun r_5 => ∀ v_7 : Int32, v_7 = (if r_5 = (0 : Int32) then (0 : Int32) else (1 : Int32)) → post v_7) p1 p2 p3 p4 m_choose))) p4.toInt64 p3.toInt64 ((p1 - p2) + p3).toInt64))) p1 p2 p3
abbrev rm_X11_doubted : Room := { frames := 2, cells := 0, slots := 0, locals := 54 }
set_option maxHeartbeats 4000000 in
set_option maxRecDepth 100000 in
theorem c_X11_doubted (l : Launch) (G : va_G) (K : ClassId × ClassId × ClassId) (tb q : Nat → Nat) (sz : Nat) (m_kinds : Int32) (m_weighings : Int32) (m_spanLow : Int32) (m_spanHigh : Int32) (m_events : Int32) (m_days : Int32) (m_edges : Int32) (m_crew : Int32) (m_breakages : Int32) (post : Int32 → Prop) (p1 : Int32) (p2 : Int32) (p3 : Int32) (p4 : Int32) (m_choose : Nat → Int64) (hw : P_X11_doubted post p1 p2 p3 p4 m_choose) : Met l yX11_doubted wsX11_doubted rm_X11_doubted (va_Pc [.ref (q 0), .int p1, .int p2, .int p3, .int p4] (hPre G K tb [oX11 q m_kinds m_weighings m_spanLow m_spanHigh m_events m_days m_edges m_crew m_breakages, aJ K (q 33) 3721 m_choose] sz)) (va_Qi (fun (r : Int32) (u : Unit) => post r) (fun u => hB G K (va_A [oX11 q m_kinds m_weighings m_spanLow m_spanHigh m_events m_days m_edges m_crew m_breakages, aJ K (q 33) 3721 m_choose] sz) [oX11 q m_kinds m_weighings m_spanLow m_spanHigh m_events m_days m_edges m_crew m_breakages, aJ K (q 33) 3721 m_choose]) (va_A [oX11 q m_kinds m_weighings m_spanLow m_spanHigh m_events m_days m_edges m_crew m_breakages, aJ K (q 33) 3721 m_choose] sz)) 0 0 (va_A [oX11 q m_kinds m_weighings m_spanLow m_spanHigh m_events m_days m_edges m_crew m_breakages, aJ K (q 33) 3721 m_choose] sz) := by
  refine hMet (fun A => va_Qi (fun (r : Int32) (u : Unit) => post r) (fun u => hB G K A [oX11 q m_kinds m_weighings m_spanLow m_spanHigh m_events m_days m_edges m_crew m_breakages, aJ K (q 33) 3721 m_choose]) A) (by decide) rfl (Nat.le_of_ble_eq_true rfl) ?_
  intro p e s m av below meth c A Q ls hx hb hr hml hts hown hlocks hnm hA hP hK hD hS hE hQ hl
  have hts : ∀ w ∈ wsX11_doubted, w.before av s = true := hts
  have hown : s.vm.findClass RX11 = some m.cls := hown
  have hl : lv_has ls 5 [(0, .ref (q 0)), (1, .int p1), (2, .int p2), (3, .int p3), (4, .int p4)] := hl
  unfold P_X11_doubted at hw
  refine lv_iload_n (pc := 0) hx hb dX11_doubted_0 rfl (lv_at hl 1 rfl) ?_
  refine lv_iload_n (pc := 1) hx hb dX11_doubted_1 rfl (lv_at hl 2 rfl) ?_
  refine lv_iload_n (pc := 2) hx hb dX11_doubted_2 rfl (lv_at hl 3 rfl) ?_
  refine hCallI (pc := 3) (wr := [oX11 q m_kinds m_weighings m_spanLow m_spanHigh m_events m_days m_edges m_crew m_breakages, aJ K (q 33) 3721 m_choose]) (wsf := fun (u : Unit) => []) [] [0, 1] (va_runS (As := [.int p1, .int p2, .int p3]) (rest := []) ⟨hx, hb, hml, hown, hts⟩ (c_X11_areBags l G K tb q s.heap.size _ p1 p2 p3 hw) (va_cwS 3 hts gX11_doubted_X11_areBags rfl rfl rfl (by decide +kernel) ⟨Nat.le_of_ble_eq_true rfl, Nat.le_of_ble_eq_true rfl⟩) (hPreS hE hP hK hD hS hA [] (by decide) rfl rfl) rfl rfl hl.1 rfl (lv_room (Nat.le_of_ble_eq_true rfl)) dX11_doubted_3 ⟨Nat.zero_le _, Nat.zero_le _⟩) hP hD hS hA rfl rfl (by decide) (by decide) (fun r_1 u H locs hw hP hD hS => ?_)
  have hP : va_P G vwCl [oX11 q m_kinds m_weighings m_spanLow m_spanHigh m_events m_days m_edges m_crew m_breakages, aJ K (q 33) 3721 m_choose] H := hP.sub [0, 1] rfl
  have hD : va_D A [oX11 q m_kinds m_weighings m_spanLow m_spanHigh m_events m_days m_edges m_crew m_breakages, aJ K (q 33) 3721 m_choose] := hD.sub [0, 1] (by decide) rfl
  refine lv_if_eq (pc := 6) (tgt := 46) hx hb dX11_doubted_6 (by decide) (fun c_2 => ?_) (fun c_2 => ?_)
  · replace hw := hw.1 c_2
    refine lv_bipush (pc := 46) (v := (-2 : Int32)) hx hb dX11_doubted_46 (by decide) ?_
    exact hRetI (S := Unit) () hx hb hr hlocks hQ hw hP hK hD hS dX11_doubted_48
  · replace hw := hw.2 c_2
    refine lv_iload (pc := 9) hx hb dX11_doubted_9 (lv_at hl 4 rfl) ?_
    refine lv_i2l (pc := 11) hx hb dX11_doubted_11 rfl ?_
    refine lv_iload_n (pc := 12) hx hb dX11_doubted_12 rfl (lv_at hl 3 rfl) ?_
    refine lv_i2l (pc := 13) hx hb dX11_doubted_13 rfl ?_
    refine lv_iload_n (pc := 14) hx hb dX11_doubted_14 rfl (lv_at hl 1 rfl) ?_
    refine lv_iload_n (pc := 15) hx hb dX11_doubted_15 rfl (lv_at hl 2 rfl) ?_
    refine lv_isub (pc := 16) hx hb dX11_doubted_16 ?_
    refine lv_iload_n (pc := 17) hx hb dX11_doubted_17 rfl (lv_at hl 3 rfl) ?_
    refine lv_iadd (pc := 18) hx hb dX11_doubted_18 ?_
    refine lv_i2l (pc := 19) hx hb dX11_doubted_19 rfl ?_
    refine hCallI (pc := 20) (wr := [oX11 q m_kinds m_weighings m_spanLow m_spanHigh m_events m_days m_edges m_crew m_breakages, aJ K (q 33) 3721 m_choose]) (wsf := fun (u : Unit) => []) [] [0, 1] (va_runS (As := [.long p4.toInt64, .long p3.toInt64, .long ((p1 - p2) + p3).toInt64]) (rest := []) ⟨hx, hb, hml, hown, hts⟩ (c_X11_in l G K tb q H.size _ p4.toInt64 p3.toInt64 ((p1 - p2) + p3).toInt64 hw) (va_cwS 3 hts gX11_doubted_X11_in rfl rfl rfl (by decide +kernel) ⟨Nat.le_of_ble_eq_true rfl, Nat.le_of_ble_eq_true rfl⟩) (hPreS hE hP hK hD hS hA [] (by decide) rfl rfl) rfl rfl hl.1 rfl (lv_room (Nat.le_of_ble_eq_true rfl)) dX11_doubted_20 ⟨Nat.zero_le _, Nat.zero_le _⟩) hP hD hS hA rfl rfl (by decide) (by decide) (fun r_3 u H locs hw hP hD hS => ?_)
    have hP : va_P G vwCl [oX11 q m_kinds m_weighings m_spanLow m_spanHigh m_events m_days m_edges m_crew m_breakages, aJ K (q 33) 3721 m_choose] H := hP.sub [0, 1] rfl
    have hD : va_D A [oX11 q m_kinds m_weighings m_spanLow m_spanHigh m_events m_days m_edges m_crew m_breakages, aJ K (q 33) 3721 m_choose] := hD.sub [0, 1] (by decide) rfl
    refine lv_if_eq (pc := 23) (tgt := 46) hx hb dX11_doubted_23 (by decide) (fun c_4 => ?_) (fun c_4 => ?_)
    · replace hw := hw.1 c_4
      refine lv_bipush (pc := 46) (v := (-2 : Int32)) hx hb dX11_doubted_46 (by decide) ?_
      exact hRetI (S := Unit) () hx hb hr hlocks hQ hw hP hK hD hS dX11_doubted_48
    · replace hw := hw.2 c_4
      refine lv_aload_n (pc := 26) hx hb dX11_doubted_26 rfl (lv_at hl 0 rfl) ?_
      refine lv_iload_n (pc := 27) hx hb dX11_doubted_27 rfl (lv_at hl 1 rfl) ?_
      refine lv_iload_n (pc := 28) hx hb dX11_doubted_28 rfl (lv_at hl 2 rfl) ?_
      refine lv_iload_n (pc := 29) hx hb dX11_doubted_29 rfl (lv_at hl 3 rfl) ?_
      refine lv_iload (pc := 30) hx hb dX11_doubted_30 (lv_at hl 4 rfl) ?_
      refine hCallI (pc := 32) (wr := []) (wsf := fun (u : Unit) => [oX11 q m_kinds m_weighings m_spanLow m_spanHigh m_events m_days m_edges m_crew m_breakages, aJ K (q 33) 3721 m_choose]) [0, 1] [] (va_runV (As := [.int p1, .int p2, .int p3, .int p4]) (rest := []) ⟨hx, hb, hml, hown, hts⟩ (c_X11_isDoubted l G K tb q H.size m_kinds m_weighings m_spanLow m_spanHigh m_events m_days m_edges m_crew m_breakages _ p1 p2 p3 p4 m_choose hw) (cwV 4 hts gX11_doubted_X11_isDoubted rfl rfl rfl (by decide +kernel) ⟨Nat.le_of_ble_eq_true rfl, Nat.le_of_ble_eq_true rfl⟩) (hPreV hE hP hK hD hS hA [0, 1] (by decide) rfl rfl rfl rfl (q0 := 0) (ci := 11) rfl) rfl rfl hl.1 rfl (lv_room (Nat.le_of_ble_eq_true rfl)) dX11_doubted_32 ⟨Nat.zero_le _, Nat.zero_le _⟩) hP hD hS hA rfl rfl (by decide) (by decide) (fun r_5 u H locs hw hP hD hS => ?_)
      have hP : va_P G vwCl [oX11 q m_kinds m_weighings m_spanLow m_spanHigh m_events m_days m_edges m_crew m_breakages, aJ K (q 33) 3721 m_choose] H := hP.sub [0, 1] rfl
      have hD : va_D A [oX11 q m_kinds m_weighings m_spanLow m_spanHigh m_events m_days m_edges m_crew m_breakages, aJ K (q 33) 3721 m_choose] := hD.sub [0, 1] (by decide) rfl
      have K_v_7 : ∀ v_7 : Int32, v_7 = (if r_5 = (0 : Int32) then (0 : Int32) else (1 : Int32)) → W p l e rm_X11_doubted s m av below meth c H locs 0 0 Q (F0 m 48 ls [.int v_7]) := by
        intro v_7 ev_7
        replace hw := hw v_7 ev_7
        exact hRetI (S := Unit) () hx hb hr hlocks hQ hw hP hK hD hS dX11_doubted_48
      refine lv_if_eq (pc := 35) (tgt := 42) hx hb dX11_doubted_35 (by decide) (fun c_6 => ?_) (fun c_6 => ?_)
      · skip
        refine lv_iconst (pc := 42) (v := (0 : Int32)) hx hb dX11_doubted_42 (by decide) ?_
        refine lv_goto (pc := 43) (tgt := 48) hx hb dX11_doubted_43 (by decide) ?_
        exact K_v_7 _ (by rw [if_pos c_6])
      · skip
        refine lv_iconst (pc := 38) (v := (1 : Int32)) hx hb dX11_doubted_38 (by decide) ?_
        refine lv_goto (pc := 39) (tgt := 48) hx hb dX11_doubted_39 (by decide) ?_
        exact K_v_7 _ (by rw [if_neg c_6])
def P_X11_bound (post : Int32 → Prop) (p1 : Int32) (p2 : Int32) (p3 : Int32) (p4 : Int32) (m_choose : Nat → Int64) : Prop :=
  ∀ (X19 : Int32 → Int32 → Prop),
  (∀ (x5 : Int32) (x6 : Int32), (((((p1 - p2) + p3) < x6 → post x5) ∧ (¬ ((p1 - p2) + p3) < x6 → P_X11_isDoubted (fun r_4 => ∀ v_8 : Int32, v_8 = (if r_4 = (0 : Int32) then (if p4 = (0 : Int32) then (if x5 = (-9 : Int32) then (1 : Int32) else (0 : Int32)) else (1 : Int32)) else (0 : Int32)) → ∀ v_10 : Int32, v_10 = (if v_8 = (0 : Int32) then x5 else x6) → ∀ y_11 : Int32, y_11 = (x6 + (1 : Int32)) → X19 v_10 y_11) p1 p2 p3 x6 m_choose))) → X19 x5 x6) →
  P_X11_areBags (fun r_1 => ((r_1 = (0 : Int32) → post (-2 : Int32)) ∧ (¬ r_1 = (0 : Int32) → X19 (-9 : Int32) p3))) p1 p2 p3
abbrev rm_X11_bound : Room := { frames := 2, cells := 0, slots := 0, locals := 54 }
set_option maxHeartbeats 4000000 in
set_option maxRecDepth 100000 in
theorem c_X11_bound (l : Launch) (G : va_G) (K : ClassId × ClassId × ClassId) (tb q : Nat → Nat) (sz : Nat) (m_kinds : Int32) (m_weighings : Int32) (m_spanLow : Int32) (m_spanHigh : Int32) (m_events : Int32) (m_days : Int32) (m_edges : Int32) (m_crew : Int32) (m_breakages : Int32) (post : Int32 → Prop) (p1 : Int32) (p2 : Int32) (p3 : Int32) (p4 : Int32) (m_choose : Nat → Int64) (hw : P_X11_bound post p1 p2 p3 p4 m_choose) : Met l yX11_bound wsX11_bound rm_X11_bound (va_Pc [.ref (q 0), .int p1, .int p2, .int p3, .int p4] (hPre G K tb [oX11 q m_kinds m_weighings m_spanLow m_spanHigh m_events m_days m_edges m_crew m_breakages, aJ K (q 33) 3721 m_choose] sz)) (va_Qi (fun (r : Int32) (u : Unit) => post r) (fun u => hB G K (va_A [oX11 q m_kinds m_weighings m_spanLow m_spanHigh m_events m_days m_edges m_crew m_breakages, aJ K (q 33) 3721 m_choose] sz) [oX11 q m_kinds m_weighings m_spanLow m_spanHigh m_events m_days m_edges m_crew m_breakages, aJ K (q 33) 3721 m_choose]) (va_A [oX11 q m_kinds m_weighings m_spanLow m_spanHigh m_events m_days m_edges m_crew m_breakages, aJ K (q 33) 3721 m_choose] sz)) 0 0 (va_A [oX11 q m_kinds m_weighings m_spanLow m_spanHigh m_events m_days m_edges m_crew m_breakages, aJ K (q 33) 3721 m_choose] sz) := by
  refine hMet (fun A => va_Qi (fun (r : Int32) (u : Unit) => post r) (fun u => hB G K A [oX11 q m_kinds m_weighings m_spanLow m_spanHigh m_events m_days m_edges m_crew m_breakages, aJ K (q 33) 3721 m_choose]) A) (by decide) rfl (Nat.le_of_ble_eq_true rfl) ?_
  intro p e s m av below meth c A Q ls hx hb hr hml hts hown hlocks hnm hA hP hK hD hS hE hQ hl
  have hts : ∀ w ∈ wsX11_bound, w.before av s = true := hts
  have hown : s.vm.findClass RX11 = some m.cls := hown
  have hl : lv_has ls 8 [(0, .ref (q 0)), (1, .int p1), (2, .int p2), (3, .int p3), (4, .int p4)] := hl
  unfold P_X11_bound at hw
  replace hw := hw (fun (x5 : Int32) (x6 : Int32) => ∀ (H : Heap) (locs : List Loc) (ls : Array Slot), va_P G vwCl [oX11 q m_kinds m_weighings m_spanLow m_spanHigh m_events m_days m_edges m_crew m_breakages, aJ K (q 33) 3721 m_choose] H → va_D A [oX11 q m_kinds m_weighings m_spanLow m_spanHigh m_events m_days m_edges m_crew m_breakages, aJ K (q 33) 3721 m_choose] → va_S A s.heap H locs → lv_has ls 8 [(0, .ref (q 0)), (1, .int p1), (2, .int p2), (3, .int p3), (4, .int p4), (5, .int x5), (6, .int x6)] → W p l e rm_X11_bound s m av below meth c H locs 0 0 Q (F0 m 19 ls []))
  replace hw := hw (by
    intro x5 x6 hw H locs ls hP hD hS hl
    refine lv_iload (pc := 19) hx hb dX11_bound_19 (lv_at hl 6 rfl) ?_
    refine lv_iload_n (pc := 21) hx hb dX11_bound_21 rfl (lv_at hl 1 rfl) ?_
    refine lv_iload_n (pc := 22) hx hb dX11_bound_22 rfl (lv_at hl 2 rfl) ?_
    refine lv_isub (pc := 23) hx hb dX11_bound_23 ?_
    refine lv_iload_n (pc := 24) hx hb dX11_bound_24 rfl (lv_at hl 3 rfl) ?_
    refine lv_iadd (pc := 25) hx hb dX11_bound_25 ?_
    refine lv_icmp_gt (pc := 26) (tgt := 80) hx hb dX11_bound_26 (by decide) (fun c_3 => ?_) (fun c_3 => ?_)
    · replace hw := hw.1 c_3
      refine lv_iload (pc := 80) hx hb dX11_bound_80 (lv_at hl 5 rfl) ?_
      exact hRetI (S := Unit) () hx hb hr hlocks hQ hw hP hK hD hS dX11_bound_82
    · replace hw := hw.2 c_3
      refine lv_aload_n (pc := 29) hx hb dX11_bound_29 rfl (lv_at hl 0 rfl) ?_
      refine lv_iload_n (pc := 30) hx hb dX11_bound_30 rfl (lv_at hl 1 rfl) ?_
      refine lv_iload_n (pc := 31) hx hb dX11_bound_31 rfl (lv_at hl 2 rfl) ?_
      refine lv_iload_n (pc := 32) hx hb dX11_bound_32 rfl (lv_at hl 3 rfl) ?_
      refine lv_iload (pc := 33) hx hb dX11_bound_33 (lv_at hl 6 rfl) ?_
      refine hCallI (pc := 35) (wr := []) (wsf := fun (u : Unit) => [oX11 q m_kinds m_weighings m_spanLow m_spanHigh m_events m_days m_edges m_crew m_breakages, aJ K (q 33) 3721 m_choose]) [0, 1] [] (va_runV (As := [.int p1, .int p2, .int p3, .int x6]) (rest := []) ⟨hx, hb, hml, hown, hts⟩ (c_X11_isDoubted l G K tb q H.size m_kinds m_weighings m_spanLow m_spanHigh m_events m_days m_edges m_crew m_breakages _ p1 p2 p3 x6 m_choose hw) (cwV 4 hts gX11_bound_X11_isDoubted rfl rfl rfl (by decide +kernel) ⟨Nat.le_of_ble_eq_true rfl, Nat.le_of_ble_eq_true rfl⟩) (hPreV hE hP hK hD hS hA [0, 1] (by decide) rfl rfl rfl rfl (q0 := 0) (ci := 11) rfl) rfl rfl hl.1 rfl (lv_room (Nat.le_of_ble_eq_true rfl)) dX11_bound_35 ⟨Nat.zero_le _, Nat.zero_le _⟩) hP hD hS hA rfl rfl (by decide) (by decide) (fun r_4 u H locs hw hP hD hS => ?_)
      have hP : va_P G vwCl [oX11 q m_kinds m_weighings m_spanLow m_spanHigh m_events m_days m_edges m_crew m_breakages, aJ K (q 33) 3721 m_choose] H := hP.sub [0, 1] rfl
      have hD : va_D A [oX11 q m_kinds m_weighings m_spanLow m_spanHigh m_events m_days m_edges m_crew m_breakages, aJ K (q 33) 3721 m_choose] := hD.sub [0, 1] (by decide) rfl
      have K_v_8 : ∀ v_8 : Int32, v_8 = (if r_4 = (0 : Int32) then (if p4 = (0 : Int32) then (if x5 = (-9 : Int32) then (1 : Int32) else (0 : Int32)) else (1 : Int32)) else (0 : Int32)) → W p l e rm_X11_bound s m av below meth c H locs 0 0 Q (F0 m 58 ls [.int v_8]) := by
        intro v_8 ev_8
        replace hw := hw v_8 ev_8
        refine lv_istore (pc := 58) (lv' := [(7, .int v_8), (0, .ref (q 0)), (1, .int p1), (2, .int p2), (3, .int p3), (4, .int p4), (5, .int x5), (6, .int x6)]) hx hb dX11_bound_58 hl (by decide) rfl (fun ls hl => ?_)
        refine lv_iload (pc := 60) hx hb dX11_bound_60 (lv_at hl 0 rfl) ?_
        have K_v_10 : ∀ v_10 : Int32, v_10 = (if v_8 = (0 : Int32) then x5 else x6) → W p l e rm_X11_bound s m av below meth c H locs 0 0 Q (F0 m 72 ls [.int v_10]) := by
          intro v_10 ev_10
          replace hw := hw v_10 ev_10
          refine lv_istore (pc := 72) (lv' := [(5, .int v_10), (7, .int v_8), (0, .ref (q 0)), (1, .int p1), (2, .int p2), (3, .int p3), (4, .int p4), (6, .int x6)]) hx hb dX11_bound_72 hl (by decide) rfl (fun ls hl => ?_)
          obtain ⟨y_11, ey_11⟩ : ∃ z : Int32, z = (x6 + (1 : Int32)) := ⟨_, rfl⟩
          replace hw := hw y_11 ey_11
          refine lv_iinc (pc := 74) (v := y_11) (lv' := [(6, .int y_11), (5, .int v_10), (7, .int v_8), (0, .ref (q 0)), (1, .int p1), (2, .int p2), (3, .int p3), (4, .int p4)]) hx hb dX11_bound_74 hl (k := 7) rfl (by rw [ey_11]; rfl) (by decide) rfl (fun ls hl => ?_)
          refine lv_goto (pc := 77) (tgt := 19) hx hb dX11_bound_77 (by decide) ?_
          exact hw _ _ _ hP hD hS (lv_sub hl [3, 4, 5, 6, 7, 1, 0] rfl)
        refine lv_if_eq (pc := 62) (tgt := 70) hx hb dX11_bound_62 (by decide) (fun c_9 => ?_) (fun c_9 => ?_)
        · skip
          refine lv_iload (pc := 70) hx hb dX11_bound_70 (lv_at hl 6 rfl) ?_
          exact K_v_10 _ (by rw [if_pos c_9])
        · skip
          refine lv_iload (pc := 65) hx hb dX11_bound_65 (lv_at hl 7 rfl) ?_
          refine lv_goto (pc := 67) (tgt := 72) hx hb dX11_bound_67 (by decide) ?_
          exact K_v_10 _ (by rw [if_neg c_9])
      refine lv_if_ne (pc := 38) (tgt := 57) hx hb dX11_bound_38 (by decide) (fun c_5 => ?_) (fun c_5 => ?_)
      · skip
        refine lv_iconst (pc := 57) (v := (0 : Int32)) hx hb dX11_bound_57 (by decide) ?_
        exact K_v_8 _ (by rw [if_neg c_5])
      · skip
        refine lv_iload (pc := 41) hx hb dX11_bound_41 (lv_at hl 4 rfl) ?_
        refine lv_if_ne (pc := 43) (tgt := 53) hx hb dX11_bound_43 (by decide) (fun c_6 => ?_) (fun c_6 => ?_)
        · skip
          refine lv_iconst (pc := 53) (v := (1 : Int32)) hx hb dX11_bound_53 (by decide) ?_
          refine lv_goto (pc := 54) (tgt := 58) hx hb dX11_bound_54 (by decide) ?_
          exact K_v_8 _ (by rw [if_pos c_5, if_neg c_6])
        · skip
          refine lv_iload (pc := 46) hx hb dX11_bound_46 (lv_at hl 5 rfl) ?_
          refine lv_bipush (pc := 48) (v := (-9 : Int32)) hx hb dX11_bound_48 (by decide) ?_
          refine lv_icmp_ne (pc := 50) (tgt := 57) hx hb dX11_bound_50 (by decide) (fun c_7 => ?_) (fun c_7 => ?_)
          · skip
            refine lv_iconst (pc := 57) (v := (0 : Int32)) hx hb dX11_bound_57 (by decide) ?_
            exact K_v_8 _ (by rw [if_pos c_5, if_pos c_6, if_neg c_7])
          · skip
            refine lv_iconst (pc := 53) (v := (1 : Int32)) hx hb dX11_bound_53 (by decide) ?_
            refine lv_goto (pc := 54) (tgt := 58) hx hb dX11_bound_54 (by decide) ?_
            exact K_v_8 _ (by rw [if_pos c_5, if_pos c_6, if_pos c_7]))
  refine lv_iload_n (pc := 0) hx hb dX11_bound_0 rfl (lv_at hl 1 rfl) ?_
  refine lv_iload_n (pc := 1) hx hb dX11_bound_1 rfl (lv_at hl 2 rfl) ?_
  refine lv_iload_n (pc := 2) hx hb dX11_bound_2 rfl (lv_at hl 3 rfl) ?_
  refine hCallI (pc := 3) (wr := [oX11 q m_kinds m_weighings m_spanLow m_spanHigh m_events m_days m_edges m_crew m_breakages, aJ K (q 33) 3721 m_choose]) (wsf := fun (u : Unit) => []) [] [0, 1] (va_runS (As := [.int p1, .int p2, .int p3]) (rest := []) ⟨hx, hb, hml, hown, hts⟩ (c_X11_areBags l G K tb q s.heap.size _ p1 p2 p3 hw) (va_cwS 3 hts gX11_bound_X11_areBags rfl rfl rfl (by decide +kernel) ⟨Nat.le_of_ble_eq_true rfl, Nat.le_of_ble_eq_true rfl⟩) (hPreS hE hP hK hD hS hA [] (by decide) rfl rfl) rfl rfl hl.1 rfl (lv_room (Nat.le_of_ble_eq_true rfl)) dX11_bound_3 ⟨Nat.zero_le _, Nat.zero_le _⟩) hP hD hS hA rfl rfl (by decide) (by decide) (fun r_1 u H locs hw hP hD hS => ?_)
  have hP : va_P G vwCl [oX11 q m_kinds m_weighings m_spanLow m_spanHigh m_events m_days m_edges m_crew m_breakages, aJ K (q 33) 3721 m_choose] H := hP.sub [0, 1] rfl
  have hD : va_D A [oX11 q m_kinds m_weighings m_spanLow m_spanHigh m_events m_days m_edges m_crew m_breakages, aJ K (q 33) 3721 m_choose] := hD.sub [0, 1] (by decide) rfl
  refine lv_if_ne (pc := 6) (tgt := 12) hx hb dX11_bound_6 (by decide) (fun c_2 => ?_) (fun c_2 => ?_)
  · replace hw := hw.2 c_2
    refine lv_bipush (pc := 12) (v := (-9 : Int32)) hx hb dX11_bound_12 (by decide) ?_
    refine lv_istore (pc := 14) (lv' := [(5, .int (-9 : Int32)), (0, .ref (q 0)), (1, .int p1), (2, .int p2), (3, .int p3), (4, .int p4)]) hx hb dX11_bound_14 hl (by decide) rfl (fun ls hl => ?_)
    refine lv_iload_n (pc := 16) hx hb dX11_bound_16 rfl (lv_at hl 4 rfl) ?_
    refine lv_istore (pc := 17) (lv' := [(6, .int p3), (5, .int (-9 : Int32)), (0, .ref (q 0)), (1, .int p1), (2, .int p2), (3, .int p3), (4, .int p4)]) hx hb dX11_bound_17 hl (by decide) rfl (fun ls hl => ?_)
    exact hw _ _ _ hP hD hS (lv_sub hl [2, 3, 4, 5, 6, 1, 0] rfl)
  · replace hw := hw.1 c_2
    refine lv_bipush (pc := 9) (v := (-2 : Int32)) hx hb dX11_bound_9 (by decide) ?_
    exact hRetI (S := Unit) () hx hb hr hlocks hQ hw hP hK hD hS dX11_bound_11
def P_X11_broke (post : Int32 → Int32 → (Nat → Int32) → (Nat → Int32) → (Nat → Int32) → Prop) (p1 : Int32) (p2 : Int32) (p3 : Int32) (m_breakages : Int32) (m_brokeNight : Nat → Int32) (m_brokeShift : Nat → Int32) (m_brokeMany : Nat → Int32) : Prop :=
  P_X11_in (fun r_1 => ((r_1 = (0 : Int32) → post (-2 : Int32) m_breakages m_brokeNight m_brokeShift m_brokeMany) ∧ (¬ r_1 = (0 : Int32) → P_X11_in (fun r_3 => ((r_3 = (0 : Int32) → post (-2 : Int32) m_breakages m_brokeNight m_brokeShift m_brokeMany) ∧ (¬ r_3 = (0 : Int32) → P_X11_in (fun r_5 => ((r_5 = (0 : Int32) → post (-2 : Int32) m_breakages m_brokeNight m_brokeShift m_brokeMany) ∧ (¬ r_5 = (0 : Int32) → ((m_breakages = (60 : Int32) → post (-4 : Int32) m_breakages m_brokeNight m_brokeShift m_brokeMany) ∧ (¬ m_breakages = (60 : Int32) → vp_in m_breakages 60 ∧ ∀ m_brokeNight_9 : Nat → Int32, m_brokeNight_9 = upd m_brokeNight m_breakages.toNatClampNeg p1 → ∀ m_brokeShift_10 : Nat → Int32, m_brokeShift_10 = upd m_brokeShift m_breakages.toNatClampNeg p2 → ∀ m_brokeMany_11 : Nat → Int32, m_brokeMany_11 = upd m_brokeMany m_breakages.toNatClampNeg p3 → ∀ y_12 : Int32, y_12 = (m_breakages + (1 : Int32)) → post y_12 y_12 m_brokeNight_9 m_brokeShift_10 m_brokeMany_11))))) p3.toInt64 (1 : Int64) (99 : Int64)))) p2.toInt64 (0 : Int64) (2 : Int64)))) p1.toInt64 (0 : Int64) (999 : Int64)
abbrev rm_X11_broke : Room := { frames := 1, cells := 0, slots := 0, locals := 25 }
theorem iw_X11_broke_X11 : ∀ w ∈ wsX110, w ∈ wsX11_broke := by decide +kernel
set_option maxHeartbeats 4000000 in
set_option maxRecDepth 100000 in
theorem c_X11_broke (l : Launch) (G : va_G) (K : ClassId × ClassId × ClassId) (tb q : Nat → Nat) (sz : Nat) (m_kinds : Int32) (m_weighings : Int32) (m_spanLow : Int32) (m_spanHigh : Int32) (m_events : Int32) (m_days : Int32) (m_edges : Int32) (m_crew : Int32) (post : Int32 → Int32 → (Nat → Int32) → (Nat → Int32) → (Nat → Int32) → Prop) (p1 : Int32) (p2 : Int32) (p3 : Int32) (m_breakages : Int32) (m_brokeNight : Nat → Int32) (m_brokeShift : Nat → Int32) (m_brokeMany : Nat → Int32) (hw : P_X11_broke post p1 p2 p3 m_breakages m_brokeNight m_brokeShift m_brokeMany) : Met l yX11_broke wsX11_broke rm_X11_broke (va_Pc [.ref (q 0), .int p1, .int p2, .int p3] (hPre G K tb [oX11 q m_kinds m_weighings m_spanLow m_spanHigh m_events m_days m_edges m_crew m_breakages, aI K (q 34) 60 m_brokeNight, aI K (q 35) 60 m_brokeShift, aI K (q 36) 60 m_brokeMany] sz)) (va_Qi (fun (r : Int32) (u : Int32 × (Nat → Int32) × (Nat → Int32) × (Nat → Int32)) => post r u.1 u.2.1 u.2.2.1 u.2.2.2) (fun u => hB G K (va_A [oX11 q m_kinds m_weighings m_spanLow m_spanHigh m_events m_days m_edges m_crew m_breakages, aI K (q 34) 60 m_brokeNight, aI K (q 35) 60 m_brokeShift, aI K (q 36) 60 m_brokeMany] sz) [oX11 q m_kinds m_weighings m_spanLow m_spanHigh m_events m_days m_edges m_crew u.1, aI K (q 34) 60 u.2.1, aI K (q 35) 60 u.2.2.1, aI K (q 36) 60 u.2.2.2]) (va_A [oX11 q m_kinds m_weighings m_spanLow m_spanHigh m_events m_days m_edges m_crew m_breakages, aI K (q 34) 60 m_brokeNight, aI K (q 35) 60 m_brokeShift, aI K (q 36) 60 m_brokeMany] sz)) 0 0 (va_A [oX11 q m_kinds m_weighings m_spanLow m_spanHigh m_events m_days m_edges m_crew m_breakages, aI K (q 34) 60 m_brokeNight, aI K (q 35) 60 m_brokeShift, aI K (q 36) 60 m_brokeMany] sz) := by
  refine hMet (fun A => va_Qi (fun (r : Int32) (u : Int32 × (Nat → Int32) × (Nat → Int32) × (Nat → Int32)) => post r u.1 u.2.1 u.2.2.1 u.2.2.2) (fun u => hB G K A [oX11 q m_kinds m_weighings m_spanLow m_spanHigh m_events m_days m_edges m_crew u.1, aI K (q 34) 60 u.2.1, aI K (q 35) 60 u.2.2.1, aI K (q 36) 60 u.2.2.2]) A) (by decide) rfl (Nat.le_of_ble_eq_true rfl) ?_
  intro p e s m av below meth c A Q ls hx hb hr hml hts hown hlocks hnm hA hP hK hD hS hE hQ hl
  have hts : ∀ w ∈ wsX11_broke, w.before av s = true := hts
  have hown : s.vm.findClass RX11 = some m.cls := hown
  have hl : lv_has ls 4 [(0, .ref (q 0)), (1, .int p1), (2, .int p2), (3, .int p3)] := hl
  unfold P_X11_broke at hw
  refine lv_iload_n (pc := 0) hx hb dX11_broke_0 rfl (lv_at hl 1 rfl) ?_
  refine lv_i2l (pc := 1) hx hb dX11_broke_1 rfl ?_
  refine lv_lconst (pc := 2) (v := (0 : Int64)) hx hb dX11_broke_2 (by decide) ?_
  refine lv_ldc2 (pc := 3) (v := (999 : Int64)) hx hb hown (hts _ (List.mem_of_getElem? (i := 1) rfl)) dX11_broke_3 ?_
  refine hCallI (pc := 6) (wr := [oX11 q m_kinds m_weighings m_spanLow m_spanHigh m_events m_days m_edges m_crew m_breakages, aI K (q 34) 60 m_brokeNight, aI K (q 35) 60 m_brokeShift, aI K (q 36) 60 m_brokeMany]) (wsf := fun (u : Unit) => []) [] [0, 1, 2, 3] (va_runS (As := [.long p1.toInt64, .long (0 : Int64), .long (999 : Int64)]) (rest := []) ⟨hx, hb, hml, hown, hts⟩ (c_X11_in l G K tb q s.heap.size _ p1.toInt64 (0 : Int64) (999 : Int64) hw) (va_cwS 3 hts gX11_broke_X11_in rfl rfl rfl (by decide +kernel) ⟨Nat.le_of_ble_eq_true rfl, Nat.le_of_ble_eq_true rfl⟩) (hPreS hE hP hK hD hS hA [] (by decide) rfl rfl) rfl rfl hl.1 rfl (lv_room (Nat.le_of_ble_eq_true rfl)) dX11_broke_6 ⟨Nat.zero_le _, Nat.zero_le _⟩) hP hD hS hA rfl rfl (by decide) (by decide) (fun r_1 u H locs hw hP hD hS => ?_)
  have hP : va_P G vwCl [oX11 q m_kinds m_weighings m_spanLow m_spanHigh m_events m_days m_edges m_crew m_breakages, aI K (q 34) 60 m_brokeNight, aI K (q 35) 60 m_brokeShift, aI K (q 36) 60 m_brokeMany] H := hP.sub [0, 1, 2, 3] rfl
  have hD : va_D A [oX11 q m_kinds m_weighings m_spanLow m_spanHigh m_events m_days m_edges m_crew m_breakages, aI K (q 34) 60 m_brokeNight, aI K (q 35) 60 m_brokeShift, aI K (q 36) 60 m_brokeMany] := hD.sub [0, 1, 2, 3] (by decide) rfl
  refine lv_if_eq (pc := 9) (tgt := 36) hx hb dX11_broke_9 (by decide) (fun c_2 => ?_) (fun c_2 => ?_)
  · replace hw := hw.1 c_2
    refine lv_bipush (pc := 36) (v := (-2 : Int32)) hx hb dX11_broke_36 (by decide) ?_
    exact hRetI (S := Int32 × (Nat → Int32) × (Nat → Int32) × (Nat → Int32)) (m_breakages, m_brokeNight, m_brokeShift, m_brokeMany) hx hb hr hlocks hQ hw hP hK hD hS dX11_broke_38
  · replace hw := hw.2 c_2
    refine lv_iload_n (pc := 12) hx hb dX11_broke_12 rfl (lv_at hl 2 rfl) ?_
    refine lv_i2l (pc := 13) hx hb dX11_broke_13 rfl ?_
    refine lv_lconst (pc := 14) (v := (0 : Int64)) hx hb dX11_broke_14 (by decide) ?_
    refine lv_ldc2 (pc := 15) (v := (2 : Int64)) hx hb hown (hts _ (List.mem_of_getElem? (i := 2) rfl)) dX11_broke_15 ?_
    refine hCallI (pc := 18) (wr := [oX11 q m_kinds m_weighings m_spanLow m_spanHigh m_events m_days m_edges m_crew m_breakages, aI K (q 34) 60 m_brokeNight, aI K (q 35) 60 m_brokeShift, aI K (q 36) 60 m_brokeMany]) (wsf := fun (u : Unit) => []) [] [0, 1, 2, 3] (va_runS (As := [.long p2.toInt64, .long (0 : Int64), .long (2 : Int64)]) (rest := []) ⟨hx, hb, hml, hown, hts⟩ (c_X11_in l G K tb q H.size _ p2.toInt64 (0 : Int64) (2 : Int64) hw) (va_cwS 3 hts gX11_broke_X11_in rfl rfl rfl (by decide +kernel) ⟨Nat.le_of_ble_eq_true rfl, Nat.le_of_ble_eq_true rfl⟩) (hPreS hE hP hK hD hS hA [] (by decide) rfl rfl) rfl rfl hl.1 rfl (lv_room (Nat.le_of_ble_eq_true rfl)) dX11_broke_18 ⟨Nat.zero_le _, Nat.zero_le _⟩) hP hD hS hA rfl rfl (by decide) (by decide) (fun r_3 u H locs hw hP hD hS => ?_)
    have hP : va_P G vwCl [oX11 q m_kinds m_weighings m_spanLow m_spanHigh m_events m_days m_edges m_crew m_breakages, aI K (q 34) 60 m_brokeNight, aI K (q 35) 60 m_brokeShift, aI K (q 36) 60 m_brokeMany] H := hP.sub [0, 1, 2, 3] rfl
    have hD : va_D A [oX11 q m_kinds m_weighings m_spanLow m_spanHigh m_events m_days m_edges m_crew m_breakages, aI K (q 34) 60 m_brokeNight, aI K (q 35) 60 m_brokeShift, aI K (q 36) 60 m_brokeMany] := hD.sub [0, 1, 2, 3] (by decide) rfl
    refine lv_if_eq (pc := 21) (tgt := 36) hx hb dX11_broke_21 (by decide) (fun c_4 => ?_) (fun c_4 => ?_)
    · replace hw := hw.1 c_4
      refine lv_bipush (pc := 36) (v := (-2 : Int32)) hx hb dX11_broke_36 (by decide) ?_
      exact hRetI (S := Int32 × (Nat → Int32) × (Nat → Int32) × (Nat → Int32)) (m_breakages, m_brokeNight, m_brokeShift, m_brokeMany) hx hb hr hlocks hQ hw hP hK hD hS dX11_broke_38
    · replace hw := hw.2 c_4
      refine lv_iload_n (pc := 24) hx hb dX11_broke_24 rfl (lv_at hl 3 rfl) ?_
      refine lv_i2l (pc := 25) hx hb dX11_broke_25 rfl ?_
      refine lv_lconst (pc := 26) (v := (1 : Int64)) hx hb dX11_broke_26 (by decide) ?_
      refine lv_ldc2 (pc := 27) (v := (99 : Int64)) hx hb hown (hts _ (List.mem_of_getElem? (i := 3) rfl)) dX11_broke_27 ?_
      refine hCallI (pc := 30) (wr := [oX11 q m_kinds m_weighings m_spanLow m_spanHigh m_events m_days m_edges m_crew m_breakages, aI K (q 34) 60 m_brokeNight, aI K (q 35) 60 m_brokeShift, aI K (q 36) 60 m_brokeMany]) (wsf := fun (u : Unit) => []) [] [0, 1, 2, 3] (va_runS (As := [.long p3.toInt64, .long (1 : Int64), .long (99 : Int64)]) (rest := []) ⟨hx, hb, hml, hown, hts⟩ (c_X11_in l G K tb q H.size _ p3.toInt64 (1 : Int64) (99 : Int64) hw) (va_cwS 3 hts gX11_broke_X11_in rfl rfl rfl (by decide +kernel) ⟨Nat.le_of_ble_eq_true rfl, Nat.le_of_ble_eq_true rfl⟩) (hPreS hE hP hK hD hS hA [] (by decide) rfl rfl) rfl rfl hl.1 rfl (lv_room (Nat.le_of_ble_eq_true rfl)) dX11_broke_30 ⟨Nat.zero_le _, Nat.zero_le _⟩) hP hD hS hA rfl rfl (by decide) (by decide) (fun r_5 u H locs hw hP hD hS => ?_)
      have hP : va_P G vwCl [oX11 q m_kinds m_weighings m_spanLow m_spanHigh m_events m_days m_edges m_crew m_breakages, aI K (q 34) 60 m_brokeNight, aI K (q 35) 60 m_brokeShift, aI K (q 36) 60 m_brokeMany] H := hP.sub [0, 1, 2, 3] rfl
      have hD : va_D A [oX11 q m_kinds m_weighings m_spanLow m_spanHigh m_events m_days m_edges m_crew m_breakages, aI K (q 34) 60 m_brokeNight, aI K (q 35) 60 m_brokeShift, aI K (q 36) 60 m_brokeMany] := hD.sub [0, 1, 2, 3] (by decide) rfl
      refine lv_if_ne (pc := 33) (tgt := 39) hx hb dX11_broke_33 (by decide) (fun c_6 => ?_) (fun c_6 => ?_)
      · replace hw := hw.2 c_6
        refine lv_aload_n (pc := 39) hx hb dX11_broke_39 rfl (lv_at hl 0 rfl) ?_
        refine va_get (pc := 40) (D := G) (ci := 11) (v := .int m_breakages) (C := RX11) (T := TX11) (N := 45) hx hb hts iw_X11_broke_X11 hown hK hP 0 rfl rfl 41 (by decide) (hts _ (List.mem_of_getElem? (i := 4) rfl)) (fun _ h9 => h9) rfl dX11_broke_40 ?_
        refine lv_bipush (pc := 43) (v := (60 : Int32)) hx hb dX11_broke_43 (by decide) ?_
        refine lv_icmp_ne (pc := 45) (tgt := 51) hx hb dX11_broke_45 (by decide) (fun c_7 => ?_) (fun c_7 => ?_)
        · replace hw := hw.2 c_7
          refine lv_aload_n (pc := 51) hx hb dX11_broke_51 rfl (lv_at hl 0 rfl) ?_
          refine va_get (pc := 52) (D := G) (ci := 11) (v := .ref (q 34)) (C := RX11) (T := TX11) (N := 45) hx hb hts iw_X11_broke_X11 hown hK hP 0 rfl rfl 42 (by decide) (hts _ (List.mem_of_getElem? (i := 5) rfl)) (fun _ h9 => h9) rfl dX11_broke_52 ?_
          refine lv_aload_n (pc := 55) hx hb dX11_broke_55 rfl (lv_at hl 0 rfl) ?_
          refine va_get (pc := 56) (D := G) (ci := 11) (v := .int m_breakages) (C := RX11) (T := TX11) (N := 45) hx hb hts iw_X11_broke_X11 hown hK hP 0 rfl rfl 41 (by decide) (hts _ (List.mem_of_getElem? (i := 4) rfl)) (fun _ h9 => h9) rfl dX11_broke_56 ?_
          refine lv_iload_n (pc := 59) hx hb dX11_broke_59 rfl (lv_at hl 1 rfl) ?_
          obtain ⟨h_8, hw⟩ := hw
          refine va_iast (pc := 60) hx hb hK hP hD hS 1 0 rfl rfl h_8 dX11_broke_60 (fun H locs hP hD hS => ?_)
          obtain ⟨m_brokeNight_9, em_brokeNight_9⟩ : ∃ z : Nat → Int32, z = upd m_brokeNight m_breakages.toNatClampNeg p1 := ⟨_, rfl⟩
          have hP : va_P G vwCl [oX11 q m_kinds m_weighings m_spanLow m_spanHigh m_events m_days m_edges m_crew m_breakages, aI K (q 34) 60 m_brokeNight_9, aI K (q 35) 60 m_brokeShift, aI K (q 36) 60 m_brokeMany] H := by rw [em_brokeNight_9]; exact hP
          have hD : va_D A [oX11 q m_kinds m_weighings m_spanLow m_spanHigh m_events m_days m_edges m_crew m_breakages, aI K (q 34) 60 m_brokeNight_9, aI K (q 35) 60 m_brokeShift, aI K (q 36) 60 m_brokeMany] := by rw [em_brokeNight_9]; exact hD
          replace hw := hw m_brokeNight_9 em_brokeNight_9
          refine lv_aload_n (pc := 61) hx hb dX11_broke_61 rfl (lv_at hl 0 rfl) ?_
          refine va_get (pc := 62) (D := G) (ci := 11) (v := .ref (q 35)) (C := RX11) (T := TX11) (N := 45) hx hb hts iw_X11_broke_X11 hown hK hP 0 rfl rfl 43 (by decide) (hts _ (List.mem_of_getElem? (i := 6) rfl)) (fun _ h9 => h9) rfl dX11_broke_62 ?_
          refine lv_aload_n (pc := 65) hx hb dX11_broke_65 rfl (lv_at hl 0 rfl) ?_
          refine va_get (pc := 66) (D := G) (ci := 11) (v := .int m_breakages) (C := RX11) (T := TX11) (N := 45) hx hb hts iw_X11_broke_X11 hown hK hP 0 rfl rfl 41 (by decide) (hts _ (List.mem_of_getElem? (i := 4) rfl)) (fun _ h9 => h9) rfl dX11_broke_66 ?_
          refine lv_iload_n (pc := 69) hx hb dX11_broke_69 rfl (lv_at hl 2 rfl) ?_
          refine va_iast (pc := 70) hx hb hK hP hD hS 2 0 rfl rfl h_8 dX11_broke_70 (fun H locs hP hD hS => ?_)
          obtain ⟨m_brokeShift_10, em_brokeShift_10⟩ : ∃ z : Nat → Int32, z = upd m_brokeShift m_breakages.toNatClampNeg p2 := ⟨_, rfl⟩
          have hP : va_P G vwCl [oX11 q m_kinds m_weighings m_spanLow m_spanHigh m_events m_days m_edges m_crew m_breakages, aI K (q 34) 60 m_brokeNight_9, aI K (q 35) 60 m_brokeShift_10, aI K (q 36) 60 m_brokeMany] H := by rw [em_brokeShift_10]; exact hP
          have hD : va_D A [oX11 q m_kinds m_weighings m_spanLow m_spanHigh m_events m_days m_edges m_crew m_breakages, aI K (q 34) 60 m_brokeNight_9, aI K (q 35) 60 m_brokeShift_10, aI K (q 36) 60 m_brokeMany] := by rw [em_brokeShift_10]; exact hD
          replace hw := hw m_brokeShift_10 em_brokeShift_10
          refine lv_aload_n (pc := 71) hx hb dX11_broke_71 rfl (lv_at hl 0 rfl) ?_
          refine va_get (pc := 72) (D := G) (ci := 11) (v := .ref (q 36)) (C := RX11) (T := TX11) (N := 45) hx hb hts iw_X11_broke_X11 hown hK hP 0 rfl rfl 44 (by decide) (hts _ (List.mem_of_getElem? (i := 7) rfl)) (fun _ h9 => h9) rfl dX11_broke_72 ?_
          refine lv_aload_n (pc := 75) hx hb dX11_broke_75 rfl (lv_at hl 0 rfl) ?_
          refine va_get (pc := 76) (D := G) (ci := 11) (v := .int m_breakages) (C := RX11) (T := TX11) (N := 45) hx hb hts iw_X11_broke_X11 hown hK hP 0 rfl rfl 41 (by decide) (hts _ (List.mem_of_getElem? (i := 4) rfl)) (fun _ h9 => h9) rfl dX11_broke_76 ?_
          refine lv_iload_n (pc := 79) hx hb dX11_broke_79 rfl (lv_at hl 3 rfl) ?_
          refine va_iast (pc := 80) hx hb hK hP hD hS 3 0 rfl rfl h_8 dX11_broke_80 (fun H locs hP hD hS => ?_)
          obtain ⟨m_brokeMany_11, em_brokeMany_11⟩ : ∃ z : Nat → Int32, z = upd m_brokeMany m_breakages.toNatClampNeg p3 := ⟨_, rfl⟩
          have hP : va_P G vwCl [oX11 q m_kinds m_weighings m_spanLow m_spanHigh m_events m_days m_edges m_crew m_breakages, aI K (q 34) 60 m_brokeNight_9, aI K (q 35) 60 m_brokeShift_10, aI K (q 36) 60 m_brokeMany_11] H := by rw [em_brokeMany_11]; exact hP
          have hD : va_D A [oX11 q m_kinds m_weighings m_spanLow m_spanHigh m_events m_days m_edges m_crew m_breakages, aI K (q 34) 60 m_brokeNight_9, aI K (q 35) 60 m_brokeShift_10, aI K (q 36) 60 m_brokeMany_11] := by rw [em_brokeMany_11]; exact hD
          replace hw := hw m_brokeMany_11 em_brokeMany_11
          refine lv_aload_n (pc := 81) hx hb dX11_broke_81 rfl (lv_at hl 0 rfl) ?_
          refine lv_dup (pc := 82) hx hb dX11_broke_82 rfl ?_
          refine va_get (pc := 83) (D := G) (ci := 11) (v := .int m_breakages) (C := RX11) (T := TX11) (N := 45) hx hb hts iw_X11_broke_X11 hown hK hP 0 rfl rfl 41 (by decide) (hts _ (List.mem_of_getElem? (i := 4) rfl)) (fun _ h9 => h9) rfl dX11_broke_83 ?_
          refine lv_iconst (pc := 86) (v := (1 : Int32)) hx hb dX11_broke_86 (by decide) ?_
          refine lv_iadd (pc := 87) hx hb dX11_broke_87 ?_
          refine lv_topi (fun y_12 ey_12 => ?_)
          replace hw := hw y_12 ey_12
          refine va_put (pc := 88) (D := G) (ci := 11) (v := .int y_12) (ty := .int) (C := RX11) (T := TX11) (N := 45) hx hb hts iw_X11_broke_X11 tyX11 tyX11_ok nmX11 hown hK hP hD hS 0 rfl rfl 41 (by decide) (hts _ (List.mem_of_getElem? (i := 4) rfl)) (fun _ h9 => h9) rfl (by decide +kernel) rfl rfl (Nat.le_of_ble_eq_true rfl) dX11_broke_88 (fun H locs hP hD hS => ?_)
          have hP : va_P G vwCl [oX11 q m_kinds m_weighings m_spanLow m_spanHigh m_events m_days m_edges m_crew y_12, aI K (q 34) 60 m_brokeNight_9, aI K (q 35) 60 m_brokeShift_10, aI K (q 36) 60 m_brokeMany_11] H := hP
          have hD : va_D A [oX11 q m_kinds m_weighings m_spanLow m_spanHigh m_events m_days m_edges m_crew y_12, aI K (q 34) 60 m_brokeNight_9, aI K (q 35) 60 m_brokeShift_10, aI K (q 36) 60 m_brokeMany_11] := hD
          refine lv_aload_n (pc := 91) hx hb dX11_broke_91 rfl (lv_at hl 0 rfl) ?_
          refine va_get (pc := 92) (D := G) (ci := 11) (v := .int y_12) (C := RX11) (T := TX11) (N := 45) hx hb hts iw_X11_broke_X11 hown hK hP 0 rfl rfl 41 (by decide) (hts _ (List.mem_of_getElem? (i := 4) rfl)) (fun _ h9 => h9) rfl dX11_broke_92 ?_
          exact hRetI (S := Int32 × (Nat → Int32) × (Nat → Int32) × (Nat → Int32)) (y_12, m_brokeNight_9, m_brokeShift_10, m_brokeMany_11) hx hb hr hlocks hQ hw hP hK hD hS dX11_broke_95
        · replace hw := hw.1 c_7
          refine lv_bipush (pc := 48) (v := (-4 : Int32)) hx hb dX11_broke_48 (by decide) ?_
          exact hRetI (S := Int32 × (Nat → Int32) × (Nat → Int32) × (Nat → Int32)) (m_breakages, m_brokeNight, m_brokeShift, m_brokeMany) hx hb hr hlocks hQ hw hP hK hD hS dX11_broke_50
      · replace hw := hw.1 c_6
        refine lv_bipush (pc := 36) (v := (-2 : Int32)) hx hb dX11_broke_36 (by decide) ?_
        exact hRetI (S := Int32 × (Nat → Int32) × (Nat → Int32) × (Nat → Int32)) (m_breakages, m_brokeNight, m_brokeShift, m_brokeMany) hx hb hr hlocks hQ hw hP hK hD hS dX11_broke_38
def P_X11_told (post : Int32 → Prop) (p1 : Int32) (p2 : Int32) (p3 : Int32) (m_breakages : Int32) (m_brokeNight : Nat → Int32) (m_brokeShift : Nat → Int32) (m_brokeMany : Nat → Int32) : Prop :=
  ∀ (X49 : Int32 → Int32 → Int32 → Prop),
  ∀ (X93 : Int32 → Int32 → Int32 → Int32 → Int32 → Prop),
  (∀ (x4 : Int32) (x5 : Int32) (x6 : Int32), (((m_breakages ≤ x6 → ∀ v_9 : Int32, v_9 = (if (3 : Int32) ≤ x4 then x5 else (-9 : Int32)) → post v_9) ∧ (¬ m_breakages ≤ x6 → vp_in x6 60 ∧ (((m_brokeShift x6.toNatClampNeg) = p1 → P_X11_in (fun r_13 => ((r_13 = (0 : Int32) → ∀ y_15 : Int32, y_15 = (x6 + (1 : Int32)) → X49 x4 x5 y_15) ∧ (¬ r_13 = (0 : Int32) → X93 x4 x5 x6 (1 : Int32) (0 : Int32)))) (m_brokeNight x6.toNatClampNeg).toInt64 p2.toInt64 p3.toInt64) ∧ (¬ (m_brokeShift x6.toNatClampNeg) = p1 → ∀ y_12 : Int32, y_12 = (x6 + (1 : Int32)) → X49 x4 x5 y_12))))) → X49 x4 x5 x6) →
  (∀ (x4 : Int32) (x5 : Int32) (x6 : Int32) (x7 : Int32) (x8 : Int32), (((x6 ≤ x8 → ∀ v_18 : Int32, v_18 = (if x7 = (0 : Int32) then (0 : Int32) else (1 : Int32)) → ∀ y_19 : Int32, y_19 = (x4 + v_18) → vp_in x6 60 ∧ ∀ y_21 : Int32, y_21 = (x5 + (m_brokeMany x6.toNatClampNeg)) → ∀ y_22 : Int32, y_22 = (x6 + (1 : Int32)) → X49 y_19 y_21 y_22) ∧ (¬ x6 ≤ x8 → ((x7 = (0 : Int32) → True) ∧ (¬ x7 = (0 : Int32) → (vp_in x8 60 ∧ (((m_brokeShift x8.toNatClampNeg) = p1 → (vp_in x6 60 ∧ (((m_brokeNight x8.toNatClampNeg) = (m_brokeNight x6.toNatClampNeg) → True) ∧ (¬ (m_brokeNight x8.toNatClampNeg) = (m_brokeNight x6.toNatClampNeg) → True)))) ∧ (¬ (m_brokeShift x8.toNatClampNeg) = p1 → True))))) ∧ ∀ v_28 : Int32, v_28 = (if x7 = (0 : Int32) then (0 : Int32) else (if (m_brokeShift x8.toNatClampNeg) = p1 then (if (m_brokeNight x8.toNatClampNeg) = (m_brokeNight x6.toNatClampNeg) then (0 : Int32) else (1 : Int32)) else (1 : Int32))) → ∀ y_29 : Int32, y_29 = (x8 + (1 : Int32)) → X93 x4 x5 x6 v_28 y_29))) → X93 x4 x5 x6 x7 x8) →
  P_X11_in (fun r_1 => ((r_1 = (0 : Int32) → post (-2 : Int32)) ∧ (¬ r_1 = (0 : Int32) → P_X11_in (fun r_3 => ((r_3 = (0 : Int32) → post (-2 : Int32)) ∧ (¬ r_3 = (0 : Int32) → P_X11_in (fun r_5 => ((r_5 = (0 : Int32) → post (-2 : Int32)) ∧ (¬ r_5 = (0 : Int32) → X49 (0 : Int32) (0 : Int32) (0 : Int32)))) p3.toInt64 p2.toInt64 (999 : Int64)))) p2.toInt64 (0 : Int64) (999 : Int64)))) p1.toInt64 (0 : Int64) (2 : Int64)
abbrev rm_X11_told : Room := { frames := 1, cells := 0, slots := 0, locals := 25 }
theorem iw_X11_told_X11 : ∀ w ∈ wsX110, w ∈ wsX11_told := by decide +kernel
set_option maxHeartbeats 4000000 in
set_option maxRecDepth 100000 in
theorem c_X11_told (l : Launch) (G : va_G) (K : ClassId × ClassId × ClassId) (tb q : Nat → Nat) (sz : Nat) (m_kinds : Int32) (m_weighings : Int32) (m_spanLow : Int32) (m_spanHigh : Int32) (m_events : Int32) (m_days : Int32) (m_edges : Int32) (m_crew : Int32) (post : Int32 → Prop) (p1 : Int32) (p2 : Int32) (p3 : Int32) (m_breakages : Int32) (m_brokeNight : Nat → Int32) (m_brokeShift : Nat → Int32) (m_brokeMany : Nat → Int32) (hw : P_X11_told post p1 p2 p3 m_breakages m_brokeNight m_brokeShift m_brokeMany) : Met l yX11_told wsX11_told rm_X11_told (va_Pc [.ref (q 0), .int p1, .int p2, .int p3] (hPre G K tb [oX11 q m_kinds m_weighings m_spanLow m_spanHigh m_events m_days m_edges m_crew m_breakages, aI K (q 34) 60 m_brokeNight, aI K (q 35) 60 m_brokeShift, aI K (q 36) 60 m_brokeMany] sz)) (va_Qi (fun (r : Int32) (u : Unit) => post r) (fun u => hB G K (va_A [oX11 q m_kinds m_weighings m_spanLow m_spanHigh m_events m_days m_edges m_crew m_breakages, aI K (q 34) 60 m_brokeNight, aI K (q 35) 60 m_brokeShift, aI K (q 36) 60 m_brokeMany] sz) [oX11 q m_kinds m_weighings m_spanLow m_spanHigh m_events m_days m_edges m_crew m_breakages, aI K (q 34) 60 m_brokeNight, aI K (q 35) 60 m_brokeShift, aI K (q 36) 60 m_brokeMany]) (va_A [oX11 q m_kinds m_weighings m_spanLow m_spanHigh m_events m_days m_edges m_crew m_breakages, aI K (q 34) 60 m_brokeNight, aI K (q 35) 60 m_brokeShift, aI K (q 36) 60 m_brokeMany] sz)) 0 0 (va_A [oX11 q m_kinds m_weighings m_spanLow m_spanHigh m_events m_days m_edges m_crew m_breakages, aI K (q 34) 60 m_brokeNight, aI K (q 35) 60 m_brokeShift, aI K (q 36) 60 m_brokeMany] sz) := by
  refine hMet (fun A => va_Qi (fun (r : Int32) (u : Unit) => post r) (fun u => hB G K A [oX11 q m_kinds m_weighings m_spanLow m_spanHigh m_events m_days m_edges m_crew m_breakages, aI K (q 34) 60 m_brokeNight, aI K (q 35) 60 m_brokeShift, aI K (q 36) 60 m_brokeMany]) A) (by decide) rfl (Nat.le_of_ble_eq_true rfl) ?_
  intro p e s m av below meth c A Q ls hx hb hr hml hts hown hlocks hnm hA hP hK hD hS hE hQ hl
  have hts : ∀ w ∈ wsX11_told, w.before av s = true := hts
  have hown : s.vm.findClass RX11 = some m.cls := hown
  have hl : lv_has ls 9 [(0, .ref (q 0)), (1, .int p1), (2, .int p2), (3, .int p3)] := hl
  unfold P_X11_told at hw
  replace hw := hw (fun (x4 : Int32) (x5 : Int32) (x6 : Int32) => ∀ (H : Heap) (locs : List Loc) (ls : Array Slot), va_P G vwCl [oX11 q m_kinds m_weighings m_spanLow m_spanHigh m_events m_days m_edges m_crew m_breakages, aI K (q 34) 60 m_brokeNight, aI K (q 35) 60 m_brokeShift, aI K (q 36) 60 m_brokeMany] H → va_D A [oX11 q m_kinds m_weighings m_spanLow m_spanHigh m_events m_days m_edges m_crew m_breakages, aI K (q 34) 60 m_brokeNight, aI K (q 35) 60 m_brokeShift, aI K (q 36) 60 m_brokeMany] → va_S A s.heap H locs → lv_has ls 9 [(0, .ref (q 0)), (1, .int p1), (2, .int p2), (3, .int p3), (4, .int x4), (5, .int x5), (6, .int x6)] → W p l e rm_X11_told s m av below meth c H locs 0 0 Q (F0 m 49 ls []))
  replace hw := hw (fun (x4 : Int32) (x5 : Int32) (x6 : Int32) (x7 : Int32) (x8 : Int32) => ∀ (H : Heap) (locs : List Loc) (ls : Array Slot), va_P G vwCl [oX11 q m_kinds m_weighings m_spanLow m_spanHigh m_events m_days m_edges m_crew m_breakages, aI K (q 34) 60 m_brokeNight, aI K (q 35) 60 m_brokeShift, aI K (q 36) 60 m_brokeMany] H → va_D A [oX11 q m_kinds m_weighings m_spanLow m_spanHigh m_events m_days m_edges m_crew m_breakages, aI K (q 34) 60 m_brokeNight, aI K (q 35) 60 m_brokeShift, aI K (q 36) 60 m_brokeMany] → va_S A s.heap H locs → lv_has ls 9 [(0, .ref (q 0)), (1, .int p1), (2, .int p2), (3, .int p3), (4, .int x4), (5, .int x5), (6, .int x6), (7, .int x7), (8, .int x8)] → W p l e rm_X11_told s m av below meth c H locs 0 0 Q (F0 m 93 ls []))
  replace hw := hw (by
    intro x4 x5 x6 hw H locs ls hP hD hS hl
    refine lv_iload (pc := 49) hx hb dX11_told_49 (lv_at hl 6 rfl) ?_
    refine lv_aload_n (pc := 51) hx hb dX11_told_51 rfl (lv_at hl 0 rfl) ?_
    refine va_get (pc := 52) (D := G) (ci := 11) (v := .int m_breakages) (C := RX11) (T := TX11) (N := 45) hx hb hts iw_X11_told_X11 hown hK hP 0 rfl rfl 41 (by decide) (hts _ (List.mem_of_getElem? (i := 3) rfl)) (fun _ h9 => h9) rfl dX11_told_52 ?_
    refine lv_icmp_ge (pc := 55) (tgt := 179) hx hb dX11_told_55 (by decide) (fun c_7 => ?_) (fun c_7 => ?_)
    · replace hw := hw.1 c_7
      refine lv_iload (pc := 179) hx hb dX11_told_179 (lv_at hl 4 rfl) ?_
      refine lv_iconst (pc := 181) (v := (3 : Int32)) hx hb dX11_told_181 (by decide) ?_
      have K_v_9 : ∀ v_9 : Int32, v_9 = (if (3 : Int32) ≤ x4 then x5 else (-9 : Int32)) → W p l e rm_X11_told s m av below meth c H locs 0 0 Q (F0 m 192 ls [.int v_9]) := by
        intro v_9 ev_9
        replace hw := hw v_9 ev_9
        exact hRetI (S := Unit) () hx hb hr hlocks hQ hw hP hK hD hS dX11_told_192
      refine lv_icmp_ge (pc := 182) (tgt := 190) hx hb dX11_told_182 (by decide) (fun c_8 => ?_) (fun c_8 => ?_)
      · skip
        refine lv_iload (pc := 190) hx hb dX11_told_190 (lv_at hl 5 rfl) ?_
        exact K_v_9 _ (by rw [if_pos c_8])
      · skip
        refine lv_bipush (pc := 185) (v := (-9 : Int32)) hx hb dX11_told_185 (by decide) ?_
        refine lv_goto (pc := 187) (tgt := 192) hx hb dX11_told_187 (by decide) ?_
        exact K_v_9 _ (by rw [if_neg c_8])
    · replace hw := hw.2 c_7
      refine lv_aload_n (pc := 58) hx hb dX11_told_58 rfl (lv_at hl 0 rfl) ?_
      refine va_get (pc := 59) (D := G) (ci := 11) (v := .ref (q 35)) (C := RX11) (T := TX11) (N := 45) hx hb hts iw_X11_told_X11 hown hK hP 0 rfl rfl 43 (by decide) (hts _ (List.mem_of_getElem? (i := 4) rfl)) (fun _ h9 => h9) rfl dX11_told_59 ?_
      refine lv_iload (pc := 62) hx hb dX11_told_62 (lv_at hl 6 rfl) ?_
      obtain ⟨h_10, hw⟩ := hw
      refine va_iald (pc := 64) hx hb hK hP 2 0 rfl rfl h_10 dX11_told_64 ?_
      refine lv_iload_n (pc := 65) hx hb dX11_told_65 rfl (lv_at hl 1 rfl) ?_
      refine lv_icmp_ne (pc := 66) (tgt := 173) hx hb dX11_told_66 (by decide) (fun c_11 => ?_) (fun c_11 => ?_)
      · replace hw := hw.2 c_11
        obtain ⟨y_12, ey_12⟩ : ∃ z : Int32, z = (x6 + (1 : Int32)) := ⟨_, rfl⟩
        replace hw := hw y_12 ey_12
        refine lv_iinc (pc := 173) (v := y_12) (lv' := [(6, .int y_12), (0, .ref (q 0)), (1, .int p1), (2, .int p2), (3, .int p3), (4, .int x4), (5, .int x5)]) hx hb dX11_told_173 hl (k := 6) rfl (by rw [ey_12]; rfl) (by decide) rfl (fun ls hl => ?_)
        refine lv_goto (pc := 176) (tgt := 49) hx hb dX11_told_176 (by decide) ?_
        exact hw _ _ _ hP hD hS (lv_sub hl [1, 2, 3, 4, 5, 6, 0] rfl)
      · replace hw := hw.1 c_11
        refine lv_aload_n (pc := 69) hx hb dX11_told_69 rfl (lv_at hl 0 rfl) ?_
        refine va_get (pc := 70) (D := G) (ci := 11) (v := .ref (q 34)) (C := RX11) (T := TX11) (N := 45) hx hb hts iw_X11_told_X11 hown hK hP 0 rfl rfl 42 (by decide) (hts _ (List.mem_of_getElem? (i := 5) rfl)) (fun _ h9 => h9) rfl dX11_told_70 ?_
        refine lv_iload (pc := 73) hx hb dX11_told_73 (lv_at hl 6 rfl) ?_
        refine va_iald (pc := 75) hx hb hK hP 1 0 rfl rfl h_10 dX11_told_75 ?_
        refine lv_i2l (pc := 76) hx hb dX11_told_76 rfl ?_
        refine lv_iload_n (pc := 77) hx hb dX11_told_77 rfl (lv_at hl 2 rfl) ?_
        refine lv_i2l (pc := 78) hx hb dX11_told_78 rfl ?_
        refine lv_iload_n (pc := 79) hx hb dX11_told_79 rfl (lv_at hl 3 rfl) ?_
        refine lv_i2l (pc := 80) hx hb dX11_told_80 rfl ?_
        refine hCallI (pc := 81) (wr := [oX11 q m_kinds m_weighings m_spanLow m_spanHigh m_events m_days m_edges m_crew m_breakages, aI K (q 34) 60 m_brokeNight, aI K (q 35) 60 m_brokeShift, aI K (q 36) 60 m_brokeMany]) (wsf := fun (u : Unit) => []) [] [0, 1, 2, 3] (va_runS (As := [.long (m_brokeNight x6.toNatClampNeg).toInt64, .long p2.toInt64, .long p3.toInt64]) (rest := []) ⟨hx, hb, hml, hown, hts⟩ (c_X11_in l G K tb q H.size _ (m_brokeNight x6.toNatClampNeg).toInt64 p2.toInt64 p3.toInt64 hw) (va_cwS 3 hts gX11_told_X11_in rfl rfl rfl (by decide +kernel) ⟨Nat.le_of_ble_eq_true rfl, Nat.le_of_ble_eq_true rfl⟩) (hPreS hE hP hK hD hS hA [] (by decide) rfl rfl) rfl rfl hl.1 rfl (lv_room (Nat.le_of_ble_eq_true rfl)) dX11_told_81 ⟨Nat.zero_le _, Nat.zero_le _⟩) hP hD hS hA rfl rfl (by decide) (by decide) (fun r_13 u H locs hw hP hD hS => ?_)
        have hP : va_P G vwCl [oX11 q m_kinds m_weighings m_spanLow m_spanHigh m_events m_days m_edges m_crew m_breakages, aI K (q 34) 60 m_brokeNight, aI K (q 35) 60 m_brokeShift, aI K (q 36) 60 m_brokeMany] H := hP.sub [0, 1, 2, 3] rfl
        have hD : va_D A [oX11 q m_kinds m_weighings m_spanLow m_spanHigh m_events m_days m_edges m_crew m_breakages, aI K (q 34) 60 m_brokeNight, aI K (q 35) 60 m_brokeShift, aI K (q 36) 60 m_brokeMany] := hD.sub [0, 1, 2, 3] (by decide) rfl
        refine lv_if_eq (pc := 84) (tgt := 173) hx hb dX11_told_84 (by decide) (fun c_14 => ?_) (fun c_14 => ?_)
        · replace hw := hw.1 c_14
          obtain ⟨y_15, ey_15⟩ : ∃ z : Int32, z = (x6 + (1 : Int32)) := ⟨_, rfl⟩
          replace hw := hw y_15 ey_15
          refine lv_iinc (pc := 173) (v := y_15) (lv' := [(6, .int y_15), (0, .ref (q 0)), (1, .int p1), (2, .int p2), (3, .int p3), (4, .int x4), (5, .int x5)]) hx hb dX11_told_173 hl (k := 6) rfl (by rw [ey_15]; rfl) (by decide) rfl (fun ls hl => ?_)
          refine lv_goto (pc := 176) (tgt := 49) hx hb dX11_told_176 (by decide) ?_
          exact hw _ _ _ hP hD hS (lv_sub hl [1, 2, 3, 4, 5, 6, 0] rfl)
        · replace hw := hw.2 c_14
          refine lv_iconst (pc := 87) (v := (1 : Int32)) hx hb dX11_told_87 (by decide) ?_
          refine lv_istore (pc := 88) (lv' := [(7, .int (1 : Int32)), (0, .ref (q 0)), (1, .int p1), (2, .int p2), (3, .int p3), (4, .int x4), (5, .int x5), (6, .int x6)]) hx hb dX11_told_88 hl (by decide) rfl (fun ls hl => ?_)
          refine lv_iconst (pc := 90) (v := (0 : Int32)) hx hb dX11_told_90 (by decide) ?_
          refine lv_istore (pc := 91) (lv' := [(8, .int (0 : Int32)), (7, .int (1 : Int32)), (0, .ref (q 0)), (1, .int p1), (2, .int p2), (3, .int p3), (4, .int x4), (5, .int x5), (6, .int x6)]) hx hb dX11_told_91 hl (by decide) rfl (fun ls hl => ?_)
          exact hw _ _ _ hP hD hS (lv_sub hl [2, 3, 4, 5, 6, 7, 8, 1, 0] rfl))
  replace hw := hw (by
    intro x4 x5 x6 x7 x8 hw H locs ls hP hD hS hl
    refine lv_iload (pc := 93) hx hb dX11_told_93 (lv_at hl 8 rfl) ?_
    refine lv_iload (pc := 95) hx hb dX11_told_95 (lv_at hl 6 rfl) ?_
    refine lv_icmp_ge (pc := 97) (tgt := 146) hx hb dX11_told_97 (by decide) (fun c_16 => ?_) (fun c_16 => ?_)
    · replace hw := hw.1 c_16
      refine lv_iload (pc := 146) hx hb dX11_told_146 (lv_at hl 4 rfl) ?_
      refine lv_iload (pc := 148) hx hb dX11_told_148 (lv_at hl 7 rfl) ?_
      have K_v_18 : ∀ v_18 : Int32, v_18 = (if x7 = (0 : Int32) then (0 : Int32) else (1 : Int32)) → W p l e rm_X11_told s m av below meth c H locs 0 0 Q (F0 m 158 ls [.int v_18, .int x4]) := by
        intro v_18 ev_18
        replace hw := hw v_18 ev_18
        refine lv_iadd (pc := 158) hx hb dX11_told_158 ?_
        refine lv_topi (fun y_19 ey_19 => ?_)
        replace hw := hw y_19 ey_19
        refine lv_istore (pc := 159) (lv' := [(4, .int y_19), (0, .ref (q 0)), (1, .int p1), (2, .int p2), (3, .int p3), (5, .int x5), (6, .int x6), (7, .int x7), (8, .int x8)]) hx hb dX11_told_159 hl (by decide) rfl (fun ls hl => ?_)
        refine lv_iload (pc := 161) hx hb dX11_told_161 (lv_at hl 5 rfl) ?_
        refine lv_aload_n (pc := 163) hx hb dX11_told_163 rfl (lv_at hl 1 rfl) ?_
        refine va_get (pc := 164) (D := G) (ci := 11) (v := .ref (q 36)) (C := RX11) (T := TX11) (N := 45) hx hb hts iw_X11_told_X11 hown hK hP 0 rfl rfl 44 (by decide) (hts _ (List.mem_of_getElem? (i := 6) rfl)) (fun _ h9 => h9) rfl dX11_told_164 ?_
        refine lv_iload (pc := 167) hx hb dX11_told_167 (lv_at hl 6 rfl) ?_
        obtain ⟨h_20, hw⟩ := hw
        refine va_iald (pc := 169) hx hb hK hP 3 0 rfl rfl h_20 dX11_told_169 ?_
        refine lv_iadd (pc := 170) hx hb dX11_told_170 ?_
        refine lv_topi (fun y_21 ey_21 => ?_)
        replace hw := hw y_21 ey_21
        refine lv_istore (pc := 171) (lv' := [(5, .int y_21), (4, .int y_19), (0, .ref (q 0)), (1, .int p1), (2, .int p2), (3, .int p3), (6, .int x6), (7, .int x7), (8, .int x8)]) hx hb dX11_told_171 hl (by decide) rfl (fun ls hl => ?_)
        obtain ⟨y_22, ey_22⟩ : ∃ z : Int32, z = (x6 + (1 : Int32)) := ⟨_, rfl⟩
        replace hw := hw y_22 ey_22
        refine lv_iinc (pc := 173) (v := y_22) (lv' := [(6, .int y_22), (5, .int y_21), (4, .int y_19), (0, .ref (q 0)), (1, .int p1), (2, .int p2), (3, .int p3), (7, .int x7), (8, .int x8)]) hx hb dX11_told_173 hl (k := 6) rfl (by rw [ey_22]; rfl) (by decide) rfl (fun ls hl => ?_)
        refine lv_goto (pc := 176) (tgt := 49) hx hb dX11_told_176 (by decide) ?_
        exact hw _ _ _ hP hD hS (lv_sub hl [3, 4, 5, 6, 2, 1, 0] rfl)
      refine lv_if_eq (pc := 150) (tgt := 157) hx hb dX11_told_150 (by decide) (fun c_17 => ?_) (fun c_17 => ?_)
      · skip
        refine lv_iconst (pc := 157) (v := (0 : Int32)) hx hb dX11_told_157 (by decide) ?_
        exact K_v_18 _ (by rw [if_pos c_17])
      · skip
        refine lv_iconst (pc := 153) (v := (1 : Int32)) hx hb dX11_told_153 (by decide) ?_
        refine lv_goto (pc := 154) (tgt := 158) hx hb dX11_told_154 (by decide) ?_
        exact K_v_18 _ (by rw [if_neg c_17])
    · replace hw := hw.2 c_16
      refine lv_iload (pc := 100) hx hb dX11_told_100 (lv_at hl 7 rfl) ?_
      obtain ⟨hsf, hw⟩ := hw
      have K_v_28 : ∀ v_28 : Int32, v_28 = (if x7 = (0 : Int32) then (0 : Int32) else (if (m_brokeShift x8.toNatClampNeg) = p1 then (if (m_brokeNight x8.toNatClampNeg) = (m_brokeNight x6.toNatClampNeg) then (0 : Int32) else (1 : Int32)) else (1 : Int32))) → W p l e rm_X11_told s m av below meth c H locs 0 0 Q (F0 m 138 ls [.int v_28]) := by
        intro v_28 ev_28
        replace hw := hw v_28 ev_28
        refine lv_istore (pc := 138) (lv' := [(7, .int v_28), (0, .ref (q 0)), (1, .int p1), (2, .int p2), (3, .int p3), (4, .int x4), (5, .int x5), (6, .int x6), (8, .int x8)]) hx hb dX11_told_138 hl (by decide) rfl (fun ls hl => ?_)
        obtain ⟨y_29, ey_29⟩ : ∃ z : Int32, z = (x8 + (1 : Int32)) := ⟨_, rfl⟩
        replace hw := hw y_29 ey_29
        refine lv_iinc (pc := 140) (v := y_29) (lv' := [(8, .int y_29), (7, .int v_28), (0, .ref (q 0)), (1, .int p1), (2, .int p2), (3, .int p3), (4, .int x4), (5, .int x5), (6, .int x6)]) hx hb dX11_told_140 hl (k := 8) rfl (by rw [ey_29]; rfl) (by decide) rfl (fun ls hl => ?_)
        refine lv_goto (pc := 143) (tgt := 93) hx hb dX11_told_143 (by decide) ?_
        exact hw _ _ _ hP hD hS (lv_sub hl [2, 3, 4, 5, 6, 7, 8, 1, 0] rfl)
      refine lv_if_eq (pc := 102) (tgt := 137) hx hb dX11_told_102 (by decide) (fun c_23 => ?_) (fun c_23 => ?_)
      · replace hsf := hsf.1 c_23
        refine lv_iconst (pc := 137) (v := (0 : Int32)) hx hb dX11_told_137 (by decide) ?_
        exact K_v_28 _ (by rw [if_pos c_23])
      · replace hsf := hsf.2 c_23
        refine lv_aload_n (pc := 105) hx hb dX11_told_105 rfl (lv_at hl 0 rfl) ?_
        refine va_get (pc := 106) (D := G) (ci := 11) (v := .ref (q 35)) (C := RX11) (T := TX11) (N := 45) hx hb hts iw_X11_told_X11 hown hK hP 0 rfl rfl 43 (by decide) (hts _ (List.mem_of_getElem? (i := 4) rfl)) (fun _ h9 => h9) rfl dX11_told_106 ?_
        refine lv_iload (pc := 109) hx hb dX11_told_109 (lv_at hl 8 rfl) ?_
        obtain ⟨h_24, hsf⟩ := hsf
        refine va_iald (pc := 111) hx hb hK hP 2 0 rfl rfl h_24 dX11_told_111 ?_
        refine lv_iload_n (pc := 112) hx hb dX11_told_112 rfl (lv_at hl 1 rfl) ?_
        refine lv_icmp_ne (pc := 113) (tgt := 133) hx hb dX11_told_113 (by decide) (fun c_25 => ?_) (fun c_25 => ?_)
        · replace hsf := hsf.2 c_25
          refine lv_iconst (pc := 133) (v := (1 : Int32)) hx hb dX11_told_133 (by decide) ?_
          refine lv_goto (pc := 134) (tgt := 138) hx hb dX11_told_134 (by decide) ?_
          exact K_v_28 _ (by rw [if_neg c_23, if_neg c_25])
        · replace hsf := hsf.1 c_25
          refine lv_aload_n (pc := 116) hx hb dX11_told_116 rfl (lv_at hl 0 rfl) ?_
          refine va_get (pc := 117) (D := G) (ci := 11) (v := .ref (q 34)) (C := RX11) (T := TX11) (N := 45) hx hb hts iw_X11_told_X11 hown hK hP 0 rfl rfl 42 (by decide) (hts _ (List.mem_of_getElem? (i := 5) rfl)) (fun _ h9 => h9) rfl dX11_told_117 ?_
          refine lv_iload (pc := 120) hx hb dX11_told_120 (lv_at hl 8 rfl) ?_
          refine va_iald (pc := 122) hx hb hK hP 1 0 rfl rfl h_24 dX11_told_122 ?_
          refine lv_aload_n (pc := 123) hx hb dX11_told_123 rfl (lv_at hl 0 rfl) ?_
          refine va_get (pc := 124) (D := G) (ci := 11) (v := .ref (q 34)) (C := RX11) (T := TX11) (N := 45) hx hb hts iw_X11_told_X11 hown hK hP 0 rfl rfl 42 (by decide) (hts _ (List.mem_of_getElem? (i := 5) rfl)) (fun _ h9 => h9) rfl dX11_told_124 ?_
          refine lv_iload (pc := 127) hx hb dX11_told_127 (lv_at hl 6 rfl) ?_
          obtain ⟨h_26, hsf⟩ := hsf
          refine va_iald (pc := 129) hx hb hK hP 1 0 rfl rfl h_26 dX11_told_129 ?_
          refine lv_icmp_eq (pc := 130) (tgt := 137) hx hb dX11_told_130 (by decide) (fun c_27 => ?_) (fun c_27 => ?_)
          · replace hsf := hsf.1 c_27
            refine lv_iconst (pc := 137) (v := (0 : Int32)) hx hb dX11_told_137 (by decide) ?_
            exact K_v_28 _ (by rw [if_neg c_23, if_pos c_25, if_pos c_27])
          · replace hsf := hsf.2 c_27
            refine lv_iconst (pc := 133) (v := (1 : Int32)) hx hb dX11_told_133 (by decide) ?_
            refine lv_goto (pc := 134) (tgt := 138) hx hb dX11_told_134 (by decide) ?_
            exact K_v_28 _ (by rw [if_neg c_23, if_pos c_25, if_neg c_27]))
  refine lv_iload_n (pc := 0) hx hb dX11_told_0 rfl (lv_at hl 1 rfl) ?_
  refine lv_i2l (pc := 1) hx hb dX11_told_1 rfl ?_
  refine lv_lconst (pc := 2) (v := (0 : Int64)) hx hb dX11_told_2 (by decide) ?_
  refine lv_ldc2 (pc := 3) (v := (2 : Int64)) hx hb hown (hts _ (List.mem_of_getElem? (i := 1) rfl)) dX11_told_3 ?_
  refine hCallI (pc := 6) (wr := [oX11 q m_kinds m_weighings m_spanLow m_spanHigh m_events m_days m_edges m_crew m_breakages, aI K (q 34) 60 m_brokeNight, aI K (q 35) 60 m_brokeShift, aI K (q 36) 60 m_brokeMany]) (wsf := fun (u : Unit) => []) [] [0, 1, 2, 3] (va_runS (As := [.long p1.toInt64, .long (0 : Int64), .long (2 : Int64)]) (rest := []) ⟨hx, hb, hml, hown, hts⟩ (c_X11_in l G K tb q s.heap.size _ p1.toInt64 (0 : Int64) (2 : Int64) hw) (va_cwS 3 hts gX11_told_X11_in rfl rfl rfl (by decide +kernel) ⟨Nat.le_of_ble_eq_true rfl, Nat.le_of_ble_eq_true rfl⟩) (hPreS hE hP hK hD hS hA [] (by decide) rfl rfl) rfl rfl hl.1 rfl (lv_room (Nat.le_of_ble_eq_true rfl)) dX11_told_6 ⟨Nat.zero_le _, Nat.zero_le _⟩) hP hD hS hA rfl rfl (by decide) (by decide) (fun r_1 u H locs hw hP hD hS => ?_)
  have hP : va_P G vwCl [oX11 q m_kinds m_weighings m_spanLow m_spanHigh m_events m_days m_edges m_crew m_breakages, aI K (q 34) 60 m_brokeNight, aI K (q 35) 60 m_brokeShift, aI K (q 36) 60 m_brokeMany] H := hP.sub [0, 1, 2, 3] rfl
  have hD : va_D A [oX11 q m_kinds m_weighings m_spanLow m_spanHigh m_events m_days m_edges m_crew m_breakages, aI K (q 34) 60 m_brokeNight, aI K (q 35) 60 m_brokeShift, aI K (q 36) 60 m_brokeMany] := hD.sub [0, 1, 2, 3] (by decide) rfl
  refine lv_if_eq (pc := 9) (tgt := 37) hx hb dX11_told_9 (by decide) (fun c_2 => ?_) (fun c_2 => ?_)
  · replace hw := hw.1 c_2
    refine lv_bipush (pc := 37) (v := (-2 : Int32)) hx hb dX11_told_37 (by decide) ?_
    exact hRetI (S := Unit) () hx hb hr hlocks hQ hw hP hK hD hS dX11_told_39
  · replace hw := hw.2 c_2
    refine lv_iload_n (pc := 12) hx hb dX11_told_12 rfl (lv_at hl 2 rfl) ?_
    refine lv_i2l (pc := 13) hx hb dX11_told_13 rfl ?_
    refine lv_lconst (pc := 14) (v := (0 : Int64)) hx hb dX11_told_14 (by decide) ?_
    refine lv_ldc2 (pc := 15) (v := (999 : Int64)) hx hb hown (hts _ (List.mem_of_getElem? (i := 2) rfl)) dX11_told_15 ?_
    refine hCallI (pc := 18) (wr := [oX11 q m_kinds m_weighings m_spanLow m_spanHigh m_events m_days m_edges m_crew m_breakages, aI K (q 34) 60 m_brokeNight, aI K (q 35) 60 m_brokeShift, aI K (q 36) 60 m_brokeMany]) (wsf := fun (u : Unit) => []) [] [0, 1, 2, 3] (va_runS (As := [.long p2.toInt64, .long (0 : Int64), .long (999 : Int64)]) (rest := []) ⟨hx, hb, hml, hown, hts⟩ (c_X11_in l G K tb q H.size _ p2.toInt64 (0 : Int64) (999 : Int64) hw) (va_cwS 3 hts gX11_told_X11_in rfl rfl rfl (by decide +kernel) ⟨Nat.le_of_ble_eq_true rfl, Nat.le_of_ble_eq_true rfl⟩) (hPreS hE hP hK hD hS hA [] (by decide) rfl rfl) rfl rfl hl.1 rfl (lv_room (Nat.le_of_ble_eq_true rfl)) dX11_told_18 ⟨Nat.zero_le _, Nat.zero_le _⟩) hP hD hS hA rfl rfl (by decide) (by decide) (fun r_3 u H locs hw hP hD hS => ?_)
    have hP : va_P G vwCl [oX11 q m_kinds m_weighings m_spanLow m_spanHigh m_events m_days m_edges m_crew m_breakages, aI K (q 34) 60 m_brokeNight, aI K (q 35) 60 m_brokeShift, aI K (q 36) 60 m_brokeMany] H := hP.sub [0, 1, 2, 3] rfl
    have hD : va_D A [oX11 q m_kinds m_weighings m_spanLow m_spanHigh m_events m_days m_edges m_crew m_breakages, aI K (q 34) 60 m_brokeNight, aI K (q 35) 60 m_brokeShift, aI K (q 36) 60 m_brokeMany] := hD.sub [0, 1, 2, 3] (by decide) rfl
    refine lv_if_eq (pc := 21) (tgt := 37) hx hb dX11_told_21 (by decide) (fun c_4 => ?_) (fun c_4 => ?_)
    · replace hw := hw.1 c_4
      refine lv_bipush (pc := 37) (v := (-2 : Int32)) hx hb dX11_told_37 (by decide) ?_
      exact hRetI (S := Unit) () hx hb hr hlocks hQ hw hP hK hD hS dX11_told_39
    · replace hw := hw.2 c_4
      refine lv_iload_n (pc := 24) hx hb dX11_told_24 rfl (lv_at hl 3 rfl) ?_
      refine lv_i2l (pc := 25) hx hb dX11_told_25 rfl ?_
      refine lv_iload_n (pc := 26) hx hb dX11_told_26 rfl (lv_at hl 2 rfl) ?_
      refine lv_i2l (pc := 27) hx hb dX11_told_27 rfl ?_
      refine lv_ldc2 (pc := 28) (v := (999 : Int64)) hx hb hown (hts _ (List.mem_of_getElem? (i := 2) rfl)) dX11_told_28 ?_
      refine hCallI (pc := 31) (wr := [oX11 q m_kinds m_weighings m_spanLow m_spanHigh m_events m_days m_edges m_crew m_breakages, aI K (q 34) 60 m_brokeNight, aI K (q 35) 60 m_brokeShift, aI K (q 36) 60 m_brokeMany]) (wsf := fun (u : Unit) => []) [] [0, 1, 2, 3] (va_runS (As := [.long p3.toInt64, .long p2.toInt64, .long (999 : Int64)]) (rest := []) ⟨hx, hb, hml, hown, hts⟩ (c_X11_in l G K tb q H.size _ p3.toInt64 p2.toInt64 (999 : Int64) hw) (va_cwS 3 hts gX11_told_X11_in rfl rfl rfl (by decide +kernel) ⟨Nat.le_of_ble_eq_true rfl, Nat.le_of_ble_eq_true rfl⟩) (hPreS hE hP hK hD hS hA [] (by decide) rfl rfl) rfl rfl hl.1 rfl (lv_room (Nat.le_of_ble_eq_true rfl)) dX11_told_31 ⟨Nat.zero_le _, Nat.zero_le _⟩) hP hD hS hA rfl rfl (by decide) (by decide) (fun r_5 u H locs hw hP hD hS => ?_)
      have hP : va_P G vwCl [oX11 q m_kinds m_weighings m_spanLow m_spanHigh m_events m_days m_edges m_crew m_breakages, aI K (q 34) 60 m_brokeNight, aI K (q 35) 60 m_brokeShift, aI K (q 36) 60 m_brokeMany] H := hP.sub [0, 1, 2, 3] rfl
      have hD : va_D A [oX11 q m_kinds m_weighings m_spanLow m_spanHigh m_events m_days m_edges m_crew m_breakages, aI K (q 34) 60 m_brokeNight, aI K (q 35) 60 m_brokeShift, aI K (q 36) 60 m_brokeMany] := hD.sub [0, 1, 2, 3] (by decide) rfl
      refine lv_if_ne (pc := 34) (tgt := 40) hx hb dX11_told_34 (by decide) (fun c_6 => ?_) (fun c_6 => ?_)
      · replace hw := hw.2 c_6
        refine lv_iconst (pc := 40) (v := (0 : Int32)) hx hb dX11_told_40 (by decide) ?_
        refine lv_istore (pc := 41) (lv' := [(4, .int (0 : Int32)), (0, .ref (q 0)), (1, .int p1), (2, .int p2), (3, .int p3)]) hx hb dX11_told_41 hl (by decide) rfl (fun ls hl => ?_)
        refine lv_iconst (pc := 43) (v := (0 : Int32)) hx hb dX11_told_43 (by decide) ?_
        refine lv_istore (pc := 44) (lv' := [(5, .int (0 : Int32)), (4, .int (0 : Int32)), (0, .ref (q 0)), (1, .int p1), (2, .int p2), (3, .int p3)]) hx hb dX11_told_44 hl (by decide) rfl (fun ls hl => ?_)
        refine lv_iconst (pc := 46) (v := (0 : Int32)) hx hb dX11_told_46 (by decide) ?_
        refine lv_istore (pc := 47) (lv' := [(6, .int (0 : Int32)), (5, .int (0 : Int32)), (4, .int (0 : Int32)), (0, .ref (q 0)), (1, .int p1), (2, .int p2), (3, .int p3)]) hx hb dX11_told_47 hl (by decide) rfl (fun ls hl => ?_)
        exact hw _ _ _ hP hD hS (lv_sub hl [3, 4, 5, 6, 2, 1, 0] rfl)
      · replace hw := hw.1 c_6
        refine lv_bipush (pc := 37) (v := (-2 : Int32)) hx hb dX11_told_37 (by decide) ?_
        exact hRetI (S := Unit) () hx hb hr hlocks hQ hw hP hK hD hS dX11_told_39
def P_X11_count (post : Int32 → Prop) (p1 : Int32) (m_kinds : Int32) (m_book : Nat → Int32) (m_weighings : Int32) (m_isDropped : Nat → Int32) (m_events : Int32) (m_isOff : Nat → Int32) (m_marked : Nat → Int32) (m_breakages : Int32) : Prop :=
  ∀ (X51 : Int32 → Int32 → Prop),
  ∀ (X86 : Int32 → Int32 → Prop),
  ∀ (X140 : Int32 → Int32 → Prop),
  (∀ (x2 : Int32) (x3 : Int32), (((m_weighings ≤ x3 → post x2) ∧ (¬ m_weighings ≤ x3 → vp_in x3 40 ∧ ∀ v_14 : Int32, v_14 = (if (m_isDropped x3.toNatClampNeg) = (0 : Int32) then (1 : Int32) else (0 : Int32)) → ∀ y_15 : Int32, y_15 = (x2 + v_14) → ∀ y_16 : Int32, y_16 = (x3 + (1 : Int32)) → X51 y_15 y_16))) → X51 x2 x3) →
  (∀ (x2 : Int32) (x3 : Int32), (((m_events ≤ x3 → post x2) ∧ (¬ m_events ≤ x3 → vp_in x3 12 ∧ ∀ v_20 : Int32, v_20 = (if (m_isOff x3.toNatClampNeg) = (0 : Int32) then (1 : Int32) else (0 : Int32)) → ∀ y_21 : Int32, y_21 = (x2 + v_20) → ∀ y_22 : Int32, y_22 = (x3 + (1 : Int32)) → X86 y_21 y_22))) → X86 x2 x3) →
  (∀ (x2 : Int32) (x3 : Int32), ((((30 : Int32) ≤ x3 → post x2) ∧ (¬ (30 : Int32) ≤ x3 → vp_in x3 30 ∧ ∀ y_25 : Int32, y_25 = (x2 + (m_book x3.toNatClampNeg)) → ∀ y_26 : Int32, y_26 = (x3 + (1 : Int32)) → X140 y_25 y_26))) → X140 x2 x3) →
  ((p1 = (0 : Int32) → post m_kinds) ∧ (p1 = (1 : Int32) → X51 (0 : Int32) (0 : Int32)) ∧ (p1 = (2 : Int32) → X86 (0 : Int32) (0 : Int32)) ∧ (p1 = (3 : Int32) → vp_in (0 : Int32) 2 ∧ post (m_marked (0 : Int32).toNatClampNeg)) ∧ (p1 = (4 : Int32) → vp_in (1 : Int32) 2 ∧ post (m_marked (1 : Int32).toNatClampNeg)) ∧ (p1 = (5 : Int32) → post m_breakages) ∧ (p1 = (6 : Int32) → X140 (0 : Int32) (0 : Int32)) ∧ ((p1.toInt < 0 ∨ 6 < p1.toInt) → post (-2 : Int32)))
abbrev rm_X11_count : Room := { frames := 0, cells := 0, slots := 0, locals := 0 }
theorem iw_X11_count_X11 : ∀ w ∈ wsX110, w ∈ wsX11_count := by decide +kernel
set_option maxHeartbeats 4000000 in
set_option maxRecDepth 100000 in
theorem c_X11_count (l : Launch) (G : va_G) (K : ClassId × ClassId × ClassId) (tb q : Nat → Nat) (sz : Nat) (m_spanLow : Int32) (m_spanHigh : Int32) (m_days : Int32) (m_edges : Int32) (m_crew : Int32) (post : Int32 → Prop) (p1 : Int32) (m_kinds : Int32) (m_book : Nat → Int32) (m_weighings : Int32) (m_isDropped : Nat → Int32) (m_events : Int32) (m_isOff : Nat → Int32) (m_marked : Nat → Int32) (m_breakages : Int32) (hw : P_X11_count post p1 m_kinds m_book m_weighings m_isDropped m_events m_isOff m_marked m_breakages) : Met l yX11_count wsX11_count rm_X11_count (va_Pc [.ref (q 0), .int p1] (hPre G K tb [oX11 q m_kinds m_weighings m_spanLow m_spanHigh m_events m_days m_edges m_crew m_breakages, aI K (q 3) 30 m_book, aZ K (q 9) 40 m_isDropped, aZ K (q 15) 12 m_isOff, aI K (q 29) 2 m_marked] sz)) (va_Qi (fun (r : Int32) (u : Unit) => post r) (fun u => hB G K (va_A [oX11 q m_kinds m_weighings m_spanLow m_spanHigh m_events m_days m_edges m_crew m_breakages, aI K (q 3) 30 m_book, aZ K (q 9) 40 m_isDropped, aZ K (q 15) 12 m_isOff, aI K (q 29) 2 m_marked] sz) [oX11 q m_kinds m_weighings m_spanLow m_spanHigh m_events m_days m_edges m_crew m_breakages, aI K (q 3) 30 m_book, aZ K (q 9) 40 m_isDropped, aZ K (q 15) 12 m_isOff, aI K (q 29) 2 m_marked]) (va_A [oX11 q m_kinds m_weighings m_spanLow m_spanHigh m_events m_days m_edges m_crew m_breakages, aI K (q 3) 30 m_book, aZ K (q 9) 40 m_isDropped, aZ K (q 15) 12 m_isOff, aI K (q 29) 2 m_marked] sz)) 0 0 (va_A [oX11 q m_kinds m_weighings m_spanLow m_spanHigh m_events m_days m_edges m_crew m_breakages, aI K (q 3) 30 m_book, aZ K (q 9) 40 m_isDropped, aZ K (q 15) 12 m_isOff, aI K (q 29) 2 m_marked] sz) := by
  refine hMet (fun A => va_Qi (fun (r : Int32) (u : Unit) => post r) (fun u => hB G K A [oX11 q m_kinds m_weighings m_spanLow m_spanHigh m_events m_days m_edges m_crew m_breakages, aI K (q 3) 30 m_book, aZ K (q 9) 40 m_isDropped, aZ K (q 15) 12 m_isOff, aI K (q 29) 2 m_marked]) A) (by decide) rfl (Nat.le_of_ble_eq_true rfl) ?_
  intro p e s m av below meth c A Q ls hx hb hr hml hts hown hlocks hnm hA hP hK hD hS hE hQ hl
  have hts : ∀ w ∈ wsX11_count, w.before av s = true := hts
  have hown : s.vm.findClass RX11 = some m.cls := hown
  have hl : lv_has ls 4 [(0, .ref (q 0)), (1, .int p1)] := hl
  unfold P_X11_count at hw
  replace hw := hw (fun (x2 : Int32) (x3 : Int32) => ∀ (H : Heap) (locs : List Loc) (ls : Array Slot), va_P G vwCl [oX11 q m_kinds m_weighings m_spanLow m_spanHigh m_events m_days m_edges m_crew m_breakages, aI K (q 3) 30 m_book, aZ K (q 9) 40 m_isDropped, aZ K (q 15) 12 m_isOff, aI K (q 29) 2 m_marked] H → va_D A [oX11 q m_kinds m_weighings m_spanLow m_spanHigh m_events m_days m_edges m_crew m_breakages, aI K (q 3) 30 m_book, aZ K (q 9) 40 m_isDropped, aZ K (q 15) 12 m_isOff, aI K (q 29) 2 m_marked] → va_S A s.heap H locs → lv_has ls 4 [(0, .ref (q 0)), (2, .int x2), (3, .int x3)] → W p l e rm_X11_count s m av below meth c H locs 0 0 Q (F0 m 51 ls []))
  replace hw := hw (fun (x2 : Int32) (x3 : Int32) => ∀ (H : Heap) (locs : List Loc) (ls : Array Slot), va_P G vwCl [oX11 q m_kinds m_weighings m_spanLow m_spanHigh m_events m_days m_edges m_crew m_breakages, aI K (q 3) 30 m_book, aZ K (q 9) 40 m_isDropped, aZ K (q 15) 12 m_isOff, aI K (q 29) 2 m_marked] H → va_D A [oX11 q m_kinds m_weighings m_spanLow m_spanHigh m_events m_days m_edges m_crew m_breakages, aI K (q 3) 30 m_book, aZ K (q 9) 40 m_isDropped, aZ K (q 15) 12 m_isOff, aI K (q 29) 2 m_marked] → va_S A s.heap H locs → lv_has ls 4 [(0, .ref (q 0)), (2, .int x2), (3, .int x3)] → W p l e rm_X11_count s m av below meth c H locs 0 0 Q (F0 m 86 ls []))
  replace hw := hw (fun (x2 : Int32) (x3 : Int32) => ∀ (H : Heap) (locs : List Loc) (ls : Array Slot), va_P G vwCl [oX11 q m_kinds m_weighings m_spanLow m_spanHigh m_events m_days m_edges m_crew m_breakages, aI K (q 3) 30 m_book, aZ K (q 9) 40 m_isDropped, aZ K (q 15) 12 m_isOff, aI K (q 29) 2 m_marked] H → va_D A [oX11 q m_kinds m_weighings m_spanLow m_spanHigh m_events m_days m_edges m_crew m_breakages, aI K (q 3) 30 m_book, aZ K (q 9) 40 m_isDropped, aZ K (q 15) 12 m_isOff, aI K (q 29) 2 m_marked] → va_S A s.heap H locs → lv_has ls 4 [(0, .ref (q 0)), (2, .int x2), (3, .int x3)] → W p l e rm_X11_count s m av below meth c H locs 0 0 Q (F0 m 140 ls []))
  replace hw := hw (by
    intro x2 x3 hw H locs ls hP hD hS hl
    refine lv_iload_n (pc := 51) hx hb dX11_count_51 rfl (lv_at hl 2 rfl) ?_
    refine lv_aload_n (pc := 52) hx hb dX11_count_52 rfl (lv_at hl 0 rfl) ?_
    refine va_get (pc := 53) (D := G) (ci := 11) (v := .int m_weighings) (C := RX11) (T := TX11) (N := 45) hx hb hts iw_X11_count_X11 hown hK hP 0 rfl rfl 5 (by decide) (hts _ (List.mem_of_getElem? (i := 2) rfl)) (fun _ h9 => h9) rfl dX11_count_53 ?_
    refine lv_icmp_ge (pc := 56) (tgt := 82) hx hb dX11_count_56 (by decide) (fun c_11 => ?_) (fun c_11 => ?_)
    · replace hw := hw.1 c_11
      refine lv_iload_n (pc := 82) hx hb dX11_count_82 rfl (lv_at hl 1 rfl) ?_
      exact hRetI (S := Unit) () hx hb hr hlocks hQ hw hP hK hD hS dX11_count_83
    · replace hw := hw.2 c_11
      refine lv_iload_n (pc := 59) hx hb dX11_count_59 rfl (lv_at hl 1 rfl) ?_
      refine lv_aload_n (pc := 60) hx hb dX11_count_60 rfl (lv_at hl 0 rfl) ?_
      refine va_get (pc := 61) (D := G) (ci := 11) (v := .ref (q 9)) (C := RX11) (T := TX11) (N := 45) hx hb hts iw_X11_count_X11 hown hK hP 0 rfl rfl 10 (by decide) (hts _ (List.mem_of_getElem? (i := 3) rfl)) (fun _ h9 => h9) rfl dX11_count_61 ?_
      refine lv_iload_n (pc := 64) hx hb dX11_count_64 rfl (lv_at hl 2 rfl) ?_
      obtain ⟨h_12, hw⟩ := hw
      refine va_zald (pc := 65) hx hb hK hP 2 2 rfl rfl h_12 dX11_count_65 ?_
      have K_v_14 : ∀ v_14 : Int32, v_14 = (if (m_isDropped x3.toNatClampNeg) = (0 : Int32) then (1 : Int32) else (0 : Int32)) → W p l e rm_X11_count s m av below meth c H locs 0 0 Q (F0 m 74 ls [.int v_14, .int x2]) := by
        intro v_14 ev_14
        replace hw := hw v_14 ev_14
        refine lv_iadd (pc := 74) hx hb dX11_count_74 ?_
        refine lv_topi (fun y_15 ey_15 => ?_)
        replace hw := hw y_15 ey_15
        refine lv_istore_n (pc := 75) (lv' := [(2, .int y_15), (0, .ref (q 0)), (3, .int x3)]) hx hb dX11_count_75 rfl hl (by decide) rfl (fun ls hl => ?_)
        obtain ⟨y_16, ey_16⟩ : ∃ z : Int32, z = (x3 + (1 : Int32)) := ⟨_, rfl⟩
        replace hw := hw y_16 ey_16
        refine lv_iinc (pc := 76) (v := y_16) (lv' := [(3, .int y_16), (2, .int y_15), (0, .ref (q 0))]) hx hb dX11_count_76 hl (k := 2) rfl (by rw [ey_16]; rfl) (by decide) rfl (fun ls hl => ?_)
        refine lv_goto (pc := 79) (tgt := 51) hx hb dX11_count_79 (by decide) ?_
        exact hw _ _ _ hP hD hS (lv_sub hl [2, 1, 0] rfl)
      refine lv_if_eq (pc := 66) (tgt := 73) hx hb dX11_count_66 (by decide) (fun c_13 => ?_) (fun c_13 => ?_)
      · skip
        refine lv_iconst (pc := 73) (v := (1 : Int32)) hx hb dX11_count_73 (by decide) ?_
        exact K_v_14 _ (by rw [if_pos c_13])
      · skip
        refine lv_iconst (pc := 69) (v := (0 : Int32)) hx hb dX11_count_69 (by decide) ?_
        refine lv_goto (pc := 70) (tgt := 74) hx hb dX11_count_70 (by decide) ?_
        exact K_v_14 _ (by rw [if_neg c_13]))
  replace hw := hw (by
    intro x2 x3 hw H locs ls hP hD hS hl
    refine lv_iload_n (pc := 86) hx hb dX11_count_86 rfl (lv_at hl 2 rfl) ?_
    refine lv_aload_n (pc := 87) hx hb dX11_count_87 rfl (lv_at hl 0 rfl) ?_
    refine va_get (pc := 88) (D := G) (ci := 11) (v := .int m_events) (C := RX11) (T := TX11) (N := 45) hx hb hts iw_X11_count_X11 hown hK hP 0 rfl rfl 14 (by decide) (hts _ (List.mem_of_getElem? (i := 4) rfl)) (fun _ h9 => h9) rfl dX11_count_88 ?_
    refine lv_icmp_ge (pc := 91) (tgt := 117) hx hb dX11_count_91 (by decide) (fun c_17 => ?_) (fun c_17 => ?_)
    · replace hw := hw.1 c_17
      refine lv_iload_n (pc := 117) hx hb dX11_count_117 rfl (lv_at hl 1 rfl) ?_
      exact hRetI (S := Unit) () hx hb hr hlocks hQ hw hP hK hD hS dX11_count_118
    · replace hw := hw.2 c_17
      refine lv_iload_n (pc := 94) hx hb dX11_count_94 rfl (lv_at hl 1 rfl) ?_
      refine lv_aload_n (pc := 95) hx hb dX11_count_95 rfl (lv_at hl 0 rfl) ?_
      refine va_get (pc := 96) (D := G) (ci := 11) (v := .ref (q 15)) (C := RX11) (T := TX11) (N := 45) hx hb hts iw_X11_count_X11 hown hK hP 0 rfl rfl 19 (by decide) (hts _ (List.mem_of_getElem? (i := 5) rfl)) (fun _ h9 => h9) rfl dX11_count_96 ?_
      refine lv_iload_n (pc := 99) hx hb dX11_count_99 rfl (lv_at hl 2 rfl) ?_
      obtain ⟨h_18, hw⟩ := hw
      refine va_zald (pc := 100) hx hb hK hP 3 2 rfl rfl h_18 dX11_count_100 ?_
      have K_v_20 : ∀ v_20 : Int32, v_20 = (if (m_isOff x3.toNatClampNeg) = (0 : Int32) then (1 : Int32) else (0 : Int32)) → W p l e rm_X11_count s m av below meth c H locs 0 0 Q (F0 m 109 ls [.int v_20, .int x2]) := by
        intro v_20 ev_20
        replace hw := hw v_20 ev_20
        refine lv_iadd (pc := 109) hx hb dX11_count_109 ?_
        refine lv_topi (fun y_21 ey_21 => ?_)
        replace hw := hw y_21 ey_21
        refine lv_istore_n (pc := 110) (lv' := [(2, .int y_21), (0, .ref (q 0)), (3, .int x3)]) hx hb dX11_count_110 rfl hl (by decide) rfl (fun ls hl => ?_)
        obtain ⟨y_22, ey_22⟩ : ∃ z : Int32, z = (x3 + (1 : Int32)) := ⟨_, rfl⟩
        replace hw := hw y_22 ey_22
        refine lv_iinc (pc := 111) (v := y_22) (lv' := [(3, .int y_22), (2, .int y_21), (0, .ref (q 0))]) hx hb dX11_count_111 hl (k := 2) rfl (by rw [ey_22]; rfl) (by decide) rfl (fun ls hl => ?_)
        refine lv_goto (pc := 114) (tgt := 86) hx hb dX11_count_114 (by decide) ?_
        exact hw _ _ _ hP hD hS (lv_sub hl [2, 1, 0] rfl)
      refine lv_if_eq (pc := 101) (tgt := 108) hx hb dX11_count_101 (by decide) (fun c_19 => ?_) (fun c_19 => ?_)
      · skip
        refine lv_iconst (pc := 108) (v := (1 : Int32)) hx hb dX11_count_108 (by decide) ?_
        exact K_v_20 _ (by rw [if_pos c_19])
      · skip
        refine lv_iconst (pc := 104) (v := (0 : Int32)) hx hb dX11_count_104 (by decide) ?_
        refine lv_goto (pc := 105) (tgt := 109) hx hb dX11_count_105 (by decide) ?_
        exact K_v_20 _ (by rw [if_neg c_19]))
  replace hw := hw (by
    intro x2 x3 hw H locs ls hP hD hS hl
    refine lv_iload_n (pc := 140) hx hb dX11_count_140 rfl (lv_at hl 2 rfl) ?_
    refine lv_bipush (pc := 141) (v := (30 : Int32)) hx hb dX11_count_141 (by decide) ?_
    refine lv_icmp_ge (pc := 143) (tgt := 161) hx hb dX11_count_143 (by decide) (fun c_23 => ?_) (fun c_23 => ?_)
    · replace hw := hw.1 c_23
      refine lv_iload_n (pc := 161) hx hb dX11_count_161 rfl (lv_at hl 1 rfl) ?_
      exact hRetI (S := Unit) () hx hb hr hlocks hQ hw hP hK hD hS dX11_count_162
    · replace hw := hw.2 c_23
      refine lv_iload_n (pc := 146) hx hb dX11_count_146 rfl (lv_at hl 1 rfl) ?_
      refine lv_aload_n (pc := 147) hx hb dX11_count_147 rfl (lv_at hl 0 rfl) ?_
      refine va_get (pc := 148) (D := G) (ci := 11) (v := .ref (q 3)) (C := RX11) (T := TX11) (N := 45) hx hb hts iw_X11_count_X11 hown hK hP 0 rfl rfl 3 (by decide) (hts _ (List.mem_of_getElem? (i := 8) rfl)) (fun _ h9 => h9) rfl dX11_count_148 ?_
      refine lv_iload_n (pc := 151) hx hb dX11_count_151 rfl (lv_at hl 2 rfl) ?_
      obtain ⟨h_24, hw⟩ := hw
      refine va_iald (pc := 152) hx hb hK hP 1 0 rfl rfl h_24 dX11_count_152 ?_
      refine lv_iadd (pc := 153) hx hb dX11_count_153 ?_
      refine lv_topi (fun y_25 ey_25 => ?_)
      replace hw := hw y_25 ey_25
      refine lv_istore_n (pc := 154) (lv' := [(2, .int y_25), (0, .ref (q 0)), (3, .int x3)]) hx hb dX11_count_154 rfl hl (by decide) rfl (fun ls hl => ?_)
      obtain ⟨y_26, ey_26⟩ : ∃ z : Int32, z = (x3 + (1 : Int32)) := ⟨_, rfl⟩
      replace hw := hw y_26 ey_26
      refine lv_iinc (pc := 155) (v := y_26) (lv' := [(3, .int y_26), (2, .int y_25), (0, .ref (q 0))]) hx hb dX11_count_155 hl (k := 2) rfl (by rw [ey_26]; rfl) (by decide) rfl (fun ls hl => ?_)
      refine lv_goto (pc := 158) (tgt := 140) hx hb dX11_count_158 (by decide) ?_
      exact hw _ _ _ hP hD hS (lv_sub hl [2, 1, 0] rfl))
  refine lv_iconst (pc := 0) (v := (0 : Int32)) hx hb dX11_count_0 (by decide) ?_
  refine lv_istore_n (pc := 1) (lv' := [(2, .int (0 : Int32)), (0, .ref (q 0)), (1, .int p1)]) hx hb dX11_count_1 rfl hl (by decide) rfl (fun ls hl => ?_)
  refine lv_iload_n (pc := 2) hx hb dX11_count_2 rfl (lv_at hl 2 rfl) ?_
  by_cases hc_1 : p1 = (0 : Int32)
  · replace hw := hw.1 hc_1
    refine lv_tableIn (pc := 3) (tgt := 44) hx hb dX11_count_3 (by rw [hc_1]; decide) (by rw [hc_1]; decide) (by rw [hc_1]; rfl) (by decide) ?_
    refine lv_aload_n (pc := 44) hx hb dX11_count_44 rfl (lv_at hl 1 rfl) ?_
    refine va_get (pc := 45) (D := G) (ci := 11) (v := .int m_kinds) (C := RX11) (T := TX11) (N := 45) hx hb hts iw_X11_count_X11 hown hK hP 0 rfl rfl 0 (by decide) (hts _ (List.mem_of_getElem? (i := 1) rfl)) (fun _ h9 => h9) rfl dX11_count_45 ?_
    exact hRetI (S := Unit) () hx hb hr hlocks hQ hw hP hK hD hS dX11_count_48
  by_cases hc_2 : p1 = (1 : Int32)
  · replace hw := hw.2.1 hc_2
    refine lv_tableIn (pc := 3) (tgt := 49) hx hb dX11_count_3 (by rw [hc_2]; decide) (by rw [hc_2]; decide) (by rw [hc_2]; rfl) (by decide) ?_
    refine lv_iconst (pc := 49) (v := (0 : Int32)) hx hb dX11_count_49 (by decide) ?_
    refine lv_istore_n (pc := 50) (lv' := [(3, .int (0 : Int32)), (2, .int (0 : Int32)), (0, .ref (q 0)), (1, .int p1)]) hx hb dX11_count_50 rfl hl (by decide) rfl (fun ls hl => ?_)
    exact hw _ _ _ hP hD hS (lv_sub hl [2, 1, 0] rfl)
  by_cases hc_3 : p1 = (2 : Int32)
  · replace hw := hw.2.2.1 hc_3
    refine lv_tableIn (pc := 3) (tgt := 84) hx hb dX11_count_3 (by rw [hc_3]; decide) (by rw [hc_3]; decide) (by rw [hc_3]; rfl) (by decide) ?_
    refine lv_iconst (pc := 84) (v := (0 : Int32)) hx hb dX11_count_84 (by decide) ?_
    refine lv_istore_n (pc := 85) (lv' := [(3, .int (0 : Int32)), (2, .int (0 : Int32)), (0, .ref (q 0)), (1, .int p1)]) hx hb dX11_count_85 rfl hl (by decide) rfl (fun ls hl => ?_)
    exact hw _ _ _ hP hD hS (lv_sub hl [2, 1, 0] rfl)
  by_cases hc_4 : p1 = (3 : Int32)
  · replace hw := hw.2.2.2.1 hc_4
    refine lv_tableIn (pc := 3) (tgt := 119) hx hb dX11_count_3 (by rw [hc_4]; decide) (by rw [hc_4]; decide) (by rw [hc_4]; rfl) (by decide) ?_
    refine lv_aload_n (pc := 119) hx hb dX11_count_119 rfl (lv_at hl 1 rfl) ?_
    refine va_get (pc := 120) (D := G) (ci := 11) (v := .ref (q 29)) (C := RX11) (T := TX11) (N := 45) hx hb hts iw_X11_count_X11 hown hK hP 0 rfl rfl 36 (by decide) (hts _ (List.mem_of_getElem? (i := 6) rfl)) (fun _ h9 => h9) rfl dX11_count_120 ?_
    refine lv_iconst (pc := 123) (v := (0 : Int32)) hx hb dX11_count_123 (by decide) ?_
    obtain ⟨h_5, hw⟩ := hw
    refine va_iald (pc := 124) hx hb hK hP 4 0 rfl rfl h_5 dX11_count_124 ?_
    exact hRetI (S := Unit) () hx hb hr hlocks hQ hw hP hK hD hS dX11_count_125
  by_cases hc_6 : p1 = (4 : Int32)
  · replace hw := hw.2.2.2.2.1 hc_6
    refine lv_tableIn (pc := 3) (tgt := 126) hx hb dX11_count_3 (by rw [hc_6]; decide) (by rw [hc_6]; decide) (by rw [hc_6]; rfl) (by decide) ?_
    refine lv_aload_n (pc := 126) hx hb dX11_count_126 rfl (lv_at hl 1 rfl) ?_
    refine va_get (pc := 127) (D := G) (ci := 11) (v := .ref (q 29)) (C := RX11) (T := TX11) (N := 45) hx hb hts iw_X11_count_X11 hown hK hP 0 rfl rfl 36 (by decide) (hts _ (List.mem_of_getElem? (i := 6) rfl)) (fun _ h9 => h9) rfl dX11_count_127 ?_
    refine lv_iconst (pc := 130) (v := (1 : Int32)) hx hb dX11_count_130 (by decide) ?_
    obtain ⟨h_7, hw⟩ := hw
    refine va_iald (pc := 131) hx hb hK hP 4 0 rfl rfl h_7 dX11_count_131 ?_
    exact hRetI (S := Unit) () hx hb hr hlocks hQ hw hP hK hD hS dX11_count_132
  by_cases hc_8 : p1 = (5 : Int32)
  · replace hw := hw.2.2.2.2.2.1 hc_8
    refine lv_tableIn (pc := 3) (tgt := 133) hx hb dX11_count_3 (by rw [hc_8]; decide) (by rw [hc_8]; decide) (by rw [hc_8]; rfl) (by decide) ?_
    refine lv_aload_n (pc := 133) hx hb dX11_count_133 rfl (lv_at hl 1 rfl) ?_
    refine va_get (pc := 134) (D := G) (ci := 11) (v := .int m_breakages) (C := RX11) (T := TX11) (N := 45) hx hb hts iw_X11_count_X11 hown hK hP 0 rfl rfl 41 (by decide) (hts _ (List.mem_of_getElem? (i := 7) rfl)) (fun _ h9 => h9) rfl dX11_count_134 ?_
    exact hRetI (S := Unit) () hx hb hr hlocks hQ hw hP hK hD hS dX11_count_137
  by_cases hc_9 : p1 = (6 : Int32)
  · replace hw := hw.2.2.2.2.2.2.1 hc_9
    refine lv_tableIn (pc := 3) (tgt := 138) hx hb dX11_count_3 (by rw [hc_9]; decide) (by rw [hc_9]; decide) (by rw [hc_9]; rfl) (by decide) ?_
    refine lv_iconst (pc := 138) (v := (0 : Int32)) hx hb dX11_count_138 (by decide) ?_
    refine lv_istore_n (pc := 139) (lv' := [(3, .int (0 : Int32)), (2, .int (0 : Int32)), (0, .ref (q 0)), (1, .int p1)]) hx hb dX11_count_139 rfl hl (by decide) rfl (fun ls hl => ?_)
    exact hw _ _ _ hP hD hS (lv_sub hl [2, 1, 0] rfl)
  have hc_10 : (p1.toInt < 0 ∨ 6 < p1.toInt) := by
    have ehc_1 : p1.toInt ≠ 0 := fun e => hc_1 (Int32.toInt_inj.mp (e.trans (by decide)))
    have ehc_2 : p1.toInt ≠ 1 := fun e => hc_2 (Int32.toInt_inj.mp (e.trans (by decide)))
    have ehc_3 : p1.toInt ≠ 2 := fun e => hc_3 (Int32.toInt_inj.mp (e.trans (by decide)))
    have ehc_4 : p1.toInt ≠ 3 := fun e => hc_4 (Int32.toInt_inj.mp (e.trans (by decide)))
    have ehc_6 : p1.toInt ≠ 4 := fun e => hc_6 (Int32.toInt_inj.mp (e.trans (by decide)))
    have ehc_8 : p1.toInt ≠ 5 := fun e => hc_8 (Int32.toInt_inj.mp (e.trans (by decide)))
    have ehc_9 : p1.toInt ≠ 6 := fun e => hc_9 (Int32.toInt_inj.mp (e.trans (by decide)))
    omega
  replace hw := hw.2.2.2.2.2.2.2 hc_10
  refine lv_tableOut (pc := 3) (tgt := 163) hx hb dX11_count_3 hc_10 (by decide) ?_
  refine lv_bipush (pc := 163) (v := (-2 : Int32)) hx hb dX11_count_163 (by decide) ?_
  exact hRetI (S := Unit) () hx hb hr hlocks hQ hw hP hK hD hS dX11_count_165
