
def hNest : List Cond := [.methodLinkNest RX10 11 yX4_init RX10, .fieldLinkNest RX10 83 RX4 "size" "I" RX10, .methodLinkNest RX10 18 yX8_init RX10, .fieldLinkNest RX2 120 RX8 "booked" "[I" RX10, .methodLinkNest RX10 25 yX9_init RX10, .fieldLinkNest RX10 104 RX9 "size" "I" RX10, .methodLinkNest RX10 32 yX3_init RX10, .fieldLinkNest RX2 91 RX3 "day" "[I" RX10, .fieldLinkNest RX2 129 RX3 "house" "[I" RX10, .fieldLinkNest RX2 84 RX3 "kind" "[I" RX10, .fieldLinkNest RX10 172 RX3 "kind" "[I" RX10, .fieldLinkNest RX2 94 RX3 "need" "[I" RX10, .fieldLinkNest RX2 80 RX3 "on" "[Z" RX10, .fieldLinkNest RX10 168 RX3 "on" "[Z" RX10, .fieldLinkNest RX2 79 RX3 "size" "I" RX10, .fieldLinkNest RX10 152 RX3 "size" "I" RX10, .methodLinkNest RX10 39 yX2_init RX10, .methodLinkNest RX10 46 yX7_init RX10, .fieldLinkNest RX10 202 RX7 "hands" "I" RX10, .methodLinkNest RX10 53 yX5_init RX10, .fieldLinkNest RX6 61 RX5 "pieces" "I" RX10, .fieldLinkNest RX10 217 RX5 "pieces" "I" RX10, .fieldLinkNest RX6 42 RX5 "finds" "I" RX10, .fieldLinkNest RX10 214 RX5 "finds" "I" RX10, .methodLinkNest RX10 60 yX6_init RX10, .methodLinkNest RX10 67 yX0_init RX10, .methodLinkNest RX10 74 yX1_init RX10, .fieldLinkNest RX10 263 RX1 "size" "I" RX10, .methodLinkNest RX10 87 yX4_add RX10, .methodLinkNest RX10 159 yX4_has RX10, .methodLinkNest RX4 22 yX10_within RX10, .methodLinkNest RX10 98 yX8_setBooked RX10, .methodLinkNest RX10 105 yX4_fewestReaching RX10, .methodLinkNest RX10 108 yX4_mostWithin RX10, .methodLinkNest RX10 111 yX9_add RX10, .methodLinkNest RX10 114 yX9_stop RX10, .methodLinkNest RX10 118 yX9_edge RX10, .methodLinkNest RX10 122 yX9_firstAgainst RX10, .methodLinkNest RX10 130 yX4_pairsOn RX10, .methodLinkNest RX10 133 yX4_pairAt RX10, .methodLinkNest RX10 137 yX8_setParted RX10, .methodLinkNest RX10 276 yX8_lost RX10, .methodLinkNest RX10 149 yX2_setFar RX10, .methodLinkNest RX10 153 yX3_add RX10, .methodLinkNest RX10 155 yX3_has RX10, .methodLinkNest RX3 32 yX10_within RX10, .methodLinkNest RX10 158 yX3_stop RX10, .methodLinkNest RX10 160 yX2_leastFor RX10, .methodLinkNest RX2 58 yX8_bookedOf RX10, .methodLinkNest RX8 18 yX10_cell RX10, .methodLinkNest RX2 123 yX10_cell RX10, .methodLinkNest RX10 164 yX2_firstShortDay RX10, .fieldLinkNest RX10 179 RX7 "LOWEST" "[I" RX10, .fieldLinkNest RX10 182 RX7 "HIGHEST" "[I" RX10, .methodLinkNest RX10 185 yX7_setValue RX10, .methodLinkNest RX10 188 yX7_setHands RX10, .methodLinkNest RX10 191 yX7_fewestOver RX10, .methodLinkNest RX10 194 yX7_setOfMonth RX10, .methodLinkNest RX10 205 yX7_goBy RX10, .methodLinkNest RX10 208 yX7_apart RX10, .methodLinkNest RX10 220 yX5_add RX10, .methodLinkNest RX10 223 yX5_takeAway RX10, .methodLinkNest RX10 230 yX5_price RX10, .methodLinkNest RX10 233 yX6_bestPrice RX10, .methodLinkNest RX6 48 yX5_price RX10, .methodLinkNest RX10 237 yX6_mostPairs RX10, .methodLinkNest RX10 240 yX6_findOf RX10, .methodLinkNest RX10 244 yX6_choicesOf RX10, .methodLinkNest RX10 250 yX0_isDoubted RX10, .methodLinkNest RX10 254 yX0_greatestKept RX10, .methodLinkNest RX10 257 yX0_leastKept RX10, .methodLinkNest RX10 264 yX1_add RX10, .methodLinkNest RX10 265 yX1_tell RX10, .methodLinkNest RX1 25 yX10_within RX10, .methodLinkNest RX10 268 yX9_counting RX10, .methodLinkNest RX10 271 yX3_counting RX10, .methodLinkNest RX10 272 yX8_bookedInAll RX10]
/-! BASE: one environment for all contracts: array classes, nest links, the static tables; entry, call and return rows. -/
def hTys (K : ClassId × ClassId × ClassId) : List (ClassId × FieldType) := [(K.1, .int), (K.2.1, .long), (K.2.2, .boolean)]
def hIsN (w : Cond) : Bool := match w with
  | .fieldLinkNest _ _ _ _ _ _ => true
  | .methodLinkNest _ _ _ _ => true
  | _ => false
theorem hIsN_warm {s U : State} (hW : s.WarmedH U.vm) : ∀ w : Cond, hIsN w = true → va_Nw w s → va_Nw w U := by
  intro w h hZ
  cases w <;> first | exact va_Nw.warmF hW hZ | exact va_Nw.warmM hW hZ | (simp [hIsN] at h)
def tAt (j : Nat) : Int32 := ([100, 100, 10, 20] : List Int32).getD j 0
def tLo (j : Nat) : Int32 := ([0, 1, 0, 0] : List Int32).getD j 0
def tHi (j : Nat) : Int32 := ([200, 200, 99, 100] : List Int32).getD j 0
def tBe (j : Nat) : Int32 := ([0, 0, 16, 97, 353, 978, 2274, 4675] : List Int32).getD j 0
def tPl (j : Nat) : Int32 := ([4782969, 531441, 59049, 6561, 729, 81, 9, 1] : List Int32).getD j 0
def hTb (tb : Nat → Nat) (A : Nat → Prop) (U : State) (H : Heap) : Prop :=
  (va_Z RX7 "AT_FIRST" "[I" (.ref (tb 0)) A U H ∧ va_T .int (tb 0) 4 (fun j => .int (tAt j)) A U H) ∧
  (va_Z RX7 "LOWEST" "[I" (.ref (tb 1)) A U H ∧ va_T .int (tb 1) 4 (fun j => .int (tLo j)) A U H) ∧
  (va_Z RX7 "HIGHEST" "[I" (.ref (tb 2)) A U H ∧ va_T .int (tb 2) 4 (fun j => .int (tHi j)) A U H) ∧
  (va_Z RX7 "BEGIN" "[I" (.ref (tb 3)) A U H ∧ va_T .int (tb 3) 8 (fun j => .int (tBe j)) A U H) ∧
  (va_Z RX6 "PLACE" "[I" (.ref (tb 4)) A U H ∧ va_T .int (tb 4) 8 (fun j => .int (tPl j)) A U H)
theorem hZT_go {C n d : String} {v : Value} {ty : FieldType} {t N : Nat} {f : Nat → Value} {A B : Nat → Prop} {s U : State} {H : Heap} (h : va_Z C n d v A s s.heap ∧ va_T ty t N f A s s.heap) (hvm : s.vm.Alike U.vm) (hU : U.heap = H) (hq : ∀ a : Nat, a < s.heap.size → ¬ A a → H[a]? = s.heap[a]?) (hAB : ∀ q, B q → A q) : va_Z C n d v B U U.heap ∧ va_T ty t N f B U U.heap := by
  rw [hU]
  exact ⟨((h.1.kept hq).moved hvm).narrow hAB, ((h.2.kept hq).moved hvm).narrow hAB⟩
theorem hTb_go {tb : Nat → Nat} {A B : Nat → Prop} {s U : State} {H : Heap} (h : hTb tb A s s.heap) (hvm : s.vm.Alike U.vm) (hU : U.heap = H) (hq : ∀ a : Nat, a < s.heap.size → ¬ A a → H[a]? = s.heap[a]?) (hAB : ∀ q, B q → A q) : hTb tb B U U.heap :=
  ⟨hZT_go h.1 hvm hU hq hAB, hZT_go h.2.1 hvm hU hq hAB, hZT_go h.2.2.1 hvm hU hq hAB, hZT_go h.2.2.2.1 hvm hU hq hAB, hZT_go h.2.2.2.2 hvm hU hq hAB⟩
def hEv (tb : Nat → Nat) (A : Nat → Prop) (U : State) : Prop := (∀ w ∈ hNest, va_Nw w U) ∧ hTb tb A U U.heap
theorem hNest_n : ∀ w ∈ hNest, hIsN w = true := by decide +kernel
theorem hNest_on : ∀ w ∈ hNest, w.onTables = true := by decide +kernel
theorem hEv.call {tb : Nat → Nat} {A B : Nat → Prop} {s U : State} {H : Heap} {locs : List Loc} (h : hEv tb A s) (hS : va_S A s.heap H locs) (hU : U.heap = H) (hW : s.WarmedH U.vm) (hAB : ∀ q, B q → A q) : hEv tb B U :=
  ⟨fun w hw => hIsN_warm hW w (hNest_n w hw) (h.1 w hw), hTb_go h.2 hW.alike hU hS.2.1 hAB⟩
theorem hEv.same {tb : Nat → Nat} {A : Nat → Prop} {U : State} {g : JFrame} {mk : MethodId} {a : Array Value} (h : hEv tb A U) : hEv tb A (U.calling g mk a) :=
  ⟨fun w hw => va_Nw.same (u := U) (U := U.calling g mk a) (hNest_on w hw) rfl (h.1 w hw), hTb_go (s := U) (U := U.calling g mk a) (H := U.heap) h.2 (Vm.Alike.refl U.vm) rfl (fun _ _ _ => rfl) (fun _ h => h)⟩
theorem hEv.nw {tb : Nat → Nat} {A : Nat → Prop} {U : State} (h : hEv tb A U) (i : Nat) {w : Cond} (hi : hNest[i]? = some w) : va_Nw w U := h.1 w (List.mem_of_getElem? hi)
theorem hEv.use {tb : Nat → Nat} {A : Nat → Prop} {U : State} (h : hEv tb A U) (i : Nat) {w : Cond} {av : Array Value} (hi : hNest[i]? = some w) : w.before av U = true := va_Nw.use (hNest_on w (List.mem_of_getElem? hi)) (h.nw i hi)
def hPre (G : va_G) (K : ClassId × ClassId × ClassId) (tb : Nat → Nat) (ws : va_W) (sz : Nat) (U : State) : Prop := U.heap.size = sz ∧ va_P G vwCl ws U.heap ∧ va_K G vwCl (hTys K) U ∧ va_D (fun _ => True) ws ∧ hEv tb (va_A ws sz) U
def hB (G : va_G) (K : ClassId × ClassId × ClassId) (A : Nat → Prop) (ws : va_W) (t : State) : Prop := va_P G vwCl ws t.heap ∧ va_K G vwCl (hTys K) t ∧ va_D A ws
theorem hMet {l : Launch} {y : MethodName} {cc : ByteArray} {maxL : Nat} {ret : Option FieldType} {ws' : List Cond} {rm : Room} {G : va_G} {K : ClassId × ClassId × ClassId} {tb : Nat → Nat} {WS : va_W} {sz mc ms : Nat} {avs : List Value} {lv : List (Nat × Value)} (QF : (Nat → Prop) → Array Value → State → Outcome → State → Prop)
    (hy : plainName y.cls = true) (hlv : lv_args 0 avs = lv) (hle : (lg_sl avs).length ≤ maxL)
    (body : ∀ (p : Program) (e : Env) (s : State) (m : MethodId) (av : Array Value) (below : List Frame) (meth : Method) (c : Code) (A : Nat → Prop) (Q : State → Prop) (ls : Array Slot),
      p.tables.exec = Jvm.exec → c.code = cc → meth.sig.returnType = ret → c.maxLocals = maxL → (∀ w ∈ (Cond.code y cc maxL ret :: ws'), w.before av s = true) → s.vm.findClass y.cls = some m.cls → meth.locks = false → meth.name = y.name → (∀ q : Nat, s.heap.size ≤ q → A q) → va_P G vwCl WS s.heap → va_K G vwCl (hTys K) s → va_D A WS → va_S A s.heap s.heap [] → hEv tb A s → Q = MQ below (QF A) av s mc ms A → lv_has ls maxL lv →
      W p l e rm s m av below meth c s.heap [] 0 0 Q (F0 m 0 ls [])) :
    Met l y (Cond.code y cc maxL ret :: ws') rm (va_Pc avs (hPre G K tb WS sz)) (QF (va_A WS sz)) mc ms (va_A WS sz) := by
  refine Met.ofW (cc := cc) (maxL := maxL) (ret := ret) hy rfl ?_
  intro p e s m args below meth c s₁ B hml hv
  obtain ⟨rfl, hsz, hP, hK, hD0, hE⟩ := hv
  subst hsz
  have hD := hD0.self (sz := s.heap.size)
  have hA : ∀ q : Nat, s.heap.size ≤ q → va_A WS s.heap.size q := fun q h => Or.inr h
  generalize va_A WS s.heap.size = A at hD hA hE ⊢
  have hl := lv_entry avs (n := maxL) hle
  rw [lg_entry_eq]
  rw [hlv] at hl
  exact body p e s m avs.toArray below meth c A _ _ B.exec B.bytes B.returns hml (atoms_spec B.pre) (findClass_of_methodNamed B.named) B.notSynchronized (name_of_methodNamed B.named B.method).1 hA hP hK hD va_S.rf hE rfl hl
theorem hPreS {s : State} {A : Nat → Prop} {G : va_G} {K : ClassId × ClassId × ClassId} {tb : Nat → Nat} {ws wc : va_W} {H : Heap} {locs : List Loc} {As : List Value} (hE : hEv tb A s) (hP : va_P G vwCl ws H) (hK : va_K G vwCl (hTys K) s) (hD : va_D A ws) (hS : va_S A s.heap H locs) (hA : ∀ q, s.heap.size ≤ q → A q) (isC : List Nat) (hn : va_nd isC = true) (hC : isC.map (fun i => ws[i]?) = wc.map some) (hC2 : isC.filterMap (fun i => ws[i]?) = wc) : PreS s H (va_Pc As (hPre G K tb wc H.size)) As := by
  refine ⟨fun a U g mk q => ?_, fun U hU hW => ?_⟩
  · obtain ⟨q0, q1, qP, qK, qD, qE⟩ := q
    exact ⟨q0, q1, qP, va_K.moved (u := U) (U := U.calling g mk a) (Vm.Alike.refl U.vm) qK, qD, qE.same⟩
  · have hPc := hP.sub isC hC2
    have hDc := hD.sub isC hn hC
    have hFc := va_free hD hS hA isC hC
    exact ⟨rfl, by rw [hU], by rw [hU]; exact hPc, va_K.moved hW.alike hK, hDc.weaken (fun _ _ _ _ => trivial), hE.call hS hU hW hFc⟩
theorem hPreV {s : State} {A : Nat → Prop} {G : va_G} {K : ClassId × ClassId × ClassId} {tb : Nat → Nat} {ws wc : va_W} {H : Heap} {locs : List Loc} {As : List Value} {b q0 ci : Nat} {q : vw_C} {C : String} {fs : List Value} (hE : hEv tb A s) (hP : va_P G vwCl ws H) (hK : va_K G vwCl (hTys K) s) (hD : va_D A ws) (hS : va_S A s.heap H locs) (hA : ∀ q, s.heap.size ≤ q → A q) (isC : List Nat) (hn : va_nd isC = true) (hC : isC.map (fun i => ws[i]?) = wc.map some) (hC2 : isC.filterMap (fun i => ws[i]?) = wc) (hc : vwCl[ci]? = some q) (hq : q.1 = C) (he : ws[q0]? = some (b, .inr (ci, fs))) : PreV s H C b (va_Pc (.ref b :: As) (hPre G K tb wc H.size)) As := by
  have h := hPreS (As := .ref b :: As) hE hP hK hD hS hA isC hn hC hC2
  subst hq
  exact ⟨h.1, va_recv hK hP hc he, h.2⟩
section hCalls
variable {p : Program} {l : Launch} {e : Env} {R : Room} {s : State} {m : MethodId} {av a : Array Value} {below : List Frame} {meth : Method} {c : Code} {H : Heap} {locs : List Loc} {Q : State → Prop} {A : Nat → Prop} {G : va_G} {K : ClassId × ClassId × ClassId} {ws wc wr : va_W} {pc : Nat} {ls : Array Slot} {st0 rest : List Value} {S : Type} {wsf : S → va_W}
theorem hCallI {post : Int32 → S → Prop} (isC isR : List Nat)
    (hrun : va_Run p l e R s m av below meth c H locs 0 0 0 0 (F0 m pc ls st0) rest (va_Qi post (fun u => hB G K (va_A wc H.size) (wsf u)) (va_A wc H.size) a) (va_A wc H.size))
    (hP : va_P G vwCl ws H) (hD : va_D A ws) (hS : va_S A s.heap H locs) (hA : ∀ q, s.heap.size ≤ q → A q) (hC : isC.map (fun i => ws[i]?) = wc.map some) (hR : isR.map (fun i => ws[i]?) = wr.map some) (hn : va_nd isR = true) (hdis : ∀ i ∈ isR, i ∉ isC)
    (kk : ∀ (r : Int32) (u : S) (H1 : Heap) (locs1 : List Loc), post r u → va_P G vwCl (wr ++ wsf u) H1 → va_D A (wr ++ wsf u) → va_S A s.heap H1 locs1 → W p l e R s m av below meth c H1 locs1 0 0 Q (F0 m (pc + 3) ls (.int r :: rest))) : W p l e R s m av below meth c H locs 0 0 Q (F0 m pc ls st0) := by
  have hFc := va_free (wc := wc) hD hS hA isC hC
  refine va_calli hrun hS (fun q _ h => hFc q h) hFc (fun r u t H1 locs1 ht hvm hw hB0 hz1 hk1 hS1 => ?_)
  obtain ⟨hP1, hK1, hD1⟩ := hB0
  rw [ht] at hP1
  obtain ⟨hP2, hD2⟩ := va_join hP hD isC isR hC hR hn hdis hk1 hFc hP1 hD1
  exact kk r u H1 locs1 hw hP2 hD2 hS1
theorem hCallL {post : Int64 → S → Prop} (isC isR : List Nat)
    (hrun : va_Run p l e R s m av below meth c H locs 0 0 0 0 (F0 m pc ls st0) rest (va_Ql post (fun u => hB G K (va_A wc H.size) (wsf u)) (va_A wc H.size) a) (va_A wc H.size))
    (hP : va_P G vwCl ws H) (hD : va_D A ws) (hS : va_S A s.heap H locs) (hA : ∀ q, s.heap.size ≤ q → A q) (hC : isC.map (fun i => ws[i]?) = wc.map some) (hR : isR.map (fun i => ws[i]?) = wr.map some) (hn : va_nd isR = true) (hdis : ∀ i ∈ isR, i ∉ isC)
    (kk : ∀ (r : Int64) (u : S) (H1 : Heap) (locs1 : List Loc), post r u → va_P G vwCl (wr ++ wsf u) H1 → va_D A (wr ++ wsf u) → va_S A s.heap H1 locs1 → W p l e R s m av below meth c H1 locs1 0 0 Q (F0 m (pc + 3) ls (.long r :: rest))) : W p l e R s m av below meth c H locs 0 0 Q (F0 m pc ls st0) := by
  have hFc := va_free (wc := wc) hD hS hA isC hC
  refine va_calll hrun hS (fun q _ h => hFc q h) hFc (fun r u t H1 locs1 ht hvm hw hB0 hz1 hk1 hS1 => ?_)
  obtain ⟨hP1, hK1, hD1⟩ := hB0
  rw [ht] at hP1
  obtain ⟨hP2, hD2⟩ := va_join hP hD isC isR hC hR hn hdis hk1 hFc hP1 hD1
  exact kk r u H1 locs1 hw hP2 hD2 hS1
theorem hCallV {post : S → Prop} (isC isR : List Nat)
    (hrun : va_Run p l e R s m av below meth c H locs 0 0 0 0 (F0 m pc ls st0) rest (va_Qv post (fun u => hB G K (va_A wc H.size) (wsf u)) (va_A wc H.size) a) (va_A wc H.size))
    (hP : va_P G vwCl ws H) (hD : va_D A ws) (hS : va_S A s.heap H locs) (hA : ∀ q, s.heap.size ≤ q → A q) (hC : isC.map (fun i => ws[i]?) = wc.map some) (hR : isR.map (fun i => ws[i]?) = wr.map some) (hn : va_nd isR = true) (hdis : ∀ i ∈ isR, i ∉ isC)
    (kk : ∀ (u : S) (H1 : Heap) (locs1 : List Loc), post u → va_P G vwCl (wr ++ wsf u) H1 → va_D A (wr ++ wsf u) → va_S A s.heap H1 locs1 → W p l e R s m av below meth c H1 locs1 0 0 Q (F0 m (pc + 3) ls rest)) : W p l e R s m av below meth c H locs 0 0 Q (F0 m pc ls st0) := by
  have hFc := va_free (wc := wc) hD hS hA isC hC
  refine va_callv hrun hS (fun q _ h => hFc q h) hFc (fun u t H1 locs1 ht hvm hw hB0 hz1 hk1 hS1 => ?_)
  obtain ⟨hP1, hK1, hD1⟩ := hB0
  rw [ht] at hP1
  obtain ⟨hP2, hD2⟩ := va_join hP hD isC isR hC hR hn hdis hk1 hFc hP1 hD1
  exact kk u H1 locs1 hw hP2 hD2 hS1
theorem hRetI {cc : ByteArray} {post : Int32 → S → Prop} {v : Int32} (u : S) (hx : p.tables.exec = Jvm.exec) (hb : c.code = cc) (hr : meth.sig.returnType = some .int) (hlocks : meth.locks = false) (hQ : Q = MQ below (va_Qi post (fun u => hB G K A (wsf u)) A) av s 0 0 A) (hw : post v u) (hP : va_P G vwCl (wsf u) H) (hK : va_K G vwCl (hTys K) s) (hD : va_D A (wsf u)) (hS : va_S A s.heap H locs) (hdg : decode cc pc = .ok (.ireturn, 1)) : W p l e R s m av below meth c H locs 0 0 Q (F0 m pc ls [.int v]) := by
  subst hQ
  exact W.iret (v := v) hx hb hr (fun t ht hW => ⟨⟨v, u, rfl, hw, by rw [ht]; exact hP, va_K.moved hW.alike hK, hD⟩, hS.F ht⟩) hS.2.2 hdg
theorem hRetZ {cc : ByteArray} {post : Int32 → S → Prop} {v : Int32} (u : S) (hx : p.tables.exec = Jvm.exec) (hb : c.code = cc) (hr : meth.sig.returnType = some .boolean) (hlocks : meth.locks = false) (hQ : Q = MQ below (va_Qi post (fun u => hB G K A (wsf u)) A) av s 0 0 A) (hz : v = 0 ∨ v = 1) (hw : post v u) (hP : va_P G vwCl (wsf u) H) (hK : va_K G vwCl (hTys K) s) (hD : va_D A (wsf u)) (hS : va_S A s.heap H locs) (hdg : decode cc pc = .ok (.ireturn, 1)) : W p l e R s m av below meth c H locs 0 0 Q (F0 m pc ls [.int v]) := by
  subst hQ
  exact W.zret (v := v) hx hb hr (by rcases hz with rfl | rfl <;> rfl) (fun t ht hW => ⟨⟨v, u, rfl, hw, by rw [ht]; exact hP, va_K.moved hW.alike hK, hD⟩, hS.F ht⟩) hS.2.2 hdg
theorem hRetL {cc : ByteArray} {post : Int64 → S → Prop} {v : Int64} (u : S) (hx : p.tables.exec = Jvm.exec) (hb : c.code = cc) (hr : meth.sig.returnType = some .long) (hlocks : meth.locks = false) (hQ : Q = MQ below (va_Ql post (fun u => hB G K A (wsf u)) A) av s 0 0 A) (hw : post v u) (hP : va_P G vwCl (wsf u) H) (hK : va_K G vwCl (hTys K) s) (hD : va_D A (wsf u)) (hS : va_S A s.heap H locs) (hdg : decode cc pc = .ok (.lreturn, 1)) : W p l e R s m av below meth c H locs 0 0 Q (F0 m pc ls [.long v]) := by
  subst hQ
  exact W.lret (v := v) hx hb hr (fun t ht hW => ⟨⟨v, u, rfl, hw, by rw [ht]; exact hP, va_K.moved hW.alike hK, hD⟩, hS.F ht⟩) hS.2.2 hdg
theorem hRetV {cc : ByteArray} {post : S → Prop} (u : S) (hx : p.tables.exec = Jvm.exec) (hb : c.code = cc) (hr : meth.sig.returnType = none) (hlocks : meth.locks = false) (hQ : Q = MQ below (va_Qv post (fun u => hB G K A (wsf u)) A) av s 0 0 A) (hw : post u) (hP : va_P G vwCl (wsf u) H) (hK : va_K G vwCl (hTys K) s) (hD : va_D A (wsf u)) (hS : va_S A s.heap H locs) (hdg : decode cc pc = .ok (.return_, 1)) : W p l e R s m av below meth c H locs 0 0 Q (F0 m pc ls []) := by
  subst hQ
  exact W.vret hx hb hr (fun t ht hW => ⟨⟨u, rfl, hw, by rw [ht]; exact hP, va_K.moved hW.alike hK, hD⟩, hS.F ht⟩) hS.2.2 hdg
end hCalls
abbrev aI (K : ClassId × ClassId × ClassId) (a n : Nat) (f : Nat → Int32) : Nat × va_E := (a, .inl (K.1, n, .inl f))
abbrev aJ (K : ClassId × ClassId × ClassId) (a n : Nat) (f : Nat → Int64) : Nat × va_E := (a, .inl (K.2.1, n, .inr (.inl f)))
abbrev aZ (K : ClassId × ClassId × ClassId) (a n : Nat) (f : Nat → Int32) : Nat × va_E := (a, .inl (K.2.2, n, .inl f))
abbrev oX4 (q : Nat → Nat) (kd_size : Int32) : Nat × va_E := (q 1, .inr (4, [.ref (q 2), .ref (q 3), .int kd_size]))
abbrev oX8 (q : Nat → Nat) : Nat × va_E := (q 4, .inr (8, [.ref (q 5), .ref (q 6)]))
abbrev oX9 (q : Nat → Nat) (wg_size : Int32) : Nat × va_E := (q 7, .inr (9, [.ref (q 8), .ref (q 9), .ref (q 10), .ref (q 11), .int wg_size]))
abbrev oX3 (q : Nat → Nat) (ev_size : Int32) : Nat × va_E := (q 12, .inr (3, [.ref (q 13), .ref (q 14), .ref (q 15), .ref (q 16), .ref (q 17), .int ev_size]))
abbrev oX2 (q : Nat → Nat) (ca_size : Int32) : Nat × va_E := (q 18, .inr (2, [.ref (q 19), .ref (q 20), .ref (q 21), .ref (q 22), .int ca_size, .ref (q 23), .ref (q 24), .ref (q 25), .ref (q 26), .ref (q 27), .ref (q 28), .ref (q 29), .ref (q 30)]))
abbrev oX7 (q : Nat → Nat) (pl_hands : Int32) : Nat × va_E := (q 31, .inr (7, [.ref (q 32), .ref (q 33), .ref (q 34), .int pl_hands]))
abbrev oX5 (q : Nat → Nat) (mk_pieces : Int32) (mk_finds : Int32) : Nat × va_E := (q 35, .inr (5, [.ref (q 36), .ref (q 37), .int mk_pieces, .int mk_finds]))
abbrev oX6 (q : Nat → Nat) : Nat × va_E := (q 38, .inr (6, [.ref (q 39), .ref (q 40)]))
abbrev oX0 (q : Nat → Nat) : Nat × va_E := (q 41, .inr (0, [.ref (q 42), .ref (q 43)]))
abbrev oX1 (q : Nat → Nat) (br_size : Int32) : Nat × va_E := (q 44, .inr (1, [.ref (q 45), .ref (q 46), .ref (q 47), .int br_size]))
abbrev oX10 (q : Nat → Nat) : Nat × va_E := (q 0, .inr (10, [.ref (q 1), .ref (q 4), .ref (q 7), .ref (q 12), .ref (q 18), .ref (q 31), .ref (q 35), .ref (q 38), .ref (q 41), .ref (q 44)]))
abbrev oX11 (q : Nat → Nat) (m_kinds : Int32) (m_weighings : Int32) (m_spanLow : Int32) (m_spanHigh : Int32) (m_events : Int32) (m_days : Int32) (m_edges : Int32) (m_crew : Int32) (m_breakages : Int32) : Nat × va_E := (q 0, .inr (11, [.int m_kinds, .ref (q 1), .ref (q 2), .ref (q 3), .ref (q 4), .int m_weighings, .ref (q 5), .ref (q 6), .ref (q 7), .ref (q 8), .ref (q 9), .int m_spanLow, .int m_spanHigh, .ref (q 10), .int m_events, .ref (q 11), .ref (q 12), .ref (q 13), .ref (q 14), .ref (q 15), .int m_days, .ref (q 16), .ref (q 17), .int m_edges, .ref (q 18), .ref (q 19), .ref (q 20), .ref (q 21), .ref (q 22), .ref (q 23), .ref (q 24), .ref (q 25), .ref (q 26), .ref (q 27), .int m_crew, .ref (q 28), .ref (q 29), .ref (q 30), .ref (q 31), .ref (q 32), .ref (q 33), .int m_breakages, .ref (q 34), .ref (q 35), .ref (q 36)]))
