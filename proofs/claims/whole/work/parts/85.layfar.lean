section lfar
variable {T : Net} {rm pi : Nat → Int} {ef et room : Nat → Int32} {pc : Nat → Int64}
/-- the net as it lies in the arrays -/
abbrev MN (T : Net) (ef et : Nat → Int32) (pc : Nat → Int64) : Prop := ∀ e, e < 2 * T.m → ef e = nI (T.fr e) ∧ et e = nI (T.to e) ∧ (pc e).toInt = T.pr e
theorem BF_0 {far : Nat → Int} {came : Nat → Nat} (h : ∀ v, v < T.N → far v = if v = 0 then 0 else EN) (hN : 0 < T.N) (P : Pot T rm pi) : BF T rm pi far came := by
  have nl : ∀ v, v < T.N → far v < EN → v = 0 := fun v hv hf => by
    rw [h v hv] at hf
    by_cases c : v = 0
    · exact c
    · rw [if_neg c] at hf; omega
  have z0 : far 0 = 0 := by rw [h 0 hN, if_pos rfl]
  refine ⟨z0, fun v hv hf => ?_, fun v hv => ?_, fun v hv hf => ?_, fun v hv v0 hf => absurd (nl v hv hf) v0, fun v hv hf => ?_⟩
  · have := nl v hv hf
    subst this
    rw [z0, P.z]; exact Int.le_refl _
  · rw [h v hv]; split <;> decide
  · have := nl v hv hf
    subst this
    rw [z0]
    omega
  · have := nl v hv hf
    subst this
    exact ⟨0, Dp.zero⟩
theorem layFar_i {post : Int32 → (Nat → Int64) → (Nat → Int32) → Prop} {D : Nat} {far0 : Nat → Int64} {came0 : Nat → Int32} (ok : NetOk T) (hN : T.N = 7 + 10 * D) (hD : D ≤ 12) (hm : 2 * T.m ≤ 1000) (M : MN T ef et pc) (hr : ∀ e, e < 2 * T.m → (room e).toInt = rm e) (P : Pot T rm pi)
    (h : ∀ (r : Int32) far came cm, BF T rm pi (fun v => (far v).toInt) cm → Still T rm (fun v => (far v).toInt) → (∀ v, v < T.N → v ≠ 0 → (far v).toInt < EN → came v = nI (cm v)) → (r = 0 ↔ ¬ (far 1).toInt < EN) → post r far came) : P_X11_layFar post (nI D) (nI (2 * T.m)) ef et room pc far0 came0 := by
  have eE : (1000000000000000 : Int64).toInt = EN := by decide
  have hE : EN = 1000000000000000 := rfl
  have c1 : (1 : Int32).toNatClampNeg = 1 := rfl
  have v1 : vp_in (1 : Int32) 130 := vp_in_iff.mpr (by decide)
  have lgE : ∀ x : Int64, (0 : Int32) ≤ lg_cmp x (1000000000000000 : Int64) ↔ ¬ x.toInt < EN := fun x => by
    have := lg_lt x (1000000000000000 : Int64)
    rw [eE, fa_lt] at this
    rw [fa_le]
    have z : (0 : Int32).toInt = 0 := by decide
    omega
  have lgG : ∀ x y : Int64, (0 : Int32) ≤ lg_cmp x y ↔ ¬ x.toInt < y.toInt := fun x y => by
    have := lg_lt x y
    rw [fa_lt] at this
    rw [fa_le]
    have z : (0 : Int32).toInt = 0 := by decide
    omega
  unfold P_X11_layFar
  intro X13 X43 X51 h13 h43 h51
  have fin : ∀ far came cm, BF T rm pi (fun v => (far v).toInt) cm → Still T rm (fun v => (far v).toInt) → (∀ v, v < T.N → v ≠ 0 → (far v).toInt < EN → came v = nI (cm v)) → X43 0 far came := by
    intro far came cm B S hc
    apply h43
    refine ⟨fun _ => ⟨v1, fun v ev => ?_⟩, fun z => absurd rfl z⟩
    refine h v far came cm B S hc ?_
    rw [ev, c1]
    by_cases q : (0 : Int32) ≤ lg_cmp (far 1) (1000000000000000 : Int64)
    · rw [if_pos q]; exact ⟨fun _ => (lgE _).mp q, fun _ => rfl⟩
    · rw [if_neg q]; exact ⟨fun z => absurd z (by decide), fun z => absurd ((lgE _).mpr z) q⟩
  have loop : ∀ b : Nat, ∀ far came cm, BF T rm pi (fun v => (far v).toInt) cm → (∀ v, v < T.N → v ≠ 0 → (far v).toInt < EN → came v = nI (cm v)) → (measF T (fun v => (far v).toInt)).toNat < b → X43 1 far came := by
    intro b
    induction b with
    | zero => intro far came cm B hc hb; omega
    | succ b ihb =>
      intro far came cm B hc hb
      have pass : ∀ k e : Nat, e + k = 2 * T.m → ∀ (mo : Int32) (far2 : Nat → Int64) (came2 : Nat → Int32) (cm2 : Nat → Nat), BF T rm pi (fun v => (far2 v).toInt) cm2 → (∀ v, v < T.N → v ≠ 0 → (far2 v).toInt < EN → came2 v = nI (cm2 v)) → ((mo = 0 ∧ measF T (fun v => (far2 v).toInt) ≤ measF T (fun v => (far v).toInt) ∧ ∀ x, x < e → 0 < rm x → (far2 (T.fr x)).toInt < EN → (far2 (T.to x)).toInt ≤ (far2 (T.fr x)).toInt + T.pr x) ∨ (mo = 1 ∧ measF T (fun v => (far2 v).toInt) < measF T (fun v => (far v).toInt))) → X51 mo (nI e) far2 came2 := by
        intro k
        induction k with
        | zero =>
          intro e he mo far2 came2 cm2 B2 hc2 hmo
          have e1 : e = 2 * T.m := by omega
          subst e1
          apply h51
          have c : nI (2 * T.m) ≤ nI (2 * T.m) := (nI_leI (by omega) (by omega)).mpr (Nat.le_refl _)
          refine ⟨fun _ => ?_, fun z => absurd c z⟩
          rcases hmo with ⟨rfl, -, w⟩ | ⟨rfl, w⟩
          · exact fin far2 came2 cm2 B2 w hc2
          · refine ihb far2 came2 cm2 B2 hc2 ?_
            have := meas_nn P B2
            omega
        | succ k ihk =>
          intro e he mo far2 came2 cm2 B2 hc2 hmo
          have ihk := ihk (e + 1) (by omega)
          have heM : e < 2 * T.m := by omega
          obtain ⟨m1, m2, m3⟩ := M e heM
          have hfr := ok.frN e heM
          have hto := ok.toN e heM
          have hN127 := ok.pos.2
          have low := ok.low e heM
          have flo : -200000000 ≤ (far2 (T.fr e)).toInt ∧ (far2 (T.fr e)).toInt ≤ EN := by
            refine ⟨?_, B2.top _ hfr⟩
            by_cases w : (far2 (T.fr e)).toInt < EN
            · have h1 := B2.lo _ hfr w
              have h2 := P.lo _ hfr
              have h1 : pi (T.fr e) ≤ (far2 (T.fr e)).toInt := h1
              omega
            · omega
          have skip : (¬ (0 < rm e ∧ (far2 (T.fr e)).toInt < EN ∧ (far2 (T.fr e)).toInt + T.pr e < (far2 (T.to e)).toInt)) → ∀ y : Int32, y = nI e + 1 → X51 mo y far2 came2 := by
            intro hn y ey
            rw [nI_1] at ey
            subst ey
            refine ihk mo far2 came2 cm2 B2 hc2 ?_
            rcases hmo with ⟨a1, a2, a3⟩ | w
            · refine Or.inl ⟨a1, a2, fun x hx h1 h2 => ?_⟩
              by_cases q : x = e
              · subst q
                by_cases q2 : (far2 (T.fr x)).toInt + T.pr x < (far2 (T.to x)).toInt
                · exact absurd ⟨h1, h2, q2⟩ hn
                · omega
              · exact a3 x (by omega) h1 h2
            · exact Or.inr w
          apply h51
          have c : ¬ nI (2 * T.m) ≤ nI e := fun z => by have := (nI_leI (by omega) (by omega)).mp z; omega
          refine ⟨fun z => absurd z c, fun _ => ?_⟩
          rw [nIc (i := e) (by omega), m1, m2, nIc (i := T.fr e) (by omega), nIc (i := T.to e) (by omega)]
          refine ⟨nIv (by omega) (by omega), nIv (by omega) (by omega), fun y ey => ?_⟩
          have hy : y.toInt = (far2 (T.fr e)).toInt + T.pr e := by rw [ey, fb_addL (by omega) (by omega), m3]
          have z0 : (0 : Int32).toInt = 0 := by decide
          refine ⟨fun w => skip (fun v => ?_), fun w => ⟨fun w2 => skip (fun v => (lgE _).mp w2 v.2.1), fun w2 => ⟨nIv (by omega) (by omega), fun w3 => skip (fun v => ?_), fun w3 => ?_⟩⟩⟩
          · rw [fa_le, hr e heM, z0] at w
            omega
          · have := (lgG _ _).mp w3
            omega
          · have r0 : 0 < rm e := by
              rw [fa_le, hr e heM, z0] at w; omega
            have f0 : (far2 (T.fr e)).toInt < EN := by
              by_cases q : (far2 (T.fr e)).toInt < EN
              · exact q
              · exact absurd ((lgE _).mpr q) w2
            have l0 : (far2 (T.fr e)).toInt + T.pr e < (far2 (T.to e)).toInt := by
              by_cases q : y.toInt < (far2 (T.to e)).toInt
              · omega
              · exact absurd ((lgG _ _).mpr q) w3
            obtain ⟨B3, ms⟩ := relax ok P B2 heM r0 f0 l0
            intro far3 e3 came3 e4 y5 e5
            rw [nI_1] at e5
            subst e5
            have ff : (fun v => (far3 v).toInt) = fun v => if v = T.to e then (far2 (T.fr e)).toInt + T.pr e else (far2 v).toInt := by
              funext v
              rw [e3, vuL_at]
              by_cases q : v = T.to e
              · rw [if_pos q, if_pos q, hy]
              · rw [if_neg q, if_neg q]
            refine ihk 1 far3 came3 (fun v => if v = T.to e then e else cm2 v) (by rw [ff]; exact B3) (fun v hv v0 hf => ?_) (Or.inr ⟨rfl, ?_⟩)
            · rw [e4, upd_at]
              by_cases q : v = T.to e
              · rw [if_pos q, if_pos q]
              · rw [if_neg q, if_neg q]
                refine hc2 v hv v0 ?_
                rw [e3, vuL_at, if_neg q] at hf
                exact hf
            · rw [ff]
              rcases hmo with ⟨-, a2, -⟩ | ⟨-, a2⟩
              · omega
              · omega
      apply h43
      refine ⟨fun z => absurd z (by decide), fun _ => ?_⟩
      exact pass (2 * T.m) 0 (by omega) 0 far came cm B hc (Or.inl ⟨rfl, Int.le_refl _, fun x hx => absurd hx (by omega)⟩)
  have first : ∀ k v : Nat, v + k = T.N → ∀ far : Nat → Int64, (∀ x, x < v → (far x).toInt = if x = 0 then 0 else EN) → X13 (nI T.N) (nI v) far came0 := by
    intro k
    induction k with
    | zero =>
      intro v hv far hf
      have e : v = T.N := by omega
      subst e
      apply h13
      have c : nI T.N ≤ nI T.N := (nI_leI (by omega) (by omega)).mpr (Nat.le_refl _)
      refine ⟨fun _ => ?_, fun z => absurd c z⟩
      have B := BF_0 (T := T) (rm := rm) (pi := pi) (far := fun v => (far v).toInt) (came := fun _ => 0) hf (by omega) P
      refine loop ((measF T (fun v => (far v).toInt)).toNat + 1) far came0 (fun _ => 0) B (fun v hv v0 hl => ?_) (by omega)
      rw [hf v hv, if_neg v0] at hl
      omega
    | succ k ih =>
      intro v hv far hf
      have ih := ih (v + 1) (by omega)
      apply h13
      have c : ¬ nI T.N ≤ nI v := fun z => by have := (nI_leI (by omega) (by omega)).mp z; omega
      refine ⟨fun z => absurd z c, fun _ x ex => ⟨nIv (by omega) (by omega), fun far2 e2 y ey => ?_⟩⟩
      rw [nI_1] at ey
      subst ey
      refine ih far2 (fun x2 hx2 => ?_)
      rw [e2, nIc (by omega), vuL_at]
      by_cases q : x2 = v
      · subst q
        rw [if_pos rfl, ex]
        by_cases q2 : x2 = 0
        · subst q2
          have zz : nI 0 = (0 : Int32) := rfl
          rw [if_pos rfl, if_pos zz]; decide
        · have : ¬ nI x2 = (0 : Int32) := fun z => q2 ((nI_eq (b := 0) (by omega) (by omega)).mp z)
          rw [if_neg this, if_neg q2, eE]
      · rw [if_neg q]; exact hf x2 (by omega)
  intro y ey
  have e7 : (7 : Int32) = nI 7 := rfl
  have e10 : (10 : Int32) = nI 10 := rfl
  rw [e7, e10, pk_mul, nI_add, ← hN] at ey
  subst ey
  exact first T.N 0 (by omega) far0 (fun x hx => absurd hx (by omega))
end lfar
