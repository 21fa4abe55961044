section ldy
variable {ev_day ev_house ev_kind ev_need ev_on m_isOff : Nat → Int32} {N : Nat} {k wo : Int32}
/-- what a house needs on a day, of the first e EVENTS -/
def ndV (act : Nat → Bool) (dy dd : Nat → Int) (hs : Nat → Nat) (ne : Nat → Int) (e d h : Nat) : Int := sI (fun x => if act x = true ∧ dd d = dy x ∧ hs x = h then ne x else 0) e
theorem ndV_rng {act : Nat → Bool} {dy dd : Nat → Int} {hs : Nat → Nat} {ne : Nat → Int} {d h : Nat} : ∀ e, (∀ x, x < e → 0 ≤ ne x ∧ ne x ≤ 500) → 0 ≤ ndV act dy dd hs ne e d h ∧ ndV act dy dd hs ne e d h ≤ 500 * e
  | 0, _ => by unfold ndV; rw [sI]; decide
  | e + 1, hn => by
    have ih := ndV_rng e (fun x hx => hn x (by omega)) (act := act) (dy := dy) (dd := dd) (hs := hs) (d := d) (h := h)
    have := hn e (by omega)
    unfold ndV at ih ⊢
    rw [sI]
    split <;> omega
theorem layDays_i {post : Int32 → (Nat → Int32) → (Nat → Int32) → Prop} {m_days : Int32} {m_day m_need : Nat → Int32} (hN : N ≤ 12) (hoff : ∀ e, e < N → (m_isOff e = 0 ↔ ¬ ev_on e = 0)) (hhs : ∀ e, e < N → 0 ≤ (ev_house e).toInt ∧ (ev_house e).toInt ≤ 4) (hne : ∀ e, e < N → 0 ≤ (ev_need e).toInt ∧ (ev_need e).toInt ≤ 500)
    (h : ∀ D dd day2 nd2, GD N (actE ev_on ev_kind k wo) (fun e => (ev_day e).toInt) D dd → (∀ d, d < D → (day2 d).toInt = dd d) → (∀ d a, d < D → a < 5 → (nd2 (5 * d + a)).toInt = ndV (actE ev_on ev_kind k wo) (fun e => (ev_day e).toInt) dd (fun e => (ev_house e).toInt.toNat) (fun e => (ev_need e).toInt) N d a) → (∀ i, 5 * D ≤ i → i < 60 → nd2 i = 0) → post (nI D) day2 nd2) :
    P_X11_layDays post k wo (nI N) ev_day ev_house ev_kind ev_need m_isOff m_days m_day m_need := by
  unfold P_X11_layDays
  intro X7 X42 X73 X104 X164 X185 X196 h7 h42 h73 h104 h164 h185 h196
  -- the needs
  have needs : ∀ (D : Nat) (dd : Nat → Int) (day : Nat → Int32), GD N (actE ev_on ev_kind k wo) (fun e => (ev_day e).toInt) D dd → (∀ d, d < D → (day d).toInt = dd d) → ∀ m e : Nat, e + m = N → ∀ nd : Nat → Int32, (∀ d a, d < D → a < 5 → (nd (5 * d + a)).toInt = ndV (actE ev_on ev_kind k wo) (fun e => (ev_day e).toInt) dd (fun e => (ev_house e).toInt.toNat) (fun e => (ev_need e).toInt) e d a) → (∀ i, 5 * D ≤ i → i < 60 → nd i = 0) → X185 (nI e) (nI D) day nd := by
    intro D dd day B hd m
    have hD : D ≤ N := B.2.2.2
    induction m with
    | zero =>
      intro e he nd hnd hz
      have e1 : e = N := by omega
      subst e1
      apply h185
      have c : nI e ≤ nI e := (nI_leI (by omega) (by omega)).mpr (Nat.le_refl _)
      exact ⟨fun _ => h D dd day nd B hd hnd hz, fun z => absurd c z⟩
    | succ m ih =>
      intro e he nd hnd hz
      have ih := ih (e + 1) (by omega)
      have hh := hhs e (by omega)
      have hn := hne e (by omega)
      have inner : ∀ j d : Nat, d + j = D → ∀ nd : Nat → Int32, (∀ d2 a, d2 < D → a < 5 → (nd (5 * d2 + a)).toInt = ndV (actE ev_on ev_kind k wo) (fun e => (ev_day e).toInt) dd (fun e => (ev_house e).toInt.toNat) (fun e => (ev_need e).toInt) (if d2 < d then e + 1 else e) d2 a) → (∀ i, 5 * D ≤ i → i < 60 → nd i = 0) → X196 (nI e) (nI d) (nI D) day nd := by
        intro j
        induction j with
        | zero =>
          intro d hdj nd hnd hz
          have e1 : d = D := by omega
          subst e1
          apply h196
          have c : nI d ≤ nI d := (nI_leI (by omega) (by omega)).mpr (Nat.le_refl _)
          refine ⟨fun _ y ey => ?_, fun z => absurd c z⟩
          rw [nI_1] at ey
          subst ey
          refine ih nd (fun d2 a h1 h2 => ?_) hz
          have := hnd d2 a h1 h2
          rw [if_pos h1] at this
          exact this
        | succ j ihj =>
          intro d hdj nd hnd hz
          have ihj := ihj (d + 1) (by omega)
          have no : ¬ (actE ev_on ev_kind k wo e = true ∧ dd d = (ev_day e).toInt) → ∀ y : Int32, y = nI d + 1 → X196 (nI e) y (nI D) day nd := by
            intro hc y ey
            rw [nI_1] at ey
            subst ey
            refine ihj nd (fun d2 a h1 h2 => ?_) hz
            rw [hnd d2 a h1 h2]
            by_cases q : d2 = d
            · subst q
              rw [if_neg (by omega), if_pos (by omega)]
              unfold ndV
              rw [sI, if_neg (fun w => hc ⟨w.1, w.2.1⟩), Int.add_zero]
            · by_cases q2 : d2 < d
              · rw [if_pos q2, if_pos (by omega)]
              · rw [if_neg q2, if_neg (by omega)]
          apply h196
          have c : ¬ nI D ≤ nI d := fun z => by have := (nI_leI (by omega) (by omega)).mp z; omega
          refine ⟨fun z => absurd z c, fun _ => ⟨nIv (by omega) (by omega), ?_⟩⟩
          rw [nIc (i := e) (by omega), nIc (i := d) (by omega)]
          refine ⟨fun z1 => ⟨fun z2 => ⟨fun z3 => no (fun w => (act_iff.mp w.1).2.2 z3), fun z3 => ⟨nIv (by omega) (by omega), fun z4 => ?_, fun z4 => no (fun w => z4 ?_)⟩⟩, fun z2 => no (fun w => z2 ((hoff e (by omega)).mpr (act_iff.mp w.1).1))⟩, fun z1 => no (fun w => z1 (act_iff.mp w.1).2.1)⟩
          · have ha : actE ev_on ev_kind k wo e = true := act_iff.mpr ⟨(hoff e (by omega)).mp z2, z1, z3⟩
            have ed : dd d = (ev_day e).toInt := by rw [← hd d (by omega), z4]
            obtain ⟨H, eH, eH2⟩ : ∃ H : Nat, (ev_house e).toInt = H ∧ ev_house e = nI H := ⟨(ev_house e).toInt.toNat, by omega, nI_as (by omega)⟩
            have e5 : (5 : Int32) = nI 5 := rfl
            have ix : (5 : Int32) * nI d + nI H = nI (5 * d + H) := by rw [e5, pk_mul, nI_add]
            rw [eH2, ix, nIc (i := 5 * d + H) (by omega)]
            refine ⟨nIv (by omega) (by omega), fun nd2 e2 y ey => ?_⟩
            rw [nI_1] at ey
            subst ey
            have old := hnd d H (by omega) (by omega)
            rw [if_neg (by omega)] at old
            have rg := ndV_rng (act := actE ev_on ev_kind k wo) (dy := fun e => (ev_day e).toInt) (dd := dd) (hs := fun e => (ev_house e).toInt.toNat) (ne := fun e => (ev_need e).toInt) (d := d) (h := H) e (fun x hx => hne x (by omega))
            refine ihj nd2 (fun d2 a h1 h2 => ?_) (fun i h1 h2 => ?_)
            · rw [e2, upd_at]
              by_cases q : d2 = d
              · subst q
                rw [if_pos (show d2 < d2 + 1 by omega)]
                by_cases q3 : a = H
                · subst q3
                  rw [if_pos rfl, fb_addI (by omega) (by omega), old]
                  unfold ndV
                  rw [sI, if_pos ⟨ha, ed, by show (ev_house e).toInt.toNat = a; omega⟩]
                · rw [if_neg (by omega), hnd d2 a h1 h2, if_neg (by omega)]
                  unfold ndV
                  rw [sI, if_neg (fun w => q3 (by have : (ev_house e).toInt.toNat = a := w.2.2; omega)), Int.add_zero]
              · rw [if_neg (by omega), hnd d2 a h1 h2]
                by_cases q2 : d2 < d
                · rw [if_pos q2, if_pos (by omega)]
                · rw [if_neg q2, if_neg (by omega)]
            · rw [e2, upd_at, if_neg (by omega)]; exact hz i h1 h2
          · rw [fa_eq, hd d (by omega)]; exact w.2
      apply h185
      have c : ¬ nI N ≤ nI e := fun z => by have := (nI_leI (by omega) (by omega)).mp z; omega
      refine ⟨fun z => absurd z c, fun _ => inner D 0 (by omega) nd (fun d2 a h1 h2 => ?_) hz⟩
      rw [if_neg (by omega)]
      exact hnd d2 a h1 h2
  have zero : ∀ (D : Nat) (dd : Nat → Int) (day : Nat → Int32), GD N (actE ev_on ev_kind k wo) (fun e => (ev_day e).toInt) D dd → (∀ d, d < D → (day d).toInt = dd d) → ∀ m i : Nat, i + m = 60 → ∀ nd : Nat → Int32, (∀ j, j < i → nd j = 0) → X164 (nI i) (nI D) day nd := by
    intro D dd day B hd m
    have hD : D ≤ N := B.2.2.2
    induction m with
    | zero =>
      intro i hi nd hz
      have e1 : i = 60 := by omega
      subst e1
      apply h164
      have c : (60 : Int32) ≤ nI 60 := by decide
      refine ⟨fun _ => needs D dd day B hd N 0 (by omega) nd (fun d a h1 h2 => ?_) (fun i _ h2 => hz i h2), fun z => absurd c z⟩
      rw [hz (5 * d + a) (by omega)]
      rfl
    | succ m ih =>
      intro i hi nd hz
      have ih := ih (i + 1) (by omega)
      apply h164
      have c : ¬ (60 : Int32) ≤ nI i := fun z => by have := (nI_leI (a := 60) (by omega) (by omega)).mp z; omega
      refine ⟨fun z => absurd z c, fun _ => ⟨nIv (by omega) (by omega), fun nd2 e2 y ey => ?_⟩⟩
      rw [nI_1] at ey
      subst ey
      refine ih nd2 (fun j hj => ?_)
      rw [e2, nIc (by omega), upd_at]
      by_cases q : j = i
      · rw [if_pos q]
      · rw [if_neg q]; exact hz j (by omega)
  have key : ∀ m e : Nat, e + m = N → ∀ (D : Nat) (dd : Nat → Int) (day nd : Nat → Int32), GD e (actE ev_on ev_kind k wo) (fun e => (ev_day e).toInt) D dd → (∀ d, d < D → (day d).toInt = dd d) → X7 (nI e) (nI D) day nd := by
    intro m
    induction m with
    | zero =>
      intro e he D dd day nd B hd
      have e1 : e = N := by omega
      subst e1
      apply h7
      have c : nI e ≤ nI e := (nI_leI (by omega) (by omega)).mpr (Nat.le_refl _)
      exact ⟨fun _ => zero D dd day B hd 60 0 (by omega) nd (fun j hj => absurd hj (by omega)), fun z => absurd c z⟩
    | succ m ih =>
      intro e he D dd day nd B hd
      have hD : D ≤ e := B.2.2.2
      have ih := ih (e + 1) (by omega)
      have no : (¬ actE ev_on ev_kind k wo e = true ∨ ∃ d, d < D ∧ dd d = (ev_day e).toInt) → ∀ y : Int32, y = nI e + 1 → X7 y (nI D) day nd := by
        intro hn y ey
        rw [nI_1] at ey
        subst ey
        exact ih D dd day nd (GD_no B hn) hd
      apply h7
      have c : ¬ nI N ≤ nI e := fun z => by have := (nI_leI (by omega) (by omega)).mp z; omega
      refine ⟨fun z => absurd z c, fun _ => ⟨nIv (by omega) (by omega), ?_⟩⟩
      rw [nIc (i := e) (by omega)]
      refine ⟨fun z1 => ⟨fun z2 => ⟨fun z3 => no (Or.inl (fun w => (act_iff.mp w).2.2 z3)), fun z3 => ?_⟩, fun z2 => no (Or.inl (fun w => z2 ((hoff e (by omega)).mpr (act_iff.mp w).1)))⟩, fun z1 => no (Or.inl (fun w => z1 (act_iff.mp w).2.1))⟩
      have ha : actE ev_on ev_kind k wo e = true := act_iff.mpr ⟨(hoff e (by omega)).mp z2, z1, z3⟩
      have shift : ∀ p, p ≤ D → (∀ j, j < p → dd j < (ev_day e).toInt) → (∀ j, p ≤ j → j < D → (ev_day e).toInt < dd j) → ∀ t i : Nat, i = p + t → i ≤ D → ∀ s : Nat → Int32, (∀ j, j < i → (s j).toInt = dd j) → (∀ j, i < j → j ≤ D → (s j).toInt = dd (j - 1)) → X104 (nI e) (nI p) (nI i) (nI D) s nd := by
        intro p hp g1 g2 t
        induction t with
        | zero =>
          intro i hi hiD s s1 s2
          have e1 : i = p := by omega
          subst e1
          apply h104
          have c : nI i ≤ nI i := (nI_leI (by omega) (by omega)).mpr (Nat.le_refl _)
          refine ⟨fun _ => ⟨nIv (by omega) (by omega), nIv (by omega) (by omega), fun s3 e3 y1 ey1 y2 ey2 => ?_⟩, fun z => absurd c z⟩
          rw [nI_1] at ey1 ey2
          subst ey1
          subst ey2
          refine ih (D + 1) (insZ dd i (ev_day e).toInt) s3 nd (GD_ins B ha hp g1 g2) (fun d hd2 => ?_)
          rw [e3, nIc (i := i) (by omega), nIc (i := e) (by omega), upd_at]
          unfold insZ
          by_cases q : d = i
          · rw [if_pos q, if_neg (by omega), if_pos q]
          · rw [if_neg q]
            by_cases q2 : d < i
            · rw [if_pos q2]; exact s1 d q2
            · rw [if_neg q2, if_neg q]; exact s2 d (by omega) (by omega)
        | succ t iht =>
          intro i hi hiD s s1 s2
          obtain ⟨i, rfl⟩ : ∃ x, i = x + 1 := ⟨i - 1, by omega⟩
          have iht := iht i (by omega) (by omega)
          apply h104
          have c : ¬ nI (i + 1) ≤ nI p := fun z => by have := (nI_leI (by omega) (by omega)).mp z; omega
          rw [nI_pred]
          refine ⟨fun z => absurd z c, fun _ => ⟨nIv (by omega) (by omega), nIv (by omega) (by omega), fun s3 e3 y ey => ?_⟩⟩
          rw [add_m1, nI_pred] at ey
          subst ey
          refine iht s3 (fun j hj => ?_) (fun j h1 h2 => ?_)
          · rw [e3, nIc (i := i + 1) (by omega), upd_at, if_neg (by omega)]; exact s1 j (by omega)
          · rw [e3, nIc (i := i + 1) (by omega), nIc (i := i) (by omega), upd_at]
            by_cases q : j = i + 1
            · rw [if_pos q, q, Nat.add_sub_cancel]; exact s1 i (by omega)
            · rw [if_neg q]; exact s2 j (by omega) h2
      have find : ∀ t p : Nat, p + t = D → (∀ j, j < p → dd j < (ev_day e).toInt) → X42 (nI e) (nI p) (nI D) day nd := by
        intro t
        have at73 : ∀ p, p ≤ D → (∀ j, j < p → dd j < (ev_day e).toInt) → (p = D ∨ (p < D ∧ (ev_day e).toInt ≤ dd p)) → X73 (nI e) (nI p) (nI D) day nd := by
          intro p hp g1 g2
          apply h73
          have eqD : nI p = nI D ↔ p = D := nI_eq (by omega) (by omega)
          refine ⟨fun z => ?_, fun z => ?_⟩
          · have e1 := eqD.mp z
            subst e1
            exact shift p hp g1 (fun j h1 h2 => absurd h1 (by omega)) 0 p (by omega) (by omega) day hd (fun j h1 h2 => absurd h1 (by omega))
          · have g3 : p < D ∧ (ev_day e).toInt ≤ dd p := by
              rcases g2 with w | w
              · exact absurd (eqD.mpr w) z
              · exact w
            rw [nIc (i := p) (by omega), nIc (i := e) (by omega)]
            refine ⟨nIv (by omega) (by omega), nIv (by omega) (by omega), fun w => no (Or.inr ⟨p, g3.1, by rw [← hd p g3.1, w]⟩), fun w => ?_⟩
            rw [fa_eq, hd p g3.1] at w
            refine shift p hp g1 (fun j h1 h2 => ?_) (D - p) D (by omega) (by omega) day hd (fun j h1 h2 => absurd h1 (by omega))
            by_cases q : j = p
            · subst q; omega
            · have := B.1 p j (by omega) h2; omega
        induction t with
        | zero =>
          intro p hp g1
          have e1 : p = D := by omega
          subst e1
          apply h42
          have c : nI p ≤ nI p := (nI_leI (by omega) (by omega)).mpr (Nat.le_refl _)
          exact ⟨fun _ => at73 p (by omega) g1 (Or.inl rfl), fun z => absurd c z⟩
        | succ t iht =>
          intro p hp g1
          apply h42
          have c : ¬ nI D ≤ nI p := fun z => by have := (nI_leI (by omega) (by omega)).mp z; omega
          refine ⟨fun z => absurd z c, fun _ => ?_⟩
          rw [nIc (i := p) (by omega), nIc (i := e) (by omega)]
          refine ⟨nIv (by omega) (by omega), nIv (by omega) (by omega), fun w => ?_, fun w y ey => ?_⟩
          · rw [fa_le, hd p (by omega)] at w
            exact at73 p (by omega) g1 (Or.inr ⟨by omega, w⟩)
          · rw [fa_le, hd p (by omega)] at w
            rw [nI_1] at ey
            subst ey
            refine iht (p + 1) (by omega) (fun j hj => ?_)
            by_cases q : j = p
            · subst q; omega
            · exact g1 j (by omega)
      exact find D 0 (by omega) (fun j hj => absurd hj (by omega))
  exact key N 0 (by omega) 0 (fun _ => 0) m_day m_need (GD_0 _) (fun d hd => absurd hd (by omega))
end ldy
