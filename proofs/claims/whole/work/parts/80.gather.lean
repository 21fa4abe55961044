section gat
variable {ev_day ev_house ev_kind ev_need ev_on : Nat → Int32} {N : Nat} {k wo : Int32}
/-- the EVENTS that count -/
def actE (on kind : Nat → Int32) (k wo : Int32) (e : Nat) : Bool := decide (¬ on e = 0) && (decide (kind e = k) && decide (¬ nI e = wo))
theorem act_iff {on kind : Nat → Int32} {e : Nat} : actE on kind k wo e = true ↔ ¬ on e = 0 ∧ kind e = k ∧ ¬ nI e = wo := by
  unfold actE
  simp only [Bool.and_eq_true, decide_eq_true_eq]
theorem insert_i {post : (Nat → Int32) → Int32 → Prop} {act : Nat → Bool} {n : Nat} {sv : Nat → Nat} {served : Nat → Int32} (hN : N < 12) (A : GA N act (fun e => (ev_day e).toInt) n sv) (hs : ∀ j, j < n → served j = nI (sv j)) (ha : act N = true)
    (h : ∀ sv2 s2, GA (N + 1) act (fun e => (ev_day e).toInt) (n + 1) sv2 → (∀ j, j < n + 1 → s2 j = nI (sv2 j)) → post s2 (nI (n + 1))) : P_X2_insert post (nI N) ev_day served (nI n) := by
  have hn : n ≤ N := A.2.2.2.2
  unfold P_X2_insert
  intro X hX
  have fin : ∀ p, p ≤ n → ∀ s : Nat → Int32, (∀ j, j < p → s j = nI (sv j)) → (∀ j, p < j → j ≤ n → s j = nI (sv (j - 1))) → (∀ j, j < p → (ev_day (sv j)).toInt ≤ (ev_day N).toInt) → (∀ j, p ≤ j → j < n → (ev_day N).toInt < (ev_day (sv j)).toInt) → vp_in (nI p) 12 ∧ ∀ s3 : Nat → Int32, s3 = upd s (nI p).toNatClampNeg (nI N) → ∀ y : Int32, y = nI n + 1 → post s3 y := by
    intro p hp s h1 h2 h3 h4
    refine ⟨nIv (by omega) (by omega), fun s3 e3 y ey => ?_⟩
    rw [nI_1] at ey
    subst ey
    refine h (insA sv p N) s3 (GA_ins A ha hp h3 h4) (fun j hj => ?_)
    rw [e3, nIc (by omega), upd_at]
    unfold insA
    by_cases q : j = p
    · rw [if_pos q, if_neg (by omega), if_pos q]
    · rw [if_neg q]
      by_cases q2 : j < p
      · rw [if_pos q2]; exact h1 j q2
      · rw [if_neg q2, if_neg q]; exact h2 j (by omega) (by omega)
  have key : ∀ p, p ≤ n → ∀ s : Nat → Int32, (∀ j, j < p → s j = nI (sv j)) → (∀ j, p < j → j ≤ n → s j = nI (sv (j - 1))) → (∀ j, p ≤ j → j < n → (ev_day N).toInt < (ev_day (sv j)).toInt) → X (nI p) (nI p) s (nI n) := by
    intro p
    induction p with
    | zero =>
      intro hp s h1 h2 h4
      apply hX
      have c : nI 0 ≤ (0 : Int32) := by decide
      refine ⟨fun _ => fin 0 hp s h1 h2 (fun j hj => absurd hj (by omega)) h4, fun z => absurd c z⟩
    | succ p ih =>
      intro hp s h1 h2 h4
      have hsp := A.1 p (by omega)
      apply hX
      have c : ¬ nI (p + 1) ≤ (0 : Int32) := nI_nle (by omega) (by omega)
      refine ⟨fun z => absurd z c, fun _ => ?_⟩
      rw [nI_pred, nIc (i := p) (by omega), h1 p (by omega), nIc (i := sv p) (by omega), nIc (i := N) (by omega)]
      refine ⟨nIv (by omega) (by omega), nIv (by omega) (by omega), nIv (by omega) (by omega), fun z => ?_, fun z => ?_⟩
      · rw [fa_le] at z
        refine fin (p + 1) hp s h1 h2 (fun j hj => ?_) h4
        have := A.2.1 j p (by omega) (by omega)
        have this : (ev_day (sv j)).toInt ≤ (ev_day (sv p)).toInt := this
        omega
      · rw [fa_le] at z
        refine ⟨nIv (by omega) (by omega), fun s2 e2 y ey y2 ey2 => ?_⟩
        rw [add_m1, nI_pred] at ey2
        subst ey
        subst ey2
        refine ih (by omega) s2 (fun j hj => ?_) (fun j h5 h6 => ?_) (fun j h5 h6 => ?_)
        · rw [e2, nIc (by omega), upd_at, if_neg (by omega)]; exact h1 j (by omega)
        · rw [e2, nIc (by omega), upd_at]
          by_cases q : j = p + 1
          · rw [if_pos q, q, Nat.add_sub_cancel]
          · rw [if_neg q]; exact h2 j (by omega) h6
        · by_cases q : j = p
          · subst q; omega
          · exact h4 j (by omega) h6
  exact key n (Nat.le_refl _) served hs (fun j h1 h2 => absurd h1 (by omega)) (fun j h1 h2 => absurd h1 (by omega))
theorem gather_i {post : (Nat → Int32) → (Nat → Int32) → Int32 → Prop} {served rank : Nat → Int32} {size : Int32} (hN : N ≤ 12)
    (h : ∀ n sv s2 r2, GA N (actE ev_on ev_kind k wo) (fun e => (ev_day e).toInt) n sv → (∀ j, j < n → s2 j = nI (sv j)) → (∀ j, j < n → r2 j = nI (rkN (fun e => (ev_day e).toInt) sv j)) → post s2 r2 (nI n)) : P_X2_gather post k wo ev_day ev_kind ev_on (nI N) served rank size := by
  unfold P_X2_gather
  intro X8 X60 X107 h8 h60 h107
  have ranks : ∀ (n : Nat) (sv : Nat → Nat) (s2 : Nat → Int32), GA N (actE ev_on ev_kind k wo) (fun e => (ev_day e).toInt) n sv → (∀ j, j < n → s2 j = nI (sv j)) → ∀ m j : Nat, j + m = n → ∀ r2 : Nat → Int32, (∀ i, i < j → r2 i = nI (rkN (fun e => (ev_day e).toInt) sv i)) → X60 (nI j) s2 r2 (nI n) := by
    intro n sv s2 A hs m
    have hn : n ≤ N := A.2.2.2.2
    induction m with
    | zero =>
      intro j hj r2 hr
      have e : j = n := by omega
      subst e
      apply h60
      have c : nI j ≤ nI j := (nI_leI (by omega) (by omega)).mpr (Nat.le_refl _)
      exact ⟨fun _ => h j sv s2 r2 A hs hr, fun z => absurd c z⟩
    | succ m ih =>
      intro j hj r2 hr
      have ih := ih (j + 1) (by omega)
      have put : ∀ (r3 : Nat → Int32) (v : Int32), v = nI (rkN (fun e => (ev_day e).toInt) sv j) → r3 = upd r2 (nI j).toNatClampNeg v → ∀ y : Int32, y = nI j + 1 → X60 y s2 r3 (nI n) := by
        intro r3 v ev e3 y ey
        rw [nI_1] at ey
        subst ey
        refine ih r3 (fun i hi => ?_)
        rw [e3, nIc (by omega), upd_at]
        by_cases q : i = j
        · rw [if_pos q, q]; exact ev
        · rw [if_neg q]; exact hr i (by omega)
      have new : (j = 0 ∨ ¬ (ev_day (sv j)).toInt = (ev_day (sv (j - 1))).toInt) → X107 (nI j) s2 r2 (nI n) := by
        intro hc
        apply h107
        refine ⟨⟨fun _ => trivial, fun z => ?_⟩, ?_⟩
        · have j0 : j ≠ 0 := fun e => z (by rw [e]; rfl)
          obtain ⟨i, rfl⟩ : ∃ i, j = i + 1 := ⟨j - 1, by omega⟩
          rw [nI_pred]
          exact ⟨nIv (by omega) (by omega), ⟨fun _ => trivial, fun _ => trivial⟩⟩
        · intro v ev
          refine ⟨nIv (by omega) (by omega), fun r3 e3 y ey => put r3 v ?_ e3 y ey⟩
          cases j with
          | zero => rw [ev]; rfl
          | succ i =>
            have c : ¬ nI (i + 1) = (0 : Int32) := fun z => by have := (nI_eq (b := 0) (by omega) (by omega)).mp z; omega
            have hc2 : ¬ (ev_day (sv (i + 1))).toInt = (ev_day (sv i)).toInt := by
              rcases hc with w | w
              · omega
              · exact w
            rw [ev, if_neg c, if_pos rfl, nI_pred, nIc (by omega), hr i (by omega), nI_1, rkN]
            show _ = nI (rkN (fun e => (ev_day e).toInt) sv i + if (ev_day (sv (i + 1))).toInt = (ev_day (sv i)).toInt then 0 else 1)
            rw [if_neg hc2]
      apply h60
      have c : ¬ nI n ≤ nI j := fun z => by have := (nI_leI (by omega) (by omega)).mp z; omega
      refine ⟨fun z => absurd z c, fun _ => ⟨fun z => new (Or.inl ?_), fun z => ?_⟩⟩
      · by_cases w : j = 0
        · exact w
        · exact absurd z (nI_nle (by omega) (by omega))
      · have j0 : j ≠ 0 := fun e => z (by rw [e]; decide)
        obtain ⟨i, rfl⟩ : ∃ i, j = i + 1 := ⟨j - 1, by omega⟩
        have h1 := (A.1 (i + 1) (by omega)).1
        have h2 := (A.1 i (by omega)).1
        rw [nI_pred, nIc (i := i + 1) (by omega), nIc (i := i) (by omega), hs (i + 1) (by omega), hs i (by omega), nIc (i := sv (i + 1)) (by omega), nIc (i := sv i) (by omega)]
        refine ⟨nIv (by omega) (by omega), nIv (by omega) (by omega), nIv (by omega) (by omega), nIv (by omega) (by omega), fun w v ev r3 e3 y ey => ?_, fun w => new (Or.inr ?_)⟩
        · have cz : ¬ nI (i + 1) = (0 : Int32) := fun z => by have := (nI_eq (b := 0) (by omega) (by omega)).mp z; omega
          have c10 : ¬ (1 : Int32) = 0 := by decide
          refine put r3 v ?_ (by rw [e3, nIc (i := i + 1) (by omega)]) y ey
          rw [ev, if_neg cz, if_neg c10, hr i (by omega), Int32.add_zero, rkN]
          show _ = nI (rkN (fun e => (ev_day e).toInt) sv i + if (ev_day (sv (i + 1))).toInt = (ev_day (sv i)).toInt then 0 else 1)
          rw [if_pos (by rw [w]), Nat.add_zero]
        · rw [fa_eq] at w
          rw [Nat.add_sub_cancel]
          exact w
  have key : ∀ m e : Nat, e + m = N → ∀ (n : Nat) (sv : Nat → Nat) (s2 : Nat → Int32), GA e (actE ev_on ev_kind k wo) (fun e => (ev_day e).toInt) n sv → (∀ j, j < n → s2 j = nI (sv j)) → X8 (nI e) s2 rank (nI n) := by
    intro m
    induction m with
    | zero =>
      intro e he n sv s2 A hs
      have e1 : e = N := by omega
      subst e1
      apply h8
      have c : nI e ≤ nI e := (nI_leI (by omega) (by omega)).mpr (Nat.le_refl _)
      exact ⟨fun _ => ranks n sv s2 A hs n 0 (by omega) rank (fun i hi => absurd hi (by omega)), fun z => absurd c z⟩
    | succ m ih =>
      intro e he n sv s2 A hs
      have ih := ih (e + 1) (by omega)
      have no : ¬ actE ev_on ev_kind k wo e = true → ∀ y : Int32, y = nI e + 1 → X8 y s2 rank (nI n) := by
        intro hn y ey
        rw [nI_1] at ey
        subst ey
        exact ih n sv s2 (GA_no A hn) hs
      apply h8
      have c : ¬ nI N ≤ nI e := fun z => by have := (nI_leI (by omega) (by omega)).mp z; omega
      refine ⟨fun z => absurd z c, fun _ => ⟨nIv (by omega) (by omega), ?_⟩⟩
      rw [nIc (i := e) (by omega)]
      refine ⟨fun z => no (fun w => (act_iff.mp w).1 z), fun z => ⟨fun z2 => ⟨fun z3 => no (fun w => (act_iff.mp w).2.2 z3), fun z3 => ?_⟩, fun z2 => no (fun w => z2 (act_iff.mp w).2.1)⟩⟩
      refine insert_i (by omega) A hs (act_iff.mpr ⟨z, z2, z3⟩) (fun sv2 s3 A2 hs2 => ?_)
      intro y ey
      rw [nI_1] at ey
      subst ey
      exact ih (n + 1) sv2 s3 A2 hs2
  exact key N 0 (by omega) 0 (fun _ => 0) served (GA_0 _) (fun j hj => absurd hj (by omega))
end gat
