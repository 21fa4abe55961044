section inn
variable {kd_low kd_high : Nat → Int32} {kd_size m_kinds : Int32} {m_low m_high : Nat → Int32} {st_booked st_parted m_book m_ledger : Nat → Int32} {ev_day ev_house ev_kind ev_need ev_on : Nat → Int32} {ev_size m_events : Int32} {m_eventDay m_eventHouse m_eventKind m_eventNeed m_isOff : Nat → Int32}
variable {ca_served ca_rank : Nat → Int32} {ca_size : Int32} {m_days : Int32} {m_day m_need : Nat → Int32}
theorem isKd_iff (post : Int32 → Prop) (x m : Int32) (hm : -2147483648 < m.toInt) : P_X11_isKind post x m ↔ post (bz (0 ≤ x.toInt ∧ x.toInt ≤ m.toInt - 1)) := by
  simp +decide only [P_X11_isKind, sub1 hm, within_iff, in_iff, all_eq, bz_0, bz_1, bzT, bzF, nem, bz_or, i64, Int32.reduceToInt, Int64.reduceToInt, and_true, true_and, and_self, not_true_eq_false, not_false_eq_true, false_implies, true_implies, eq_self, implies_true, false_and, and_false, Classical.not_not, Int.reduceLT, Int.reduceLE, Int.reduceEq, reduceIte, reduceCtorEq, and_imp, imp_false, false_or, or_false, true_or, or_true]
/-- what of EVENTS is asked for -/
theorem RE_ok (hE : RE ev_day ev_house ev_kind ev_need ev_on ev_size m_events m_eventDay m_eventHouse m_eventKind m_eventNeed m_isOff) : ∃ N : Nat, N ≤ 12 ∧ ev_size = nI N ∧ m_events = nI N ∧ m_eventDay = ev_day ∧ m_eventHouse = ev_house ∧ m_eventKind = ev_kind ∧ m_eventNeed = ev_need ∧ (∀ e, e < N → (m_isOff e = 0 ↔ ¬ ev_on e = 0)) ∧ (∀ e, e < N → 0 ≤ (ev_house e).toInt ∧ (ev_house e).toInt ≤ 4) ∧ (∀ e, e < N → 0 ≤ (ev_need e).toInt ∧ (ev_need e).toInt ≤ 500) ∧ (∀ e, e < N → 0 ≤ (ev_kind e).toInt ∧ (ev_kind e).toInt ≤ 5) := by
  obtain ⟨⟨e1, e2, e3, e4, e5⟩, s0, s12, hj, -⟩ := hE
  refine ⟨ev_size.toInt.toNat, by omega, nI_as s0, by rw [e1]; exact nI_as s0, e2, e3, e4, e5, fun e he => ?_, fun e he => ?_, fun e he => ?_, fun e he => ?_⟩
  · obtain ⟨-, -, -, -, w⟩ := hj e (by omega)
    have d1 : ¬ (1 : Int32) = 0 := by decide
    rcases w with ⟨a, b⟩ | ⟨a, b⟩
    · rw [a, b]; exact ⟨fun _ => d1, fun _ => rfl⟩
    · rw [a, b]; exact ⟨fun z => absurd z d1, fun z => absurd rfl z⟩
  · exact (hj e (by omega)).2.1
  · have := (hj e (by omega)).2.2.2.1; omega
  · exact (hj e (by omega)).2.2.1
theorem eq_inNeed {C : (Nat → Int32) → (Nat → Int32) → Int32 → Int32 → (Nat → Int32) → (Nat → Int32) → Prop} (hK : RK kd_low kd_high kd_size m_kinds m_low m_high) (hB : RB st_booked st_parted m_book m_ledger) (hE : RE ev_day ev_house ev_kind ev_need ev_on ev_size m_events m_eventDay m_eventHouse m_eventKind m_eventNeed m_isOff)
    (hC : ∀ a b c d e f, C a b c d e f) (p1 : Int32) :
    P_X10_inNeed (fun r a b c => P_X11_inNeed (fun r2 d e f => ((r = r2 → C a b c d e f) ∧ (¬ r = r2 → False))) p1 m_kinds m_book m_events m_eventDay m_eventHouse m_eventKind m_eventNeed m_isOff m_days m_day m_need) p1 kd_size st_booked ev_day ev_kind ev_need ev_on ev_size ca_served ca_rank ca_size := by
  obtain ⟨rfl, -, -, k0, k6, -⟩ := hK
  obtain ⟨rfl, -, hb, -⟩ := hB
  obtain ⟨N, hN, rfl, rfl, rfl, rfl, rfl, rfl, hoff, hhs, hne, -⟩ := RE_ok hE
  unfold P_X10_inNeed
  rw [has_iff _ _ _ (by omega)]
  by_cases h1 : 0 ≤ p1.toInt ∧ p1.toInt ≤ m_kinds.toInt - 1
  · obtain ⟨K, eK, rfl⟩ : ∃ K : Nat, p1.toInt = K ∧ p1 = nI K := ⟨p1.toInt.toNat, by omega, nI_as (by omega)⟩
    rw [bz_t h1]
    refine ⟨fun z => absurd z (by decide), fun _ => ?_⟩
    unfold P_X2_firstShortDay
    refine gather_i hN (fun n sv s2 r2' A hs hr => ?_)
    refine bookedOf_i hb (by omega) (fun pieces hpc => ?_)
    have hn : n ≤ N := A.2.2.2.2
    have main : ∀ R : Int32, (∀ D dd, GD N (actE ev_on m_eventKind (nI K) (-9)) (fun e => (m_eventDay e).toInt) D dd → (R = -9 ∧ ∀ d, d < D → dayQ (fun e => (m_eventDay e).toInt) sv (fun j => (m_eventNeed (sv j)).toInt) n d ≤ pieces.toInt) ∨ ∃ d, d < D ∧ R.toInt = dd d ∧ pieces.toInt < dayQ (fun e => (m_eventDay e).toInt) sv (fun j => (m_eventNeed (sv j)).toInt) n d ∧ ∀ d2, d2 < d → dayQ (fun e => (m_eventDay e).toInt) sv (fun j => (m_eventNeed (sv j)).toInt) n d2 ≤ pieces.toInt) →
        P_X11_inNeed (fun r2 d e f => ((R = r2 → C s2 r2' (nI n) d e f) ∧ (¬ R = r2 → False))) (nI K) m_kinds m_book (nI N) m_eventDay m_eventHouse m_eventKind m_eventNeed m_isOff m_days m_day m_need := by
      intro R hR
      unfold P_X11_inNeed
      intro X21 X48 X62 h21 h48 h62
      rw [isKd_iff _ _ _ (by omega), bz_t h1]
      refine ⟨fun z => absurd z (by decide), fun _ => ?_⟩
      refine layDays_i hN hoff hhs hne (fun D dd day2 nd2 B hd hnd hz => ?_)
      have hD : D ≤ N := B.2.2.2
      have hds := fun d hd => day_sum (ne := fun e => (m_eventNeed e).toInt) (hs := fun e => (m_eventHouse e).toInt.toNat) A B (fun e he => by
        have := hhs e he
        show (m_eventHouse e).toInt.toNat < 5
        omega) (d := d) hd
      have rg : ∀ d a, d < D → a < 5 → 0 ≤ (nd2 (5 * d + a)).toInt ∧ (nd2 (5 * d + a)).toInt ≤ 6000 := fun d a h1 h2 => by
        rw [hnd d a h1 h2]
        have := ndV_rng (act := actE ev_on m_eventKind (nI K) (-9)) (dy := fun e => (m_eventDay e).toInt) (dd := dd) (hs := fun e => (m_eventHouse e).toInt.toNat) (ne := fun e => (m_eventNeed e).toInt) (d := d) (h := a) N hne
        omega
      have sumE : ∀ d, d < D → ∀ m, m ≤ 5 → 0 ≤ sI (fun a => (nd2 (5 * d + a)).toInt) m ∧ sI (fun a => (nd2 (5 * d + a)).toInt) m ≤ 6000 * m := fun d h1 m => by
        induction m with
        | zero => intro _; rw [sI]; decide
        | succ m ih =>
          intro hm
          have := ih (by omega)
          have := rg d m h1 (by omega)
          rw [sI]
          omega
      have sumD : ∀ d, d < D → sI (fun a => (nd2 (5 * d + a)).toInt) 5 = dayQ (fun e => (m_eventDay e).toInt) sv (fun j => (m_eventNeed (sv j)).toInt) n d := fun d h1 => by
        rw [← hds d h1]
        exact sI_cong 5 (fun a ha => hnd d a h1 ha)
      have hRD := hR D dd B
      have days : ∀ t d : Nat, d + t = D → (∀ d2, d2 < d → dayQ (fun e => (m_eventDay e).toInt) sv (fun j => (m_eventNeed (sv j)).toInt) n d2 ≤ pieces.toInt) → ∀ pc : Int32, pc.toInt = pieces.toInt → X48 pc (nI d) (nI D) day2 nd2 := by
        intro t
        induction t with
        | zero =>
          intro d hdt hall pc hpc2
          have e : d = D := by omega
          subst e
          apply h48
          have c : nI d ≤ nI d := (nI_leI (by omega) (by omega)).mpr (Nat.le_refl _)
          refine ⟨fun _ => ?_, fun z => absurd c z⟩
          rcases hRD with ⟨e, -⟩ | ⟨d2, w1, -, w2, -⟩
          · rw [e]; exact ⟨fun _ => hC _ _ _ _ _ _, fun z => z rfl⟩
          · have := hall d2 w1; omega
        | succ t ih =>
          intro d hdt hall pc hpc2
          have ih := ih (d + 1) (by omega)
          have hdD : d < D := by omega
          have sums : ∀ m a : Nat, a + m = 5 → ∀ x4 : Int32, x4.toInt = sI (fun a => (nd2 (5 * d + a)).toInt) a → X62 pc (nI d) x4 (nI a) (nI D) day2 nd2 := by
            intro m
            induction m with
            | zero =>
              intro a ha x4 hx
              have e : a = 5 := by omega
              subst e
              rw [sumD d hdD] at hx
              apply h62
              have c : (5 : Int32) ≤ nI 5 := by decide
              refine ⟨fun _ => ⟨fun z y ey => ?_, fun z => ?_⟩, fun z => absurd c z⟩
              · rw [fa_le, hx, hpc2] at z
                rw [nI_1] at ey
                subst ey
                refine ih (fun d2 hd2 => ?_) pc hpc2
                by_cases q : d2 = d
                · subst q; exact z
                · exact hall d2 (by omega)
              · rw [fa_le, hx, hpc2] at z
                refine ⟨nIv (by omega) (by omega), ?_⟩
                rw [nIc (by omega)]
                have eq : R = day2 d := by
                  rcases hRD with ⟨-, w⟩ | ⟨d2, w1, w2, w3, w4⟩
                  · have := w d hdD; omega
                  · have : d2 = d := by
                      rcases Nat.lt_trichotomy d2 d with v | v | v
                      · have := hall d2 v; omega
                      · exact v
                      · have := w4 d v; omega
                    subst this
                    rw [fa_eq, w2, hd d2 hdD]
                exact ⟨fun _ => hC _ _ _ _ _ _, fun z => z eq⟩
            | succ m ihm =>
              intro a ha x4 hx
              have ihm := ihm (a + 1) (by omega)
              apply h62
              have c : ¬ (5 : Int32) ≤ nI a := fun z => by have := (nI_leI (a := 5) (by omega) (by omega)).mp z; omega
              refine ⟨fun z => absurd z c, fun _ => ?_⟩
              have e5 : (5 : Int32) = nI 5 := rfl
              have ix : (5 : Int32) * nI d + nI a = nI (5 * d + a) := by rw [e5, pk_mul, nI_add]
              rw [ix]
              refine ⟨nIv (by omega) (by omega), fun y ey y2 ey2 => ?_⟩
              rw [nI_1] at ey2
              subst ey2
              refine ihm y ?_
              have s1 := sumE d hdD a (by omega)
              have r1 := rg d a hdD (by omega)
              rw [ey, nIc (by omega), sI, fb_addI (by omega) (by omega), hx]
          apply h48
          have c : ¬ nI D ≤ nI d := fun z => by have := (nI_leI (by omega) (by omega)).mp z; omega
          exact ⟨fun z => absurd z c, fun _ => sums 5 0 (by omega) 0 rfl⟩
      have book : ∀ m i : Nat, i + m = 5 → ∀ v : Int32, v.toInt = sI (fun a => bkV m_book K a) i → X21 v (nI i) (nI D) day2 nd2 := by
        intro m
        induction m with
        | zero =>
          intro i hi v hv
          have e : i = 5 := by omega
          subst e
          apply h21
          have c : (5 : Int32) ≤ nI 5 := by decide
          exact ⟨fun _ => days D 0 (by omega) (fun d2 hd2 => absurd hd2 (by omega)) v (by rw [hv, hpc]), fun z => absurd c z⟩
        | succ m ih =>
          intro i hi v hv
          have ih := ih (i + 1) (by omega)
          have rg2 := bkS_rng hb i (K := K)
          have r1 := hb (6 * i + K)
          apply h21
          have c : ¬ (5 : Int32) ≤ nI i := fun z => by have := (nI_leI (a := 5) (by omega) (by omega)).mp z; omega
          refine ⟨fun z => absurd z c, fun _ => ?_⟩
          have e6 : (6 : Int32) = nI 6 := rfl
          have ix : (6 : Int32) * nI i + nI K = nI (6 * i + K) := by rw [e6, pk_mul, nI_add]
          rw [ix]
          refine ⟨nIv (by omega) (by omega), fun y ey y2 ey2 => ?_⟩
          rw [nI_1] at ey2
          subst ey2
          refine ih y ?_
          rw [ey, nIc (by omega), sI, fb_addI (by omega) (by omega), hv]
          rfl
      exact book 5 0 (by omega) 0 rfl
    have rk12 : ∀ j, j < n → rkN (fun e => (m_eventDay e).toInt) sv j < 12 := by
      intro j hj
      have : ∀ i, rkN (fun e => (m_eventDay e).toInt) sv i ≤ i := fun i => by
        induction i with
        | zero => exact Nat.le_refl _
        | succ i ih => rw [rkN]; split <;> omega
      have := this j
      omega
    refine shortDay_i (dy := fun e => (m_eventDay e).toInt) (sv := sv) (by omega) (fun j hj => by have := (A.1 j hj).1; omega) hs hr rk12 (fun j hj => hne _ (A.1 j hj).1) (fun hall => main _ (fun D dd B => Or.inl ⟨rfl, fun d hd => ?_⟩)) (fun j hj hgt hall => main _ (fun D dd B => Or.inr ⟨_, (rk_day A B j hj).1, (rk_day A B j hj).2.symm, ?_, fun d2 hd2 => ?_⟩))
    · obtain ⟨i, h2, h3, h4⟩ := day_pre (n := n) (fun j => (m_eventNeed (sv j)).toInt) (rk_ex A B hd)
      rw [h4]; exact hall i h2
    · have := pre_le (dy := fun e => (m_eventDay e).toInt) (sv := sv) (n := n) (q := fun j => (m_eventNeed (sv j)).toInt) (fun j hj => (hne _ (A.1 j hj).1).1) hj
      omega
    · have hdD : d2 < D := by have := (rk_day A B j hj).1; omega
      obtain ⟨i, h2, h3, h4⟩ := day_pre (n := n) (fun j => (m_eventNeed (sv j)).toInt) (rk_ex A B hdD)
      rw [h4]
      refine hall i ?_
      by_cases w : i < j
      · exact w
      · have := rk_le (dy := fun e => (m_eventDay e).toInt) (sv := sv) (show j ≤ i by omega)
        omega
  · rw [bz_f h1]
    refine ⟨fun _ => ?_, fun z => absurd rfl z⟩
    unfold P_X11_inNeed
    intro X21 X48 X62 _ _ _
    rw [isKd_iff _ _ _ (by omega), bz_f h1]
    exact ⟨fun _ => ⟨fun _ => hC _ _ _ _ _ _, fun z => z rfl⟩, fun z => absurd rfl z⟩
end inn
