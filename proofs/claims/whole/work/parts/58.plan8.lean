section planM
variable {pl_values pl_renewed : Nat → Int32} {pl_found : Nat → Int64} {pl_hands : Int32} {m_plate m_plateFull m_wear m_least m_fewest : Nat → Int32} {m_crew : Int32}
theorem RPv_rn (hP : RPv pl_values pl_hands m_plate m_plateFull m_wear m_least m_crew) : (fun l => if l < 4 then lstP (m_wear l).toInt.toNat (m_least l).toInt.toNat (m_plateFull l).toInt.toNat else 0) = rnV pl_values := by
  funext l
  unfold rnV
  by_cases q : l < 4
  · obtain ⟨⟨a0, a1, a2, a3⟩, -⟩ := hP.2.2 l q
    rw [if_pos q, if_pos q, a1, a2, a3]
  · rw [if_neg q, if_neg q]
theorem RPv_now (hP : RPv pl_values pl_hands m_plate m_plateFull m_wear m_least m_crew) {l : Nat} (hl : l < 4) : nowS pl_values l = lstP (m_wear l).toInt.toNat (m_least l).toInt.toNat (m_plate l).toInt.toNat := by
  obtain ⟨⟨a0, a1, a2, a3⟩, -⟩ := hP.2.2 l hl
  unfold nowS
  rw [a0, a2, a3]
theorem RPv_b (hP : RPv pl_values pl_hands m_plate m_plateFull m_wear m_least m_crew) : ∀ l : Nat, l < 4 → (0 ≤ (pl_values (4 * l)).toInt ∧ (pl_values (4 * l)).toInt ≤ 200) ∧ (0 ≤ (pl_values (4 * l + 1)).toInt ∧ (pl_values (4 * l + 1)).toInt ≤ 200) ∧ (0 ≤ (pl_values (4 * l + 2)).toInt ∧ (pl_values (4 * l + 2)).toInt ≤ 99) ∧ (0 ≤ (pl_values (4 * l + 3)).toInt ∧ (pl_values (4 * l + 3)).toInt ≤ 100) := by
  intro l hl
  obtain ⟨⟨a0, a1, a2, a3⟩, b0, b1, b2, b3⟩ := hP.2.2 l hl
  rw [a0, a1, a2, a3]
  exact ⟨b0, ⟨by omega, b1.2⟩, b2, b3⟩
theorem RPv_g (hP : RPv pl_values pl_hands m_plate m_plateFull m_wear m_least m_crew) : gIs (rgd m_plate m_plateFull m_wear m_least) (rnV pl_values) (nowS pl_values) := by
  have := rgd_is (pl := m_plate) (fu := m_plateFull) (we := m_wear) (le := m_least) (fun l hl => by
    obtain ⟨-, b0, b1, b2, b3⟩ := hP.2.2 l hl
    exact ⟨b0, ⟨by omega, b1.2⟩, b2, b3⟩)
  rw [RPv_rn hP] at this
  intro l i last hl h7 hla
  rw [this l i last hl h7 hla, RPv_now hP hl]
theorem LPn_0 (hP : RPv pl_values pl_hands m_plate m_plateFull m_wear m_least m_crew) {hands M : Nat} {f : Nat → Int32} (h8 : M ≤ 8) (hf : LPn m_plate m_plateFull m_wear m_least hands M f 0) : f 0 = nI (gfc (rnV pl_values) hands M (fun l => min M (nowS pl_values l))) := by
  have e := hf 0 0 (by omega) (by omega) (by omega)
  have hd : ∀ l, d9 0 l = 0 := fun l => by unfold d9; rw [Nat.zero_div, Nat.zero_mod]
  rw [rfv_G (RPv_g hP) (M - 0) 0 (d9 0) (by omega) (fun l _ => by rw [hd]; omega)] at e
  have e2 : gfc (rnV pl_values) hands (M - 0) (sOf (rnV pl_values) (nowS pl_values) (M - 0) 0 (d9 0)) = gfc (rnV pl_values) hands M (fun l => min M (nowS pl_values l)) := by
    rw [Nat.sub_zero]
    refine gfc_cong (fun l _ => ?_)
    unfold sOf
    rw [hd, if_pos rfl]
    rfl
  rw [e2] at e
  exact e
theorem eq_plan {C : (Nat → Int32) → (Nat → Int64) → (Nat → Int32) → Prop} (hP : RPv pl_values pl_hands m_plate m_plateFull m_wear m_least m_crew) (hF : FOK pl_found (rnV pl_values) pl_hands.toInt.toNat)
    (hC : ∀ a f b, FOK f (rnV pl_values) pl_hands.toInt.toNat → C a f b) (p1 : Int32) :
    P_X10_plan (fun r a f => P_X11_plan (fun r2 b => ((r = r2 → C a f b) ∧ (¬ r = r2 → False))) p1 m_plate m_plateFull m_wear m_least m_crew m_fewest) p1 pl_values pl_renewed pl_found pl_hands := by
  by_cases h1 : 1 ≤ p1.toInt ∧ p1.toInt ≤ 8
  · obtain ⟨M, eM, rfl⟩ : ∃ M : Nat, p1.toInt = M ∧ p1 = nI M := ⟨p1.toInt.toNat, by omega, nI_as (by omega)⟩
    have hb := RPv_b hP
    have hP0 := hP
    obtain ⟨rfl, hh, hl⟩ := hP
    obtain ⟨H, eH, rfl⟩ : ∃ H : Nat, m_crew.toInt = H ∧ m_crew = nI H := ⟨m_crew.toInt.toNat, by omega, nI_as (by omega)⟩
    have eH2 : (nI H).toInt.toNat = H := by omega
    rw [eH2] at hF hC
    simp +decide only [P_X10_plan, h1, within_iff, in_iff, all_eq, bz_0, bz_1, bzT, bzF, nem, bz_or, i64, Int32.reduceToInt, Int64.reduceToInt, and_true, true_and, and_self, not_true_eq_false, not_false_eq_true, false_implies, true_implies, eq_self, implies_true, false_and, and_false, Classical.not_not, Int.reduceLT, Int.reduceLE, Int.reduceEq, reduceIte, reduceCtorEq, and_imp, imp_false, false_or, or_false, true_or, or_true]
    refine fewestOver_i (by omega) (by omega) (by omega) hb hF (fun a f hf => ?_)
    simp +decide only [P_X11_plan, h1, within_iff, in_iff, all_eq, bz_0, bz_1, bzT, bzF, nem, bz_or, i64, Int32.reduceToInt, Int64.reduceToInt, and_true, true_and, and_self, not_true_eq_false, not_false_eq_true, false_implies, true_implies, eq_self, implies_true, false_and, and_false, Classical.not_not, Int.reduceLT, Int.reduceLE, Int.reduceEq, reduceIte, reduceCtorEq, and_imp, imp_false, false_or, or_false, true_or, or_true]
    refine layPlan_i (by omega) (by omega) (by omega) (fun g hg => ?_)
    have e0 := LPn_0 hP0 (by omega) hg
    have vz : vp_in (0 : Int32) 59049 := vp_in_iff.mpr (by decide)
    have cz : (0 : Int32).toNatClampNeg = 0 := rfl
    have hle := ffc_le (rnV pl_values) H M (fun l => min M (nowS pl_values l))
    have hg2 := gf (rnV pl_values) H M (fun l => min M (nowS pl_values l)) (by omega)
    refine ⟨vz, ?_⟩
    rw [cz, e0]
    have ee : (if ffc (rnV pl_values) H M (fun l => min M (nowS pl_values l)) < 62 then nI (ffc (rnV pl_values) H M (fun l => min M (nowS pl_values l))) else (-9 : Int32)) = if nI (gfc (rnV pl_values) H M (fun l => min M (nowS pl_values l))) < (1000000 : Int32) then nI (gfc (rnV pl_values) H M (fun l => min M (nowS pl_values l))) else (-9 : Int32) := by
      by_cases q : ffc (rnV pl_values) H M (fun l => min M (nowS pl_values l)) < 62
      · rw [if_pos q] at hg2
        rw [if_pos q, hg2]
        have c : nI (ffc (rnV pl_values) H M (fun l => min M (nowS pl_values l))) < (1000000 : Int32) := (nI_ltI (b := 1000000) (by omega) (by omega)).mpr (by omega)
        rw [if_pos c]
      · rw [if_neg q] at hg2
        rw [if_neg q, hg2]
        have c : ¬ nI 1000000 < (1000000 : Int32) := by decide
        rw [if_neg c]
    exact ⟨fun _ => hC _ _ _ hf, ee⟩
  · simp +decide only [P_X10_plan, P_X11_plan, h1, within_iff, in_iff, all_eq, bz_0, bz_1, bzT, bzF, nem, bz_or, i64, Int32.reduceToInt, Int64.reduceToInt, and_true, true_and, and_self, not_true_eq_false, not_false_eq_true, false_implies, true_implies, eq_self, implies_true, false_and, and_false, Classical.not_not, Int.reduceLT, Int.reduceLE, Int.reduceEq, reduceIte, reduceCtorEq, and_imp, imp_false, false_or, or_false, true_or, or_true]
    exact hC _ _ _ hF
theorem eq_planned {C : (Nat → Int32) → (Nat → Int64) → (Nat → Int32) → Prop} (hP : RPv pl_values pl_hands m_plate m_plateFull m_wear m_least m_crew) (hF : FOK pl_found (rnV pl_values) pl_hands.toInt.toNat)
    (hC : ∀ a f b, FOK f (rnV pl_values) pl_hands.toInt.toNat → C a f b) (p1 p2 : Int32) :
    P_X10_planned (fun r a f => P_X11_planned (fun r2 b => ((r = r2 → C a f b) ∧ (¬ r = r2 → False))) p1 p2 m_plate m_plateFull m_wear m_least m_crew m_fewest) p1 p2 pl_values pl_renewed pl_found pl_hands := by
  by_cases h1 : 1 ≤ p1.toInt ∧ p1.toInt ≤ 8
  · have e1 : (p1 - 1).toInt = p1.toInt - 1 := sub1 (by omega)
    by_cases h2 : 0 ≤ p2.toInt ∧ p2.toInt ≤ (p1 - 1).toInt
    · have hi : p2.toInt64.toInt = p2.toInt := Int32.toInt_toInt64 p2
      have hi1 : (p1 - 1).toInt64.toInt = (p1 - 1).toInt := Int32.toInt_toInt64 _
      have hz : (0 : Int64).toInt = 0 := by decide
      simp +decide only [P_X10_planned, h1, h2, within_iff, in_iff, all_eq, bz_0, bz_1, bzT, bzF, nem, bz_or, i64, Int32.reduceToInt, Int64.reduceToInt, and_true, true_and, and_self, not_true_eq_false, not_false_eq_true, false_implies, true_implies, eq_self, implies_true, false_and, and_false, Classical.not_not, Int.reduceLT, Int.reduceLE, Int.reduceEq, reduceIte, reduceCtorEq, and_imp, imp_false, false_or, or_false, true_or, or_true]
      obtain ⟨M, eM, rfl⟩ : ∃ M : Nat, p1.toInt = M ∧ p1 = nI M := ⟨p1.toInt.toNat, by omega, nI_as (by omega)⟩
      obtain ⟨I, eI, rfl⟩ : ∃ M : Nat, p2.toInt = M ∧ p2 = nI M := ⟨p2.toInt.toNat, by omega, nI_as (by omega)⟩
      have hb := RPv_b hP
      have hP0 := hP
      obtain ⟨rfl, hh, hl⟩ := hP
      obtain ⟨H, eH, rfl⟩ : ∃ H : Nat, m_crew.toInt = H ∧ m_crew = nI H := ⟨m_crew.toInt.toNat, by omega, nI_as (by omega)⟩
      have eH2 : (nI H).toInt.toNat = H := by omega
      rw [eH2] at hF hC
      have hIM : I < M := by omega
      refine setOfMonth_i (by omega) (by omega) (by omega) hb hF hIM (fun a f hf => ?_)
      unfold P_X11_planned
      intro X55 X92 X139 h55 h92 h139
      simp +decide only [h1, h2, in_iff, within_iff, in_iff, all_eq, bz_0, bz_1, bzT, bzF, nem, bz_or, i64, Int32.reduceToInt, Int64.reduceToInt, and_true, true_and, and_self, not_true_eq_false, not_false_eq_true, false_implies, true_implies, eq_self, implies_true, false_and, and_false, Classical.not_not, Int.reduceLT, Int.reduceLE, Int.reduceEq, reduceIte, reduceCtorEq, and_imp, imp_false, false_or, or_false, true_or, or_true]
      refine layPlan_i (by omega) (by omega) (by omega) (fun g hg => ?_)
      have e0 := LPn_0 hP0 (by omega) hg
      have vz : vp_in (0 : Int32) 59049 := vp_in_iff.mpr (by decide)
      have cz : (0 : Int32).toNatClampNeg = 0 := rfl
      have hle := ffc_le (rnV pl_values) H M (fun l => min M (nowS pl_values l))
      have hg2 := gf (rnV pl_values) H M (fun l => min M (nowS pl_values l)) (by omega)
      refine ⟨vz, ?_⟩
      rw [cz, e0]
      have hG := RPv_g hP0
      by_cases q : ffc (rnV pl_values) H M (fun l => min M (nowS pl_values l)) < 62
      · rw [if_pos q] at hg2
        rw [hg2]
        have c : nI (ffc (rnV pl_values) H M (fun l => min M (nowS pl_values l))) < (1000000 : Int32) := (nI_ltI (b := 1000000) (by omega) (by omega)).mpr (by omega)
        refine ⟨fun _ => ?_, fun z => absurd c z⟩
        simp only [if_pos q] at h55
        have key : ∀ n j : Nat, j + n = I + 1 → ∀ (E : Nat) (s : Nat → Nat) (x4 : Int32), E < 6561 → (∀ l, l < 4 → d9 E l ≤ j) → (∀ l, l < 4 → s l = sOf (rnV pl_values) (nowS pl_values) (M - j) j (d9 E) l) → (n = 0 → x4 = nI (walkP (rnV pl_values) H I M (fun l => min M (nowS pl_values l)))) → (0 < n → ffc (rnV pl_values) H (M - j) s < 62 ∧ walkP (rnV pl_values) H (n - 1) (M - j) s = walkP (rnV pl_values) H I M (fun l => min M (nowS pl_values l))) → X55 (nI E) x4 (nI j) g := by
          intro n
          induction n with
          | zero =>
            intro j hj E s x4 hE hd hs h0 _
            apply h55
            have c : nI I < nI j := (nI_ltI (by omega) (by omega)).mpr (by omega)
            refine ⟨fun _ => ?_, fun z => absurd c z⟩
            rw [h0 rfl]
            exact ⟨fun _ => hC _ _ _ hf, rfl⟩
          | succ n ih =>
            intro j hj E s x4 hE hd hs _ hw
            obtain ⟨w1, w2⟩ := hw (by omega)
            have em : M - j = M - j - 1 + 1 := by omega
            rw [em] at w1
            have same := fun k hk => same_set (rn := rnV pl_values) (hands := H) (m := M - j - 1) (s := s) (n := k) (by omega) w1 hk
            have gs : gfc (rnV pl_values) H (M - j - 1 + 1) s = rfv (rgd m_plate m_plateFull m_wear m_least) H (M - j) j (d9 E) := by
              rw [rfv_G hG (M - j) j (d9 E) (by omega) hd, ← em]
              exact gfc_cong hs
            have hst : ∀ k l : Nat, l < 4 → (fun l => if k.testBit l then j + 1 else d9 E l) l ≤ j + 1 := fun k l hl => by
              have := hd l hl
              show (if k.testBit l then j + 1 else d9 E l) ≤ j + 1
              split <;> omega
            have sn : ∀ k l : Nat, l < 4 → sOf (rnV pl_values) (nowS pl_values) (M - j - 1) (j + 1) (fun l => if k.testBit l then j + 1 else d9 E l) l = aftS (rnV pl_values) (M - j - 1 + 1) s k l := by
              intro k l hl
              rw [sOf_next (hd l hl)]
              unfold aftS
              rw [hs l hl, ← em]
            have ga : ∀ k : Nat, gfc (rnV pl_values) H (M - j - 1) (aftS (rnV pl_values) (M - j - 1 + 1) s k) = rfv (rgd m_plate m_plateFull m_wear m_least) H (M - (j + 1)) (j + 1) (fun l => if k.testBit l then j + 1 else d9 E l) := by
              intro k
              have e : M - (j + 1) = M - j - 1 := by omega
              rw [e, rfv_G hG (M - j - 1) (j + 1) _ (by omega) (hst k)]
              exact gfc_cong (fun l hl => (sn k l hl).symm)
            have okk : ∀ k, rok (rgd m_plate m_plateFull m_wear m_least) H j (d9 E) k = true ↔ okG (rnV pl_values) H s k = true := by
              intro k
              rw [rok_G (k := M - j - 1) hG (by omega) hd, okG_iff, okG_iff, ← em]
              constructor
              · rintro ⟨a, b, c⟩; exact ⟨a, fun l hl e => by rw [hs l hl]; exact b l hl e, c⟩
              · rintro ⟨a, b, c⟩; exact ⟨a, fun l hl e => by rw [← hs l hl]; exact b l hl e, c⟩
            obtain ⟨hp, okp, ep, hno⟩ := pick_spec w1
            generalize hpk : pick (rnV pl_values) H (M - j - 1) s = p at *
            have ne : ∀ x : Nat, x < 6561 → ¬ nI x = (-9 : Int32) := fun x hx z => by
              rw [fa_eq, nI_toInt (by omega)] at z
              have : (-9 : Int32).toInt = -9 := by decide
              omega
            have search : ∀ d k : Nat, k + d = p →
                P_X11_ones (fun r => ((nI H < r → X92 (nI E) (nI k) (nI j) (-9) g) ∧ (¬ nI H < r → P_X11_then (fun r2 => X92 (nI E) (nI k) (nI j) r2 g) (nI E) (nI j) (nI k) m_plate m_plateFull m_wear m_least))) (nI k) := by
              intro d
              induction d with
              | zero =>
                intro k hk
                have e : k = p := by omega
                subst e
                obtain ⟨g1, g2⟩ := (same k hp).mpr ⟨okp, ep⟩
                have rk := (okk k).mpr g1
                obtain ⟨r1, r2⟩ := rok_iff.mp rk
                have ho := onF_le k
                refine ones_i hp ⟨fun z => ?_, fun _ => ?_⟩
                · have := (nI_ltI (by omega) (by omega)).mp z; omega
                · refine then_i hE (by omega) hp (fun _ => ?_) (fun z => absurd r1 z)
                  have hst8 : ∀ l, l < 4 → (fun l => if k.testBit l then j + 1 else d9 E l) l ≤ 8 := fun l hl => by have := hst k l hl; omega
                  have hlt := mk9_lt hst8
                  have hd9 := fun l hl => d9_mk hst8 (l := l) hl
                  apply h92
                  refine ⟨fun z => absurd z (ne _ hlt), fun _ => ones_i hp ?_⟩
                  rw [ix2, ix]
                  obtain ⟨v1, n1⟩ := ixv (i := j + 1) (by omega) hlt
                  obtain ⟨v2, n2⟩ := ixv (i := j) (by omega) hE
                  have ev : nI (onF k) + g (nI (6561 * (j + 1) + mk9 (fun l => if k.testBit l then j + 1 else d9 E l) 4)).toNatClampNeg = g (nI (6561 * j + E)).toNatClampNeg := by
                    rw [n1, n2, hg (j + 1) _ (by omega) (by omega) hlt, hg j E (by omega) (by omega) hE, rfv_cong _ _ _ _ hd9, ← ga, ← gs, nI_add, g2]
                  refine ⟨v1, v2, fun _ y ey => ?_, fun z => absurd ev z⟩
                  rw [nI_1] at ey
                  subst ey
                  have e3 : M - (j + 1) = M - j - 1 := by omega
                  refine ih (j + 1) (by omega) _ (aftS (rnV pl_values) (M - j - 1 + 1) s k) _ hlt (fun l hl => by rw [hd9 l hl]; exact hst k l hl) (fun l hl => ?_) (fun e0 => ?_) (fun e0 => ⟨by rw [e3]; omega, ?_⟩)
                  · rw [← sn k l hl, e3]
                    unfold sOf
                    rw [hd9 l hl]
                  · subst e0
                    rw [← w2, Nat.zero_add, Nat.sub_self, walkP, hpk]
                  · rw [e3, ← w2]
                    obtain ⟨n, rfl⟩ : ∃ k, n = k + 1 := ⟨n - 1, by omega⟩
                    show _ = walkP (rnV pl_values) H (n + 1) (M - j) s
                    rw [walkP, hpk, ← em]
                    rfl
              | succ d ihd =>
                intro k hk
                have ihd := ihd (k + 1) (by omega)
                have hk16 : k < 16 := by omega
                have nk := hno k (by omega)
                have ho := onF_le k
                have on : X139 (nI E) (nI k) (nI j) g := by
                  apply h139
                  intro y ey
                  rw [nI_1] at ey
                  subst ey
                  exact ihd
                have no9 : X92 (nI E) (nI k) (nI j) (-9) g := by
                  apply h92
                  exact ⟨fun _ => on, fun z => absurd rfl z⟩
                refine ones_i hk16 ⟨fun _ => no9, fun z => ?_⟩
                refine then_i hE (by omega) hk16 (fun r1 => ?_) (fun _ => no9)
                have r2 : onF k ≤ H := by
                  by_cases q2 : H < onF k
                  · exact absurd ((nI_ltI (by omega) (by omega)).mpr q2) z
                  · omega
                have gk := (okk k).mp (rok_iff.mpr ⟨r1, r2⟩)
                have hst8 : ∀ l, l < 4 → (fun l => if k.testBit l then j + 1 else d9 E l) l ≤ 8 := fun l hl => by have := hst k l hl; omega
                have hlt := mk9_lt hst8
                have hd9 := fun l hl => d9_mk hst8 (l := l) hl
                apply h92
                refine ⟨fun z => absurd z (ne _ hlt), fun _ => ones_i hk16 ?_⟩
                rw [ix2, ix]
                obtain ⟨v1, n1⟩ := ixv (i := j + 1) (by omega) hlt
                obtain ⟨v2, n2⟩ := ixv (i := j) (by omega) hE
                have l1 := gfc_le (rnV pl_values) H (M - j - 1) (aftS (rnV pl_values) (M - j - 1 + 1) s k)
                have l2 := gfc_le (rnV pl_values) H (M - j - 1 + 1) s
                have ev : ¬ nI (onF k) + g (nI (6561 * (j + 1) + mk9 (fun l => if k.testBit l then j + 1 else d9 E l) 4)).toNatClampNeg = g (nI (6561 * j + E)).toNatClampNeg := by
                  rw [n1, n2, hg (j + 1) _ (by omega) (by omega) hlt, hg j E (by omega) (by omega) hE, rfv_cong _ _ _ _ hd9, ← ga, ← gs, nI_add]
                  exact fun z => nk ((same k hk16).mp ⟨gk, (nI_eq (by omega) (by omega)).mp z⟩)
                exact ⟨v1, v2, fun z => absurd z ev, fun _ => on⟩
            apply h55
            have c : ¬ nI I < nI j := fun z => by have := (nI_ltI (by omega) (by omega)).mp z; omega
            exact ⟨fun z => absurd z c, fun _ => search p 0 (by omega)⟩
        have hd0 : ∀ l, d9 0 l = 0 := fun l => by unfold d9; rw [Nat.zero_div, Nat.zero_mod]
        refine key (I + 1) 0 (by omega) 0 (fun l => min M (nowS pl_values l)) 0 (by omega) (fun l _ => by rw [hd0]; omega) (fun l _ => ?_) (fun e => absurd e (by omega)) (fun _ => ⟨q, rfl⟩)
        unfold sOf
        rw [hd0, if_pos rfl]
        rfl
      · rw [if_neg q] at hg2
        rw [hg2]
        have c : ¬ nI 1000000 < (1000000 : Int32) := by decide
        rw [if_neg q]
        exact ⟨fun z => absurd z c, fun _ => ⟨fun _ => hC _ _ _ hf, rfl⟩⟩
    · simp +decide only [P_X10_planned, P_X11_planned, h1, h2, within_iff, in_iff, all_eq, bz_0, bz_1, bzT, bzF, nem, bz_or, i64, Int32.reduceToInt, Int64.reduceToInt, and_true, true_and, and_self, not_true_eq_false, not_false_eq_true, false_implies, true_implies, eq_self, implies_true, false_and, and_false, Classical.not_not, Int.reduceLT, Int.reduceLE, Int.reduceEq, reduceIte, reduceCtorEq, and_imp, imp_false, false_or, or_false, true_or, or_true]
      intros
      exact hC _ _ _ hF
  · simp +decide only [P_X10_planned, P_X11_planned, h1, within_iff, in_iff, all_eq, bz_0, bz_1, bzT, bzF, nem, bz_or, i64, Int32.reduceToInt, Int64.reduceToInt, and_true, true_and, and_self, not_true_eq_false, not_false_eq_true, false_implies, true_implies, eq_self, implies_true, false_and, and_false, Classical.not_not, Int.reduceLT, Int.reduceLE, Int.reduceEq, reduceIte, reduceCtorEq, and_imp, imp_false, false_or, or_false, true_or, or_true]
    intros
    exact hC _ _ _ hF
end planM
