section trayP
variable {kd_low kd_high : Nat → Int32} {kd_size m_kinds : Int32} {m_low m_high : Nat → Int32}
/-- the x-th pair behind row a -/
def ansP (F M : Nat → Int) : Nat → Nat → Int → Int
  | 0, _, _ => -9
  | m + 1, a, x => if cnB (F a) (M a) 201 ≤ x then ansP F M m (a + 1) (x - cnB (F a) (M a) 201) else 1000 * a + F a + x
theorem pairAt_j {post : Int32 → Prop} {lo hi : Nat → Int32} {p1 p2 p3 p4 p5 : Int32} (ok : trOk lo hi p1 p2 p3 p4) (h5 : 0 ≤ p5.toInt) (h : ∀ v : Int32, v.toInt = ansP (roF lo hi p1 p2 p3 p4) (roM lo hi p1 p2 p3 p4) 201 0 p5.toInt → post v) : P_X4_pairAt post p1 p2 p3 p4 p5 lo hi := by
  have ni : ∀ a b : Nat, a ≤ 201 → b ≤ 201 → nI a = nI b → a = b := fun a b ha hb e => (nI_eq (by omega) (by omega)).mp e
  refine pairAt_i ok h5 (fun x y => ∀ a : Nat, a ≤ 201 → y = nI a → ∀ v : Int32, v.toInt = ansP (roF lo hi p1 p2 p3 p4) (roM lo hi p1 p2 p3 p4) (201 - a) a x.toInt → post v) ?_ ?_ ?_
  · intro x hx hk
    exact hk 201 (by omega) rfl (-9) (by show (-9 : Int32).toInt = -9; decide)
  · intro a ha e v hv
    have : a = 0 := ni a 0 ha (by omega) e.symm
    subst this
    exact h v hv
  · intro a ha x hx hk
    have e : 201 - a = (200 - a) + 1 := by omega
    have hk := hk a (by omega) rfl
    rw [e] at hk
    refine ⟨fun q y hy b hb eb v hv => ?_, fun q v hv => ?_⟩
    · have : b = a + 1 := ni b (a + 1) hb (by omega) eb.symm
      subst this
      refine hk v ?_
      rw [ansP, if_pos q, hv, hy]
      congr 1
      omega
    · refine hk v ?_
      rw [ansP, if_neg (by omega), hv]
theorem eq_trayPair {C : Prop} (hK : RK kd_low kd_high kd_size m_kinds m_low m_high) (hC : C) (p1 p2 p3 p4 p5 : Int32) :
    P_X10_trayPair (fun r => P_X11_trayPair (fun r2 => ((r = r2 → C) ∧ (¬ r = r2 → False))) p1 p2 p3 p4 p5 m_kinds m_low m_high) p1 p2 p3 p4 p5 kd_low kd_high kd_size := by
  obtain ⟨rfl, rfl, rfl, k0, k6, hk⟩ := hK
  have hm : -2147483648 < m_kinds.toInt := by omega
  by_cases h1 : 0 ≤ p1.toInt ∧ p1.toInt ≤ m_kinds.toInt - 1
  · by_cases h2 : 0 ≤ p2.toInt ∧ p2.toInt ≤ m_kinds.toInt - 1
    · by_cases h3 : (0 ≤ p3.toInt ∧ p3.toInt ≤ 2000000) ∧ 0 ≤ p4.toInt ∧ p4.toInt ≤ 500
      · by_cases h4 : p1 = p2
        · simp +decide only [P_X10_trayPair, P_X10_trayRefusal, has_iff _ _ _ hm, weightX_iff, h1, h2, h3, h4, within_iff, in_iff, all_eq, bz_0, bz_1, bzT, bzF, nem, bz_or, i64, Int32.reduceToInt, Int64.reduceToInt, and_true, true_and, and_self, not_true_eq_false, not_false_eq_true, false_implies, true_implies, eq_self, implies_true, false_and, and_false, Classical.not_not, Int.reduceLT, Int.reduceLE, Int.reduceEq, reduceIte, reduceCtorEq, and_imp, imp_false, false_or, or_false, true_or, or_true]
          unfold P_X11_trayPair
          intro X18 X39 h18 h39
          simp +decide only [P_X11_mayTray, isKind_iff _ _ _ hm, weight_iff, h1, h2, h3, h4, within_iff, in_iff, all_eq, bz_0, bz_1, bzT, bzF, nem, bz_or, i64, Int32.reduceToInt, Int64.reduceToInt, and_true, true_and, and_self, not_true_eq_false, not_false_eq_true, false_implies, true_implies, eq_self, implies_true, false_and, and_false, Classical.not_not, Int.reduceLT, Int.reduceLE, Int.reduceEq, reduceIte, reduceCtorEq, and_imp, imp_false, false_or, or_false, true_or, or_true]
          apply h18
          simp +decide only [within_iff, in_iff, all_eq, bz_0, bz_1, bzT, bzF, nem, bz_or, i64, Int32.reduceToInt, Int64.reduceToInt, and_true, true_and, and_self, not_true_eq_false, not_false_eq_true, false_implies, true_implies, eq_self, implies_true, false_and, and_false, Classical.not_not, Int.reduceLT, Int.reduceLE, Int.reduceEq, reduceIte, reduceCtorEq, and_imp, imp_false, false_or, or_false, true_or, or_true]
          exact hC
        · obtain ⟨q1, q2, q3⟩ := hk p1.toNatClampNeg (by rw [cl]; omega)
          obtain ⟨r1, r2, r3⟩ := hk p2.toNatClampNeg (by rw [cl]; omega)
          have ok : trOk m_low m_high p1 p2 p3 p4 := ⟨⟨vp_in_iff.mpr (by omega), vp_in_iff.mpr (by omega)⟩, by omega, by omega, by omega, by omega, fb_subI (by omega) (by omega), fb_addI (by omega) (by omega), by omega, by omega⟩
          simp +decide only [P_X10_trayPair, P_X10_trayRefusal, has_iff _ _ _ hm, weightX_iff, h1, h2, h3, h4, within_iff, in_iff, all_eq, bz_0, bz_1, bzT, bzF, nem, bz_or, i64, Int32.reduceToInt, Int64.reduceToInt, and_true, true_and, and_self, not_true_eq_false, not_false_eq_true, false_implies, true_implies, eq_self, implies_true, false_and, and_false, Classical.not_not, Int.reduceLT, Int.reduceLE, Int.reduceEq, reduceIte, reduceCtorEq, and_imp, imp_false, false_or, or_false, true_or, or_true]
          by_cases h5 : 0 ≤ p5.toInt
          · refine pairAt_j ok h5 (fun r hr => ?_)
            unfold P_X11_trayPair
            intro X18 X39 h18 h39
            simp +decide only [P_X11_mayTray, isKind_iff _ _ _ hm, weight_iff, h1, h2, h3, h4, within_iff, in_iff, all_eq, bz_0, bz_1, bzT, bzF, nem, bz_or, i64, Int32.reduceToInt, Int64.reduceToInt, and_true, true_and, and_self, not_true_eq_false, not_false_eq_true, false_implies, true_implies, eq_self, implies_true, false_and, and_false, Classical.not_not, Int.reduceLT, Int.reduceLE, Int.reduceEq, reduceIte, reduceCtorEq, and_imp, imp_false, false_or, or_false, true_or, or_true]
            have n5 : ¬ p5 < 0 := by rw [lt0]; omega
            have e1000 : (1000 : Int32).toInt = 1000 := by decide
            have inner : ∀ a : Nat, a ≤ 200 → ∀ x0 : Int, 0 ≤ x0 → (cnB (roF m_low m_high p1 p2 p3 p4 a) (roM m_low m_high p1 p2 p3 p4 a) 201 ≤ x0 → ∀ y : Int32, y.toInt = x0 - cnB (roF m_low m_high p1 p2 p3 p4 a) (roM m_low m_high p1 p2 p3 p4 a) 201 → X18 0 y (nI (a + 1))) → (x0 < cnB (roF m_low m_high p1 p2 p3 p4 a) (roM m_low m_high p1 p2 p3 p4 a) 201 → r.toInt = 1000 * a + roF m_low m_high p1 p2 p3 p4 a + x0) →
                ∀ m b : Nat, b + m = 201 → cnB (roF m_low m_high p1 p2 p3 p4 a) (roM m_low m_high p1 p2 p3 p4 a) b ≤ x0 → ∀ x : Int32, x.toInt = x0 - cnB (roF m_low m_high p1 p2 p3 p4 a) (roM m_low m_high p1 p2 p3 p4 a) b → X39 0 x (nI a) (nI b) := by
              intro a ha x0 hx0 hA hB m
              obtain ⟨b1, b2⟩ := ro_b ok a
              have ea : (nI a).toInt = a := nI_toInt (by omega)
              induction m with
              | zero =>
                intro b hb hle x hx
                have e : b = 201 := by omega
                subst e
                apply h39
                simp +decide only [lt200, nI_1 a, within_iff, in_iff, all_eq, bz_0, bz_1, bzT, bzF, nem, bz_or, i64, Int32.reduceToInt, Int64.reduceToInt, and_true, true_and, and_self, not_true_eq_false, not_false_eq_true, false_implies, true_implies, eq_self, implies_true, false_and, and_false, Classical.not_not, Int.reduceLT, Int.reduceLE, Int.reduceEq, reduceIte, reduceCtorEq, and_imp, imp_false, false_or, or_false, true_or, or_true]
                exact hA hle x hx
              | succ m ih =>
                intro b hb hle x hx
                have ih := ih (b + 1) (by omega)
                have es := cnB_s (M := roM m_low m_high p1 p2 p3 p4 a) b1.1 b
                have cb := cnB_b (M := roM m_low m_high p1 p2 p3 p4 a) b1.1 b
                have eb : (nI b).toInt = b := nI_toInt (by omega)
                apply h39
                simp +decide only [nlt200 (a := b) (by omega), nI_1 b, within_iff, in_iff, all_eq, bz_0, bz_1, bzT, bzF, nem, bz_or, i64, Int32.reduceToInt, Int64.reduceToInt, and_true, true_and, and_self, not_true_eq_false, not_false_eq_true, false_implies, true_implies, eq_self, implies_true, false_and, and_false, Classical.not_not, Int.reduceLT, Int.reduceLE, Int.reduceEq, reduceIte, reduceCtorEq, and_imp, imp_false, false_or, or_false, true_or, or_true]
                refine isPair_r ok ha (by omega) ?_
                by_cases q : roF m_low m_high p1 p2 p3 p4 a ≤ b ∧ (b : Int) ≤ roM m_low m_high p1 p2 p3 p4 a
                · rw [if_pos q] at es
                  rw [bz_t q]
                  by_cases q0 : x = 0
                  · have ex : x.toInt = 0 := by rw [q0]; decide
                    simp +decide only [q0, within_iff, in_iff, all_eq, bz_0, bz_1, bzT, bzF, nem, bz_or, i64, Int32.reduceToInt, Int64.reduceToInt, and_true, true_and, and_self, not_true_eq_false, not_false_eq_true, false_implies, true_implies, eq_self, implies_true, false_and, and_false, Classical.not_not, Int.reduceLT, Int.reduceLE, Int.reduceEq, reduceIte, reduceCtorEq, and_imp, imp_false, false_or, or_false, true_or, or_true]
                    have hcn : cnB (roF m_low m_high p1 p2 p3 p4 a) (roM m_low m_high p1 p2 p3 p4 a) b = b - roF m_low m_high p1 p2 p3 p4 a := by
                      unfold cnB; split <;> omega
                    have hlt : x0 < cnB (roF m_low m_high p1 p2 p3 p4 a) (roM m_low m_high p1 p2 p3 p4 a) 201 := by
                      have : cnB (roF m_low m_high p1 p2 p3 p4 a) (roM m_low m_high p1 p2 p3 p4 a) 201 = max 0 (roM m_low m_high p1 p2 p3 p4 a - roF m_low m_high p1 p2 p3 p4 a + 1) := cnB_row b1.1 b2.2
                      omega
                    have hr2 := hB hlt
                    have m1 : (1000 * nI a).toInt = 1000 * a := by rw [mul_c (by decide) (by decide) (by omega) (by omega), e1000, ea]
                    have m2 : (1000 * nI a + nI b).toInt = 1000 * a + b := by rw [fb_addI (by omega) (by omega), m1, eb]
                    have he : r = 1000 * nI a + nI b := (fa_eq _ _).mpr (by rw [m2]; omega)
                    exact ⟨fun _ => hC, he⟩
                  · have ex : x.toInt ≠ 0 := fun e => q0 ((fa_eq _ _).mpr (by rw [e]; decide))
                    simp +decide only [q0, within_iff, in_iff, all_eq, bz_0, bz_1, bzT, bzF, nem, bz_or, i64, Int32.reduceToInt, Int64.reduceToInt, and_true, true_and, and_self, not_true_eq_false, not_false_eq_true, false_implies, true_implies, eq_self, implies_true, false_and, and_false, Classical.not_not, Int.reduceLT, Int.reduceLE, Int.reduceEq, reduceIte, reduceCtorEq, and_imp, imp_false, false_or, or_false, true_or, or_true]
                    refine ih (by omega) _ ?_
                    have em : (-1 : Int32).toInt = -1 := by decide
                    have := fb_rng x
                    rw [fb_addI (by omega) (by omega), em]; omega
                · rw [if_neg q] at es
                  rw [bz_f q]
                  simp +decide only [within_iff, in_iff, all_eq, bz_0, bz_1, bzT, bzF, nem, bz_or, i64, Int32.reduceToInt, Int64.reduceToInt, and_true, true_and, and_self, not_true_eq_false, not_false_eq_true, false_implies, true_implies, eq_self, implies_true, false_and, and_false, Classical.not_not, Int.reduceLT, Int.reduceLE, Int.reduceEq, reduceIte, reduceCtorEq, and_imp, imp_false, false_or, or_false, true_or, or_true]
                  exact ih (by omega) x (by omega)
            have outer : ∀ m a : Nat, a + m = 201 → ∀ x : Int32, 0 ≤ x.toInt → r.toInt = ansP (roF m_low m_high p1 p2 p3 p4) (roM m_low m_high p1 p2 p3 p4) m a x.toInt → X18 0 x (nI a) := by
              intro m
              induction m with
              | zero =>
                intro a ha x hx hr2
                have e : a = 201 := by omega
                subst e
                apply h18
                have he : r = -9 := (fa_eq _ _).mpr (by rw [hr2]; show (-9 : Int) = (-9 : Int32).toInt; decide)
                simp +decide only [lt200, he, within_iff, in_iff, all_eq, bz_0, bz_1, bzT, bzF, nem, bz_or, i64, Int32.reduceToInt, Int64.reduceToInt, and_true, true_and, and_self, not_true_eq_false, not_false_eq_true, false_implies, true_implies, eq_self, implies_true, false_and, and_false, Classical.not_not, Int.reduceLT, Int.reduceLE, Int.reduceEq, reduceIte, reduceCtorEq, and_imp, imp_false, false_or, or_false, true_or, or_true]
                exact hC
              | succ m ih =>
                intro a ha x hx hr2
                have ih := ih (a + 1) (by omega)
                rw [ansP] at hr2
                apply h18
                simp +decide only [nlt200 (a := a) (by omega), n5, within_iff, in_iff, all_eq, bz_0, bz_1, bzT, bzF, nem, bz_or, i64, Int32.reduceToInt, Int64.reduceToInt, and_true, true_and, and_self, not_true_eq_false, not_false_eq_true, false_implies, true_implies, eq_self, implies_true, false_and, and_false, Classical.not_not, Int.reduceLT, Int.reduceLE, Int.reduceEq, reduceIte, reduceCtorEq, and_imp, imp_false, false_or, or_false, true_or, or_true]
                refine inner a (by omega) x.toInt hx (fun q y hy => ?_) (fun q => ?_) 201 0 (by omega) (by rw [cnB_0 (ro_b ok a).1.1]; exact hx) x (by rw [cnB_0 (ro_b ok a).1.1]; omega)
                · rw [if_pos q] at hr2
                  exact ih y (by omega) (by rw [hy]; exact hr2)
                · rw [if_neg (by omega)] at hr2
                  exact hr2
            exact outer 201 0 (by omega) p5 h5 hr
          · have g5 : ¬ (0 : Int32) ≤ p5 := by rw [fa_le]; exact h5
            have n5 : p5 < 0 := by rw [lt0]; omega
            unfold P_X4_pairAt
            intro X15 h15
            simp +decide only [g5, within_iff, in_iff, all_eq, bz_0, bz_1, bzT, bzF, nem, bz_or, i64, Int32.reduceToInt, Int64.reduceToInt, and_true, true_and, and_self, not_true_eq_false, not_false_eq_true, false_implies, true_implies, eq_self, implies_true, false_and, and_false, Classical.not_not, Int.reduceLT, Int.reduceLE, Int.reduceEq, reduceIte, reduceCtorEq, and_imp, imp_false, false_or, or_false, true_or, or_true]
            unfold P_X11_trayPair
            intro X18 X39 h18 h39
            simp +decide only [P_X11_mayTray, isKind_iff _ _ _ hm, weight_iff, h1, h2, h3, h4, within_iff, in_iff, all_eq, bz_0, bz_1, bzT, bzF, nem, bz_or, i64, Int32.reduceToInt, Int64.reduceToInt, and_true, true_and, and_self, not_true_eq_false, not_false_eq_true, false_implies, true_implies, eq_self, implies_true, false_and, and_false, Classical.not_not, Int.reduceLT, Int.reduceLE, Int.reduceEq, reduceIte, reduceCtorEq, and_imp, imp_false, false_or, or_false, true_or, or_true]
            apply h18
            simp +decide only [n5, within_iff, in_iff, all_eq, bz_0, bz_1, bzT, bzF, nem, bz_or, i64, Int32.reduceToInt, Int64.reduceToInt, and_true, true_and, and_self, not_true_eq_false, not_false_eq_true, false_implies, true_implies, eq_self, implies_true, false_and, and_false, Classical.not_not, Int.reduceLT, Int.reduceLE, Int.reduceEq, reduceIte, reduceCtorEq, and_imp, imp_false, false_or, or_false, true_or, or_true]
            exact hC
      · simp +decide only [P_X10_trayPair, P_X10_trayRefusal, has_iff _ _ _ hm, weightX_iff, h1, h2, h3, within_iff, in_iff, all_eq, bz_0, bz_1, bzT, bzF, nem, bz_or, i64, Int32.reduceToInt, Int64.reduceToInt, and_true, true_and, and_self, not_true_eq_false, not_false_eq_true, false_implies, true_implies, eq_self, implies_true, false_and, and_false, Classical.not_not, Int.reduceLT, Int.reduceLE, Int.reduceEq, reduceIte, reduceCtorEq, and_imp, imp_false, false_or, or_false, true_or, or_true]
        unfold P_X11_trayPair
        intro X18 X39 h18 h39
        simp +decide only [P_X11_mayTray, isKind_iff _ _ _ hm, weight_iff, h1, h2, h3, within_iff, in_iff, all_eq, bz_0, bz_1, bzT, bzF, nem, bz_or, i64, Int32.reduceToInt, Int64.reduceToInt, and_true, true_and, and_self, not_true_eq_false, not_false_eq_true, false_implies, true_implies, eq_self, implies_true, false_and, and_false, Classical.not_not, Int.reduceLT, Int.reduceLE, Int.reduceEq, reduceIte, reduceCtorEq, and_imp, imp_false, false_or, or_false, true_or, or_true]
        apply h18
        simp +decide only [within_iff, in_iff, all_eq, bz_0, bz_1, bzT, bzF, nem, bz_or, i64, Int32.reduceToInt, Int64.reduceToInt, and_true, true_and, and_self, not_true_eq_false, not_false_eq_true, false_implies, true_implies, eq_self, implies_true, false_and, and_false, Classical.not_not, Int.reduceLT, Int.reduceLE, Int.reduceEq, reduceIte, reduceCtorEq, and_imp, imp_false, false_or, or_false, true_or, or_true]
        exact hC
    · simp +decide only [P_X10_trayPair, P_X10_trayRefusal, has_iff _ _ _ hm, h1, h2, within_iff, in_iff, all_eq, bz_0, bz_1, bzT, bzF, nem, bz_or, i64, Int32.reduceToInt, Int64.reduceToInt, and_true, true_and, and_self, not_true_eq_false, not_false_eq_true, false_implies, true_implies, eq_self, implies_true, false_and, and_false, Classical.not_not, Int.reduceLT, Int.reduceLE, Int.reduceEq, reduceIte, reduceCtorEq, and_imp, imp_false, false_or, or_false, true_or, or_true]
      unfold P_X11_trayPair
      intro X18 X39 h18 h39
      simp +decide only [P_X11_mayTray, isKind_iff _ _ _ hm, h1, h2, within_iff, in_iff, all_eq, bz_0, bz_1, bzT, bzF, nem, bz_or, i64, Int32.reduceToInt, Int64.reduceToInt, and_true, true_and, and_self, not_true_eq_false, not_false_eq_true, false_implies, true_implies, eq_self, implies_true, false_and, and_false, Classical.not_not, Int.reduceLT, Int.reduceLE, Int.reduceEq, reduceIte, reduceCtorEq, and_imp, imp_false, false_or, or_false, true_or, or_true]
      apply h18
      simp +decide only [within_iff, in_iff, all_eq, bz_0, bz_1, bzT, bzF, nem, bz_or, i64, Int32.reduceToInt, Int64.reduceToInt, and_true, true_and, and_self, not_true_eq_false, not_false_eq_true, false_implies, true_implies, eq_self, implies_true, false_and, and_false, Classical.not_not, Int.reduceLT, Int.reduceLE, Int.reduceEq, reduceIte, reduceCtorEq, and_imp, imp_false, false_or, or_false, true_or, or_true]
      exact hC
  · simp +decide only [P_X10_trayPair, P_X10_trayRefusal, has_iff _ _ _ hm, h1, within_iff, in_iff, all_eq, bz_0, bz_1, bzT, bzF, nem, bz_or, i64, Int32.reduceToInt, Int64.reduceToInt, and_true, true_and, and_self, not_true_eq_false, not_false_eq_true, false_implies, true_implies, eq_self, implies_true, false_and, and_false, Classical.not_not, Int.reduceLT, Int.reduceLE, Int.reduceEq, reduceIte, reduceCtorEq, and_imp, imp_false, false_or, or_false, true_or, or_true]
    unfold P_X11_trayPair
    intro X18 X39 h18 h39
    simp +decide only [P_X11_mayTray, isKind_iff _ _ _ hm, h1, within_iff, in_iff, all_eq, bz_0, bz_1, bzT, bzF, nem, bz_or, i64, Int32.reduceToInt, Int64.reduceToInt, and_true, true_and, and_self, not_true_eq_false, not_false_eq_true, false_implies, true_implies, eq_self, implies_true, false_and, and_false, Classical.not_not, Int.reduceLT, Int.reduceLE, Int.reduceEq, reduceIte, reduceCtorEq, and_imp, imp_false, false_or, or_false, true_or, or_true]
    apply h18
    simp +decide only [within_iff, in_iff, all_eq, bz_0, bz_1, bzT, bzF, nem, bz_or, i64, Int32.reduceToInt, Int64.reduceToInt, and_true, true_and, and_self, not_true_eq_false, not_false_eq_true, false_implies, true_implies, eq_self, implies_true, false_and, and_false, Classical.not_not, Int.reduceLT, Int.reduceLE, Int.reduceEq, reduceIte, reduceCtorEq, and_imp, imp_false, false_or, or_false, true_or, or_true]
    exact hC
end trayP
