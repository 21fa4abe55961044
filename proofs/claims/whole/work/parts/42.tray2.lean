section trayE
variable {kd_low kd_high : Nat → Int32} {kd_size m_kinds : Int32} {m_low m_high : Nat → Int32}
def smZ (f : Nat → Int) : Nat → Int
  | 0 => 0
  | n + 1 => smZ f n + f n
theorem smZ_b {f : Nat → Int} {c : Int} (h : ∀ k, 0 ≤ f k ∧ f k ≤ c) : ∀ n : Nat, 0 ≤ smZ f n ∧ smZ f n ≤ n * c
  | 0 => by simp [smZ]
  | n + 1 => by
    have ih := smZ_b h n
    have := h n
    have e : ((n + 1 : Nat) : Int) * c = n * c + c := by rw [Int.natCast_succ, Int.add_mul, Int.one_mul]
    rw [smZ]; omega
theorem trF_le {less hi1 hi2 : Int} (h : 1 ≤ hi2 ∧ hi2 ≤ 2000) (h1 : 0 ≤ hi1) (hl : less ≤ 2000000) (a : Nat) : trF less hi1 hi2 a ≤ 2002000 := by
  have := Int.mul_nonneg (show 0 ≤ (a : Int) by omega) h1
  unfold trF; split
  · omega
  · exact Int.le_trans (Int.ediv_le_self _ (by omega)) (by omega)
theorem trM_b (more lo1 lo2 : Int) (h : 1 ≤ lo2) (a : Nat) : -1 ≤ trM more lo1 lo2 a ∧ trM more lo1 lo2 a ≤ 200 := by
  unfold trM; split
  · omega
  · have := Int.ediv_nonneg (a := more - a * lo1) (b := lo2) (by omega) (by omega)
    omega
theorem cnB_row {F M : Int} (h : 0 ≤ F) (h2 : M ≤ 200) : cnB F M 201 = max 0 (M - F + 1) := by
  unfold cnB; split <;> omega
theorem cnB_b {F M : Int} (h : 0 ≤ F) (n : Nat) : 0 ≤ cnB F M n ∧ cnB F M n ≤ n := by
  unfold cnB; split <;> omega
/-- F and M of a row -/
def roF (lo hi : Nat → Int32) (p1 p2 p3 p4 : Int32) (a : Nat) : Int := trF (p3.toInt - p4.toInt) (hi p1.toNatClampNeg).toInt (hi p2.toNatClampNeg).toInt a
def roM (lo hi : Nat → Int32) (p1 p2 p3 p4 : Int32) (a : Nat) : Int := trM (p3.toInt + p4.toInt) (lo p1.toNatClampNeg).toInt (lo p2.toNatClampNeg).toInt a
theorem ro_b {lo hi : Nat → Int32} {p1 p2 p3 p4 : Int32} (ok : trOk lo hi p1 p2 p3 p4) (a : Nat) : (0 ≤ roF lo hi p1 p2 p3 p4 a ∧ roF lo hi p1 p2 p3 p4 a ≤ 2002000) ∧ -1 ≤ roM lo hi p1 p2 p3 p4 a ∧ roM lo hi p1 p2 p3 p4 a ≤ 200 := by
  obtain ⟨-, o1, o2, o3, o4, ed, es, o7, o8, o9⟩ := ok
  exact ⟨⟨trF_nn o4.1 a, trF_le o4 (by omega) (by omega) a⟩, trM_b _ _ _ o3.1 a⟩
/-- how many of a row, as the class counts them -/
theorem row_c {f g : Int32} {F M : Int} (hf : f.toInt = F) (hg : g.toInt = M) (h1 : 0 ≤ F ∧ F ≤ 2002000) (h2 : -1 ≤ M ∧ M ≤ 200) : (if 0 < g - f + 1 then g - f + 1 else 0).toInt = cnB F M 201 := by
  have e1 : (1 : Int32).toInt = 1 := by decide
  have e0 : (0 : Int32).toInt = 0 := by decide
  have a1 : (g - f).toInt = M - F := by rw [fb_subI (by omega) (by omega), hf, hg]
  have a2 : (g - f + 1).toInt = M - F + 1 := by rw [fb_addI (by omega) (by omega), a1, e1]
  rw [cnB_row h1.1 h2.2]
  by_cases q : 0 < g - f + 1
  · rw [if_pos q, a2]; rw [fa_lt, a2, e0] at q; omega
  · rw [if_neg q, e0]; rw [fa_lt, a2, e0] at q; omega
theorem isPair_r {post : Int32 → Prop} {lo hi : Nat → Int32} {p1 p2 p3 p4 : Int32} (ok : trOk lo hi p1 p2 p3 p4) {a b : Nat} (ha : a ≤ 200) (hb : b ≤ 200) (h : post (bz (roF lo hi p1 p2 p3 p4 a ≤ b ∧ (b : Int) ≤ roM lo hi p1 p2 p3 p4 a))) : P_X11_isPair post p1 p2 (p3 - p4) (p3 + p4) (nI a) (nI b) lo hi := isPair_i ok ha hb h
theorem nlt200 {a : Nat} (h : a ≤ 200) : ¬ (200 : Int32) < nI a := by
  rw [fa_lt, nI_toInt (by omega)]; have : (200 : Int32).toInt = 200 := by decide
  omega
theorem lt200 : (200 : Int32) < nI 201 := by decide
theorem has_iff (post : Int32 → Prop) (k n : Int32) (hn : -2147483648 < n.toInt) : P_X4_has post k n ↔ post (bz (0 ≤ k.toInt ∧ k.toInt ≤ n.toInt - 1)) := by
  simp +decide only [P_X4_has, sub1 hn, within_iff, in_iff, all_eq, bz_0, bz_1, bzT, bzF, nem, bz_or, i64, Int32.reduceToInt, Int64.reduceToInt, and_true, true_and, and_self, not_true_eq_false, not_false_eq_true, false_implies, true_implies, eq_self, implies_true, false_and, and_false, Classical.not_not, Int.reduceLT, Int.reduceLE, Int.reduceEq, reduceIte, reduceCtorEq, and_imp, imp_false, false_or, or_false, true_or, or_true]
theorem pairsOn_i {post : Int32 → Prop} {lo hi : Nat → Int32} {p1 p2 p3 p4 : Int32} (ok : trOk lo hi p1 p2 p3 p4) (h : ∀ r : Int32, r.toInt = smZ (fun a => cnB (roF lo hi p1 p2 p3 p4 a) (roM lo hi p1 p2 p3 p4 a) 201) 201 → post r) : P_X4_pairsOn post p1 p2 p3 p4 lo hi := by
  unfold P_X4_pairsOn
  intro X hX
  have bnd : ∀ n, 0 ≤ smZ (fun a => cnB (roF lo hi p1 p2 p3 p4 a) (roM lo hi p1 p2 p3 p4 a) 201) n ∧ smZ (fun a => cnB (roF lo hi p1 p2 p3 p4 a) (roM lo hi p1 p2 p3 p4 a) 201) n ≤ n * 201 := smZ_b (c := 201) (fun k => cnB_b (ro_b ok k).1.1 201)
  have key : ∀ m a : Nat, a + m = 201 → ∀ x : Int32, x.toInt = smZ (fun a => cnB (roF lo hi p1 p2 p3 p4 a) (roM lo hi p1 p2 p3 p4 a) 201) a → X x (nI a) := by
    intro m
    induction m with
    | zero =>
      intro a ha x hx
      have e : a = 201 := by omega
      subst e
      apply hX
      simp +decide only [lt200, within_iff, in_iff, all_eq, bz_0, bz_1, bzT, bzF, nem, bz_or, i64, Int32.reduceToInt, Int64.reduceToInt, and_true, true_and, and_self, not_true_eq_false, not_false_eq_true, false_implies, true_implies, eq_self, implies_true, false_and, and_false, Classical.not_not, Int.reduceLT, Int.reduceLE, Int.reduceEq, reduceIte, reduceCtorEq, and_imp, imp_false, false_or, or_false, true_or, or_true]
      exact h x hx
    | succ m ih =>
      intro a ha x hx
      have ih := ih (a + 1) (by omega)
      obtain ⟨b1, b2⟩ := ro_b ok a
      have c1 := cnB_b (M := roM lo hi p1 p2 p3 p4 a) b1.1 201
      have c2 := bnd a
      apply hX
      simp +decide only [nlt200 (a := a) (by omega), nI_1 a, within_iff, in_iff, all_eq, bz_0, bz_1, bzT, bzF, nem, bz_or, i64, Int32.reduceToInt, Int64.reduceToInt, and_true, true_and, and_self, not_true_eq_false, not_false_eq_true, false_implies, true_implies, eq_self, implies_true, false_and, and_false, Classical.not_not, Int.reduceLT, Int.reduceLE, Int.reduceEq, reduceIte, reduceCtorEq, and_imp, imp_false, false_or, or_false, true_or, or_true]
      refine fewestBeside_i ok (by omega) (fun f hf => mostBeside_i ok (by omega) (fun g hg => ?_))
      refine ih _ ?_
      have e := row_c (F := roF lo hi p1 p2 p3 p4 a) (M := roM lo hi p1 p2 p3 p4 a) hf hg b1 b2
      rw [fb_addI (by omega) (by omega), e, hx, smZ]
  exact key 201 0 (by omega) 0 (show (0 : Int32).toInt = 0 by decide)
theorem eq_tray {C : Prop} (hK : RK kd_low kd_high kd_size m_kinds m_low m_high) (hC : C) (p1 p2 p3 p4 : Int32) :
    P_X10_tray (fun r => P_X11_tray (fun r2 => ((r = r2 → C) ∧ (¬ r = r2 → False))) p1 p2 p3 p4 m_kinds m_low m_high) p1 p2 p3 p4 kd_low kd_high kd_size := by
  obtain ⟨rfl, rfl, rfl, k0, k6, hk⟩ := hK
  have hm : -2147483648 < m_kinds.toInt := by omega
  by_cases h1 : 0 ≤ p1.toInt ∧ p1.toInt ≤ m_kinds.toInt - 1
  · by_cases h2 : 0 ≤ p2.toInt ∧ p2.toInt ≤ m_kinds.toInt - 1
    · by_cases h3 : (0 ≤ p3.toInt ∧ p3.toInt ≤ 2000000) ∧ 0 ≤ p4.toInt ∧ p4.toInt ≤ 500
      · by_cases h4 : p1 = p2
        · simp +decide only [P_X10_tray, P_X10_trayRefusal, has_iff _ _ _ hm, weightX_iff, h1, h2, h3, h4, within_iff, in_iff, all_eq, bz_0, bz_1, bzT, bzF, nem, bz_or, i64, Int32.reduceToInt, Int64.reduceToInt, and_true, true_and, and_self, not_true_eq_false, not_false_eq_true, false_implies, true_implies, eq_self, implies_true, false_and, and_false, Classical.not_not, Int.reduceLT, Int.reduceLE, Int.reduceEq, reduceIte, reduceCtorEq, and_imp, imp_false, false_or, or_false, true_or, or_true]
          unfold P_X11_tray
          intro X17 X33 h17 h33
          simp +decide only [P_X11_mayTray, isKind_iff _ _ _ hm, weight_iff, h1, h2, h3, h4, within_iff, in_iff, all_eq, bz_0, bz_1, bzT, bzF, nem, bz_or, i64, Int32.reduceToInt, Int64.reduceToInt, and_true, true_and, and_self, not_true_eq_false, not_false_eq_true, false_implies, true_implies, eq_self, implies_true, false_and, and_false, Classical.not_not, Int.reduceLT, Int.reduceLE, Int.reduceEq, reduceIte, reduceCtorEq, and_imp, imp_false, false_or, or_false, true_or, or_true]
          apply h17
          simp +decide only [within_iff, in_iff, all_eq, bz_0, bz_1, bzT, bzF, nem, bz_or, i64, Int32.reduceToInt, Int64.reduceToInt, and_true, true_and, and_self, not_true_eq_false, not_false_eq_true, false_implies, true_implies, eq_self, implies_true, false_and, and_false, Classical.not_not, Int.reduceLT, Int.reduceLE, Int.reduceEq, reduceIte, reduceCtorEq, and_imp, imp_false, false_or, or_false, true_or, or_true]
          exact hC
        · obtain ⟨q1, q2, q3⟩ := hk p1.toNatClampNeg (by rw [cl]; omega)
          obtain ⟨r1, r2, r3⟩ := hk p2.toNatClampNeg (by rw [cl]; omega)
          have ok : trOk m_low m_high p1 p2 p3 p4 := ⟨⟨vp_in_iff.mpr (by omega), vp_in_iff.mpr (by omega)⟩, by omega, by omega, by omega, by omega, fb_subI (by omega) (by omega), fb_addI (by omega) (by omega), by omega, by omega⟩
          simp +decide only [P_X10_tray, P_X10_trayRefusal, has_iff _ _ _ hm, weightX_iff, h1, h2, h3, h4, within_iff, in_iff, all_eq, bz_0, bz_1, bzT, bzF, nem, bz_or, i64, Int32.reduceToInt, Int64.reduceToInt, and_true, true_and, and_self, not_true_eq_false, not_false_eq_true, false_implies, true_implies, eq_self, implies_true, false_and, and_false, Classical.not_not, Int.reduceLT, Int.reduceLE, Int.reduceEq, reduceIte, reduceCtorEq, and_imp, imp_false, false_or, or_false, true_or, or_true]
          refine pairsOn_i ok (fun r hr => ?_)
          unfold P_X11_tray
          intro X17 X33 h17 h33
          simp +decide only [P_X11_mayTray, isKind_iff _ _ _ hm, weight_iff, h1, h2, h3, h4, within_iff, in_iff, all_eq, bz_0, bz_1, bzT, bzF, nem, bz_or, i64, Int32.reduceToInt, Int64.reduceToInt, and_true, true_and, and_self, not_true_eq_false, not_false_eq_true, false_implies, true_implies, eq_self, implies_true, false_and, and_false, Classical.not_not, Int.reduceLT, Int.reduceLE, Int.reduceEq, reduceIte, reduceCtorEq, and_imp, imp_false, false_or, or_false, true_or, or_true]
          have bnd : ∀ n, 0 ≤ smZ (fun a => cnB (roF m_low m_high p1 p2 p3 p4 a) (roM m_low m_high p1 p2 p3 p4 a) 201) n ∧ smZ (fun a => cnB (roF m_low m_high p1 p2 p3 p4 a) (roM m_low m_high p1 p2 p3 p4 a) 201) n ≤ n * 201 := smZ_b (c := 201) (fun k => cnB_b (ro_b ok k).1.1 201)
          have inner : ∀ a : Nat, a ≤ 200 → (∀ x : Int32, x.toInt = smZ (fun a => cnB (roF m_low m_high p1 p2 p3 p4 a) (roM m_low m_high p1 p2 p3 p4 a) 201) (a + 1) → X17 0 x (nI (a + 1))) → ∀ m b : Nat, b + m = 201 → ∀ x : Int32, x.toInt = smZ (fun a => cnB (roF m_low m_high p1 p2 p3 p4 a) (roM m_low m_high p1 p2 p3 p4 a) 201) a + cnB (roF m_low m_high p1 p2 p3 p4 a) (roM m_low m_high p1 p2 p3 p4 a) b → X33 0 x (nI a) (nI b) := by
            intro a ha hx m
            obtain ⟨b1, b2⟩ := ro_b ok a
            have c2 := bnd a
            induction m with
            | zero =>
              intro b hb x hxx
              have e : b = 201 := by omega
              subst e
              apply h33
              simp +decide only [lt200, nI_1 a, within_iff, in_iff, all_eq, bz_0, bz_1, bzT, bzF, nem, bz_or, i64, Int32.reduceToInt, Int64.reduceToInt, and_true, true_and, and_self, not_true_eq_false, not_false_eq_true, false_implies, true_implies, eq_self, implies_true, false_and, and_false, Classical.not_not, Int.reduceLT, Int.reduceLE, Int.reduceEq, reduceIte, reduceCtorEq, and_imp, imp_false, false_or, or_false, true_or, or_true]
              exact hx x (by rw [smZ]; exact hxx)
            | succ m ih =>
              intro b hb x hxx
              have ih := ih (b + 1) (by omega)
              have c1 := cnB_b (M := roM m_low m_high p1 p2 p3 p4 a) b1.1 b
              apply h33
              simp +decide only [nlt200 (a := b) (by omega), nI_1 b, within_iff, in_iff, all_eq, bz_0, bz_1, bzT, bzF, nem, bz_or, i64, Int32.reduceToInt, Int64.reduceToInt, and_true, true_and, and_self, not_true_eq_false, not_false_eq_true, false_implies, true_implies, eq_self, implies_true, false_and, and_false, Classical.not_not, Int.reduceLT, Int.reduceLE, Int.reduceEq, reduceIte, reduceCtorEq, and_imp, imp_false, false_or, or_false, true_or, or_true]
              refine isPair_r ok ha (by omega) ?_
              have es := cnB_s (M := roM m_low m_high p1 p2 p3 p4 a) b1.1 b
              by_cases q : roF m_low m_high p1 p2 p3 p4 a ≤ b ∧ (b : Int) ≤ roM m_low m_high p1 p2 p3 p4 a
              · rw [if_pos q] at es
                rw [bz_t q]
                refine ih _ ?_
                have e1 : (if (1 : Int32) = 0 then (0 : Int32) else 1).toInt = 1 := by decide
                rw [fb_addI (by omega) (by omega), e1]; omega
              · rw [if_neg q] at es
                rw [bz_f q]
                refine ih _ ?_
                have e1 : (if (0 : Int32) = 0 then (0 : Int32) else 1).toInt = 0 := by decide
                rw [fb_addI (by omega) (by omega), e1]; omega
          have outer : ∀ m a : Nat, a + m = 201 → ∀ x : Int32, x.toInt = smZ (fun a => cnB (roF m_low m_high p1 p2 p3 p4 a) (roM m_low m_high p1 p2 p3 p4 a) 201) a → X17 0 x (nI a) := by
            intro m
            induction m with
            | zero =>
              intro a ha x hx
              have e : a = 201 := by omega
              subst e
              apply h17
              have : r = x := (fa_eq _ _).mpr (by omega)
              simp +decide only [lt200, this, within_iff, in_iff, all_eq, bz_0, bz_1, bzT, bzF, nem, bz_or, i64, Int32.reduceToInt, Int64.reduceToInt, and_true, true_and, and_self, not_true_eq_false, not_false_eq_true, false_implies, true_implies, eq_self, implies_true, false_and, and_false, Classical.not_not, Int.reduceLT, Int.reduceLE, Int.reduceEq, reduceIte, reduceCtorEq, and_imp, imp_false, false_or, or_false, true_or, or_true]
              exact hC
            | succ m ih =>
              intro a ha x hx
              have ih := ih (a + 1) (by omega)
              apply h17
              simp +decide only [nlt200 (a := a) (by omega), within_iff, in_iff, all_eq, bz_0, bz_1, bzT, bzF, nem, bz_or, i64, Int32.reduceToInt, Int64.reduceToInt, and_true, true_and, and_self, not_true_eq_false, not_false_eq_true, false_implies, true_implies, eq_self, implies_true, false_and, and_false, Classical.not_not, Int.reduceLT, Int.reduceLE, Int.reduceEq, reduceIte, reduceCtorEq, and_imp, imp_false, false_or, or_false, true_or, or_true]
              refine inner a (by omega) ih 201 0 (by omega) x ?_
              rw [cnB_0 (ro_b ok a).1.1]; omega
          exact outer 201 0 (by omega) 0 (show (0 : Int32).toInt = 0 by decide)
      · simp +decide only [P_X10_tray, P_X10_trayRefusal, has_iff _ _ _ hm, weightX_iff, h1, h2, h3, within_iff, in_iff, all_eq, bz_0, bz_1, bzT, bzF, nem, bz_or, i64, Int32.reduceToInt, Int64.reduceToInt, and_true, true_and, and_self, not_true_eq_false, not_false_eq_true, false_implies, true_implies, eq_self, implies_true, false_and, and_false, Classical.not_not, Int.reduceLT, Int.reduceLE, Int.reduceEq, reduceIte, reduceCtorEq, and_imp, imp_false, false_or, or_false, true_or, or_true]
        unfold P_X11_tray
        intro X17 X33 h17 h33
        simp +decide only [P_X11_mayTray, isKind_iff _ _ _ hm, weight_iff, h1, h2, h3, within_iff, in_iff, all_eq, bz_0, bz_1, bzT, bzF, nem, bz_or, i64, Int32.reduceToInt, Int64.reduceToInt, and_true, true_and, and_self, not_true_eq_false, not_false_eq_true, false_implies, true_implies, eq_self, implies_true, false_and, and_false, Classical.not_not, Int.reduceLT, Int.reduceLE, Int.reduceEq, reduceIte, reduceCtorEq, and_imp, imp_false, false_or, or_false, true_or, or_true]
        apply h17
        simp +decide only [within_iff, in_iff, all_eq, bz_0, bz_1, bzT, bzF, nem, bz_or, i64, Int32.reduceToInt, Int64.reduceToInt, and_true, true_and, and_self, not_true_eq_false, not_false_eq_true, false_implies, true_implies, eq_self, implies_true, false_and, and_false, Classical.not_not, Int.reduceLT, Int.reduceLE, Int.reduceEq, reduceIte, reduceCtorEq, and_imp, imp_false, false_or, or_false, true_or, or_true]
        exact hC
    · simp +decide only [P_X10_tray, P_X10_trayRefusal, has_iff _ _ _ hm, h1, h2, within_iff, in_iff, all_eq, bz_0, bz_1, bzT, bzF, nem, bz_or, i64, Int32.reduceToInt, Int64.reduceToInt, and_true, true_and, and_self, not_true_eq_false, not_false_eq_true, false_implies, true_implies, eq_self, implies_true, false_and, and_false, Classical.not_not, Int.reduceLT, Int.reduceLE, Int.reduceEq, reduceIte, reduceCtorEq, and_imp, imp_false, false_or, or_false, true_or, or_true]
      unfold P_X11_tray
      intro X17 X33 h17 h33
      simp +decide only [P_X11_mayTray, isKind_iff _ _ _ hm, h1, h2, within_iff, in_iff, all_eq, bz_0, bz_1, bzT, bzF, nem, bz_or, i64, Int32.reduceToInt, Int64.reduceToInt, and_true, true_and, and_self, not_true_eq_false, not_false_eq_true, false_implies, true_implies, eq_self, implies_true, false_and, and_false, Classical.not_not, Int.reduceLT, Int.reduceLE, Int.reduceEq, reduceIte, reduceCtorEq, and_imp, imp_false, false_or, or_false, true_or, or_true]
      apply h17
      simp +decide only [within_iff, in_iff, all_eq, bz_0, bz_1, bzT, bzF, nem, bz_or, i64, Int32.reduceToInt, Int64.reduceToInt, and_true, true_and, and_self, not_true_eq_false, not_false_eq_true, false_implies, true_implies, eq_self, implies_true, false_and, and_false, Classical.not_not, Int.reduceLT, Int.reduceLE, Int.reduceEq, reduceIte, reduceCtorEq, and_imp, imp_false, false_or, or_false, true_or, or_true]
      exact hC
  · simp +decide only [P_X10_tray, P_X10_trayRefusal, has_iff _ _ _ hm, h1, within_iff, in_iff, all_eq, bz_0, bz_1, bzT, bzF, nem, bz_or, i64, Int32.reduceToInt, Int64.reduceToInt, and_true, true_and, and_self, not_true_eq_false, not_false_eq_true, false_implies, true_implies, eq_self, implies_true, false_and, and_false, Classical.not_not, Int.reduceLT, Int.reduceLE, Int.reduceEq, reduceIte, reduceCtorEq, and_imp, imp_false, false_or, or_false, true_or, or_true]
    unfold P_X11_tray
    intro X17 X33 h17 h33
    simp +decide only [P_X11_mayTray, isKind_iff _ _ _ hm, h1, within_iff, in_iff, all_eq, bz_0, bz_1, bzT, bzF, nem, bz_or, i64, Int32.reduceToInt, Int64.reduceToInt, and_true, true_and, and_self, not_true_eq_false, not_false_eq_true, false_implies, true_implies, eq_self, implies_true, false_and, and_false, Classical.not_not, Int.reduceLT, Int.reduceLE, Int.reduceEq, reduceIte, reduceCtorEq, and_imp, imp_false, false_or, or_false, true_or, or_true]
    apply h17
    simp +decide only [within_iff, in_iff, all_eq, bz_0, bz_1, bzT, bzF, nem, bz_or, i64, Int32.reduceToInt, Int64.reduceToInt, and_true, true_and, and_self, not_true_eq_false, not_false_eq_true, false_implies, true_implies, eq_self, implies_true, false_and, and_false, Classical.not_not, Int.reduceLT, Int.reduceLE, Int.reduceEq, reduceIte, reduceCtorEq, and_imp, imp_false, false_or, or_false, true_or, or_true]
    exact hC
theorem pairAt_i {post : Int32 → Prop} {lo hi : Nat → Int32} {p1 p2 p3 p4 p5 : Int32} (ok : trOk lo hi p1 p2 p3 p4) (h5 : 0 ≤ p5.toInt) (X2 : Int32 → Int32 → Prop) (hend : ∀ x : Int32, 0 ≤ x.toInt → X2 x (nI 201) → post (-9)) (h0 : X2 p5 0)
    (hrow : ∀ a : Nat, a ≤ 200 → ∀ x : Int32, 0 ≤ x.toInt → X2 x (nI a) → (cnB (roF lo hi p1 p2 p3 p4 a) (roM lo hi p1 p2 p3 p4 a) 201 ≤ x.toInt → ∀ y : Int32, y.toInt = x.toInt - cnB (roF lo hi p1 p2 p3 p4 a) (roM lo hi p1 p2 p3 p4 a) 201 → X2 y (nI (a + 1))) ∧ (x.toInt < cnB (roF lo hi p1 p2 p3 p4 a) (roM lo hi p1 p2 p3 p4 a) 201 → ∀ v : Int32, v.toInt = 1000 * a + roF lo hi p1 p2 p3 p4 a + x.toInt → post v)) : P_X4_pairAt post p1 p2 p3 p4 p5 lo hi := by
  unfold P_X4_pairAt
  intro X hX
  have g5 : (0 : Int32) ≤ p5 := by rw [fa_le]; exact h5
  have e1000 : (1000 : Int32).toInt = 1000 := by decide
  have key : ∀ m a : Nat, a + m = 201 → ∀ x : Int32, 0 ≤ x.toInt → X2 x (nI a) → X x (nI a) := by
    intro m
    induction m with
    | zero =>
      intro a ha x hx h2
      have e : a = 201 := by omega
      subst e
      apply hX
      simp +decide only [lt200, within_iff, in_iff, all_eq, bz_0, bz_1, bzT, bzF, nem, bz_or, i64, Int32.reduceToInt, Int64.reduceToInt, and_true, true_and, and_self, not_true_eq_false, not_false_eq_true, false_implies, true_implies, eq_self, implies_true, false_and, and_false, Classical.not_not, Int.reduceLT, Int.reduceLE, Int.reduceEq, reduceIte, reduceCtorEq, and_imp, imp_false, false_or, or_false, true_or, or_true]
      exact hend x hx h2
    | succ m ih =>
      intro a ha x hx h2
      have ih := ih (a + 1) (by omega)
      obtain ⟨b1, b2⟩ := ro_b ok a
      have c1 := cnB_b (M := roM lo hi p1 p2 p3 p4 a) b1.1 201
      obtain ⟨r1, r2⟩ := hrow a (by omega) x hx h2
      have ea : (nI a).toInt = a := nI_toInt (by omega)
      apply hX
      simp +decide only [nlt200 (a := a) (by omega), nI_1 a, within_iff, in_iff, all_eq, bz_0, bz_1, bzT, bzF, nem, bz_or, i64, Int32.reduceToInt, Int64.reduceToInt, and_true, true_and, and_self, not_true_eq_false, not_false_eq_true, false_implies, true_implies, eq_self, implies_true, false_and, and_false, Classical.not_not, Int.reduceLT, Int.reduceLE, Int.reduceEq, reduceIte, reduceCtorEq, and_imp, imp_false, false_or, or_false, true_or, or_true]
      refine fewestBeside_i ok (by omega) (fun f hf => mostBeside_i ok (by omega) (fun g hg => ?_))
      have e := row_c (F := roF lo hi p1 p2 p3 p4 a) (M := roM lo hi p1 p2 p3 p4 a) hf hg b1 b2
      have ef : f.toInt = roF lo hi p1 p2 p3 p4 a := hf
      refine ⟨fun q => ?_, fun q => ?_⟩
      · rw [fa_le, e] at q
        have es : (x - (if 0 < g - f + 1 then g - f + 1 else 0)).toInt = x.toInt - cnB (roF lo hi p1 p2 p3 p4 a) (roM lo hi p1 p2 p3 p4 a) 201 := by
          have := fb_rng x
          rw [fb_subI (by omega) (by omega), e]
        exact ih _ (by omega) (r1 q _ es)
      · rw [fa_le, e] at q
        have hlt : x.toInt < cnB (roF lo hi p1 p2 p3 p4 a) (roM lo hi p1 p2 p3 p4 a) 201 := by omega
        refine r2 hlt _ ?_
        have m1 : (1000 * nI a).toInt = 1000 * a := by rw [mul_c (by decide) (by decide) (by omega) (by omega), e1000, ea]
        have m2 : (1000 * nI a + f).toInt = 1000 * a + roF lo hi p1 p2 p3 p4 a := by rw [fb_addI (by omega) (by omega), m1, ef]
        rw [fb_addI (by omega) (by omega), m2]
  simp +decide only [g5, within_iff, in_iff, all_eq, bz_0, bz_1, bzT, bzF, nem, bz_or, i64, Int32.reduceToInt, Int64.reduceToInt, and_true, true_and, and_self, not_true_eq_false, not_false_eq_true, false_implies, true_implies, eq_self, implies_true, false_and, and_false, Classical.not_not, Int.reduceLT, Int.reduceLE, Int.reduceEq, reduceIte, reduceCtorEq, and_imp, imp_false, false_or, or_false, true_or, or_true]
  exact key 201 0 (by omega) p5 h5 h0
end trayE
