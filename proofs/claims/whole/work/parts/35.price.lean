/-- what a PIECE and a FIND cost: place by place -/
def stv (a b acc : Int32) (k : Int32 → Int32) : Int32 := if a = -9 then k (acc + 10) else if b = -9 then k (acc + 10) else if a = b then k acc else -9
def absw (x : Int32) : Int32 := if 0 ≤ x then x else -x
def prc (sg wt : Nat → Int32) (p f : Nat) : Int32 := if absw (wt p - wt (8 + f)) ≤ 20 then stv (sg (3 * p)) (sg (24 + 3 * f)) (absw (wt p - wt (8 + f))) (fun x => stv (sg (3 * p + 1)) (sg (24 + 3 * f + 1)) x (fun x => stv (sg (3 * p + 2)) (sg (24 + 3 * f + 2)) x (fun x => x))) else -9
theorem stv_go {a b acc : Int32} {k : Int32 → Int32} {post : Int32 → Prop} {X : Int32 → Prop} (h : post (stv a b acc k)) (hk : ∀ x, post (k x) → X x) : (a = -9 → X (acc + 10)) ∧ (¬ a = -9 → ((b = -9 → X (acc + 10)) ∧ (¬ b = -9 → ((a = b → X acc) ∧ (¬ a = b → post (-9)))))) := by
  unfold stv at h
  refine ⟨fun e => hk _ (by rw [if_pos e] at h; exact h), fun e => ⟨fun e2 => hk _ (by rw [if_neg e, if_pos e2] at h; exact h), fun e2 => ⟨fun e3 => hk _ (by rw [if_neg e, if_neg e2, if_pos e3] at h; exact h), fun e3 => by rw [if_neg e, if_neg e2, if_neg e3] at h; exact h⟩⟩⟩
theorem place_no {p x : Int32} {i : Nat} (h : 0 ≤ p.toInt ∧ p.toInt ≤ 7) (hx : x.toInt = i) (hi : i ≤ 2) : (p * 3 + x).toNatClampNeg = 3 * p.toInt.toNat + i ∧ vp_in (p * 3 + x) 48 ∧ p * 3 = 3 * p := by
  obtain ⟨a1, -, -, a4⟩ := row_no (v := p) (by omega)
  have e : (p * 3 + x).toInt = p.toInt * 3 + i := by rw [fb_addI (by omega) (by omega), a1, hx]
  refine ⟨by rw [cl]; omega, vp_in_iff.mpr (by omega), a4⟩
theorem place_no2 {f x : Int32} {i : Nat} (h : 0 ≤ f.toInt ∧ f.toInt ≤ 7) (hx : x.toInt = i) (hi : i ≤ 2) : ((8 + f) * 3 + x).toNatClampNeg = 24 + 3 * f.toInt.toNat + i ∧ vp_in ((8 + f) * 3 + x) 48 ∧ (8 + f) * 3 = 24 + 3 * f ∧ (8 + f).toInt = 8 + f.toInt := by
  have e8 : (8 : Int32).toInt = 8 := by decide
  have e24 : (24 : Int32).toInt = 24 := by decide
  have e3 : (3 : Int32).toInt = 3 := by decide
  have b1 : (8 + f).toInt = 8 + f.toInt := by rw [fb_addI (by omega) (by omega), e8]
  obtain ⟨a1, -, -, -⟩ := row_no (v := 8 + f) (by omega)
  have e : ((8 + f) * 3 + x).toInt = (8 + f.toInt) * 3 + i := by rw [fb_addI (by omega) (by omega), a1, hx, b1]
  have b2 : (3 * f).toInt = 3 * f.toInt := by rw [mul_c (by decide) (by decide) (by omega) (by omega), e3]
  have b3 : (24 + 3 * f).toInt = 24 + 3 * f.toInt := by rw [fb_addI (by omega) (by omega), e24, b2]
  refine ⟨by rw [cl]; omega, vp_in_iff.mpr (by omega), by rw [fa_eq, a1, b3, b1]; omega, b1⟩
theorem price_i {post : Int32 → Prop} {p1 p2 : Int32} {sg wt : Nat → Int32} (h1 : 0 ≤ p1.toInt ∧ p1.toInt ≤ 7) (h2 : 0 ≤ p2.toInt ∧ p2.toInt ≤ 7) (h : post (prc sg wt p1.toInt.toNat p2.toInt.toNat)) : P_X5_price post p1 p2 sg wt := by
  obtain ⟨-, -, -, b8⟩ := place_no2 (f := p2) (x := 0) (i := 0) h2 (by decide) (by omega)
  have n1 : p1.toNatClampNeg = p1.toInt.toNat := rfl
  have n2 : (8 + p2).toNatClampNeg = 8 + p2.toInt.toNat := by rw [cl]; omega
  have v1 : vp_in p1 16 := vp_in_iff.mpr (by omega)
  have v2 : vp_in (8 + p2) 16 := vp_in_iff.mpr (by omega)
  unfold P_X5_price
  intro X hX
  have l3 : ∀ x, post x → X x 3 := fun x hp => hX x 3 ⟨fun _ => hp, fun q => absurd (by decide) q⟩
  have lev : ∀ (x5 x6 : Int32) (i : Nat), x5.toInt = i → i ≤ 2 → x5 + 1 = x6 → ∀ k : Int32 → Int32, (∀ x, post (k x) → X x x6) → ∀ x, post (stv (sg (3 * p1.toInt.toNat + i)) (sg (24 + 3 * p2.toInt.toNat + i)) x k) → X x x5 := by
    intro x5 x6 i hx hi h6 k hk x hp
    obtain ⟨c1, c2, -⟩ := place_no h1 hx hi
    obtain ⟨d1, d2, -⟩ := place_no2 h2 hx hi
    have hn : ¬ (3 : Int32) ≤ x5 := by
      rw [fa_le]
      have : (3 : Int32).toInt = 3 := by decide
      omega
    apply hX
    simp +decide only [hn, c2, d2, c1, d1, h6, within_iff, in_iff, all_eq, bz_0, bz_1, bzT, bzF, nem, bz_or, i64, Int32.reduceToInt, Int64.reduceToInt, and_true, true_and, and_self, not_true_eq_false, not_false_eq_true, false_implies, true_implies, eq_self, implies_true, false_and, and_false, Classical.not_not, Int.reduceLT, Int.reduceLE, Int.reduceEq, reduceIte, reduceCtorEq, and_imp, imp_false, false_or, or_false, true_or, or_true]
    have := stv_go hp hk
    simpa only [imp_false] using this
  have l2 := lev 2 3 2 (by decide) (by omega) (by decide) (fun x => x) l3
  have l1 := lev 1 2 1 (by decide) (by omega) (by decide) _ l2
  have l0 := lev 0 1 0 (by decide) (by omega) (by decide) _ l1
  unfold prc at h
  have ea : ∀ z : Int32, (if 0 ≤ z then z else 0 - z) = absw z := fun z => by unfold absw; rw [Int32.zero_sub]
  simp +decide only [v1, v2, ea, n1, n2, within_iff, in_iff, all_eq, bz_0, bz_1, bzT, bzF, nem, bz_or, i64, Int32.reduceToInt, Int64.reduceToInt, and_true, true_and, and_self, not_true_eq_false, not_false_eq_true, false_implies, true_implies, eq_self, implies_true, false_and, and_false, Classical.not_not, Int.reduceLT, Int.reduceLE, Int.reduceEq, reduceIte, reduceCtorEq, and_imp, imp_false, false_or, or_false, true_or, or_true]
  refine ⟨fun q => ?_, fun q => ?_⟩
  · rw [if_pos q] at h; exact l0 _ h
  · rw [if_neg q] at h; exact h
theorem costOf_i {post : Int32 → Prop} {p1 p2 : Int32} {sg wt : Nat → Int32} (h1 : 0 ≤ p1.toInt ∧ p1.toInt ≤ 7) (h2 : 0 ≤ p2.toInt ∧ p2.toInt ≤ 7) (h : post (prc sg wt p1.toInt.toNat p2.toInt.toNat)) : P_X11_costOf post p1 p2 sg wt := by
  obtain ⟨-, -, -, b8⟩ := place_no2 (f := p2) (x := 0) (i := 0) h2 (by decide) (by omega)
  have n1 : p1.toNatClampNeg = p1.toInt.toNat := rfl
  have n2 : (8 + p2).toNatClampNeg = 8 + p2.toInt.toNat := by rw [cl]; omega
  have v1 : vp_in p1 16 := vp_in_iff.mpr (by omega)
  have v2 : vp_in (8 + p2) 16 := vp_in_iff.mpr (by omega)
  unfold P_X11_costOf
  intro X hX
  have l3 : ∀ x, post x → X x 3 := fun x hp => hX x 3 ⟨fun _ => hp, fun q => absurd (by decide) q⟩
  have lev : ∀ (x5 x6 : Int32) (i : Nat), x5.toInt = i → i ≤ 2 → x5 + 1 = x6 → ∀ k : Int32 → Int32, (∀ x, post (k x) → X x x6) → ∀ x, post (stv (sg (3 * p1.toInt.toNat + i)) (sg (24 + 3 * p2.toInt.toNat + i)) x k) → X x x5 := by
    intro x5 x6 i hx hi h6 k hk x hp
    obtain ⟨c1, c2, c3⟩ := place_no h1 hx hi
    obtain ⟨d1, d2, d3, -⟩ := place_no2 h2 hx hi
    rw [c3] at c1 c2
    rw [d3] at d1 d2
    have hn : ¬ (3 : Int32) ≤ x5 := by
      rw [fa_le]
      have : (3 : Int32).toInt = 3 := by decide
      omega
    apply hX
    simp +decide only [hn, c2, d2, c1, d1, h6, within_iff, in_iff, all_eq, bz_0, bz_1, bzT, bzF, nem, bz_or, i64, Int32.reduceToInt, Int64.reduceToInt, and_true, true_and, and_self, not_true_eq_false, not_false_eq_true, false_implies, true_implies, eq_self, implies_true, false_and, and_false, Classical.not_not, Int.reduceLT, Int.reduceLE, Int.reduceEq, reduceIte, reduceCtorEq, and_imp, imp_false, false_or, or_false, true_or, or_true]
    have := stv_go hp hk
    simpa only [imp_false] using this
  have l2 := lev 2 3 2 (by decide) (by omega) (by decide) (fun x => x) l3
  have l1 := lev 1 2 1 (by decide) (by omega) (by decide) _ l2
  have l0 := lev 0 1 0 (by decide) (by omega) (by decide) _ l1
  unfold prc at h
  have ea : ∀ z : Int32, (if 0 ≤ z then z else -z) = absw z := fun z => rfl
  simp +decide only [v1, v2, ea, n1, n2, within_iff, in_iff, all_eq, bz_0, bz_1, bzT, bzF, nem, bz_or, i64, Int32.reduceToInt, Int64.reduceToInt, and_true, true_and, and_self, not_true_eq_false, not_false_eq_true, false_implies, true_implies, eq_self, implies_true, false_and, and_false, Classical.not_not, Int.reduceLT, Int.reduceLE, Int.reduceEq, reduceIte, reduceCtorEq, and_imp, imp_false, false_or, or_false, true_or, or_true]
  refine ⟨fun q => ?_, fun q => ?_⟩
  · rw [if_pos q] at h; exact l0 _ h
  · rw [if_neg q] at h; exact h
theorem eq_cost {C : Prop} {mk_sign mk_weight : Nat → Int32} {mk_pieces mk_finds : Int32} {m_marked m_signs m_weights : Nat → Int32} (hR : RM mk_sign mk_weight mk_pieces mk_finds m_marked m_signs m_weights) (hC : C) (p1 p2 : Int32) :
    P_X10_cost (fun r => P_X11_cost (fun r2 => ((r = r2 → C) ∧ (¬ r = r2 → False))) p1 p2 m_marked m_signs m_weights) p1 p2 mk_sign mk_weight mk_pieces mk_finds := by
  obtain ⟨⟨rfl, rfl, rfl, rfl⟩, z0, z1, hp, hf⟩ := hR
  have e1 : (m_marked 0 - 1).toInt = (m_marked 0).toInt - 1 := sub1 (by omega)
  have e2 : (m_marked 1 - 1).toInt = (m_marked 1).toInt - 1 := sub1 (by omega)
  by_cases h1 : 0 ≤ p1.toInt ∧ p1.toInt ≤ (m_marked 0).toInt - 1
  · by_cases h2 : 0 ≤ p2.toInt ∧ p2.toInt ≤ (m_marked 1).toInt - 1
    · simp +decide only [P_X10_cost, P_X10_isPiece, e1, e2, h1, h2, within_iff, in_iff, all_eq, bz_0, bz_1, bzT, bzF, nem, bz_or, i64, Int32.reduceToInt, Int64.reduceToInt, and_true, true_and, and_self, not_true_eq_false, not_false_eq_true, false_implies, true_implies, eq_self, implies_true, false_and, and_false, Classical.not_not, Int.reduceLT, Int.reduceLE, Int.reduceEq, reduceIte, reduceCtorEq, and_imp, imp_false, false_or, or_false, true_or, or_true]
      refine price_i (by omega) (by omega) ?_
      simp +decide only [P_X11_cost, v02, v12, c0, c1, e1, e2, h1, h2, within_iff, in_iff, all_eq, bz_0, bz_1, bzT, bzF, nem, bz_or, i64, Int32.reduceToInt, Int64.reduceToInt, and_true, true_and, and_self, not_true_eq_false, not_false_eq_true, false_implies, true_implies, eq_self, implies_true, false_and, and_false, Classical.not_not, Int.reduceLT, Int.reduceLE, Int.reduceEq, reduceIte, reduceCtorEq, and_imp, imp_false, false_or, or_false, true_or, or_true]
      refine costOf_i (by omega) (by omega) ?_
      simp +decide only [within_iff, in_iff, all_eq, bz_0, bz_1, bzT, bzF, nem, bz_or, i64, Int32.reduceToInt, Int64.reduceToInt, and_true, true_and, and_self, not_true_eq_false, not_false_eq_true, false_implies, true_implies, eq_self, implies_true, false_and, and_false, Classical.not_not, Int.reduceLT, Int.reduceLE, Int.reduceEq, reduceIte, reduceCtorEq, and_imp, imp_false, false_or, or_false, true_or, or_true]
      exact hC
    · simp +decide only [P_X10_cost, P_X10_isPiece, P_X11_cost, v02, v12, c0, c1, e1, e2, h1, h2, within_iff, in_iff, all_eq, bz_0, bz_1, bzT, bzF, nem, bz_or, i64, Int32.reduceToInt, Int64.reduceToInt, and_true, true_and, and_self, not_true_eq_false, not_false_eq_true, false_implies, true_implies, eq_self, implies_true, false_and, and_false, Classical.not_not, Int.reduceLT, Int.reduceLE, Int.reduceEq, reduceIte, reduceCtorEq, and_imp, imp_false, false_or, or_false, true_or, or_true]
      exact hC
  · simp +decide only [P_X10_cost, P_X10_isPiece, P_X11_cost, v02, v12, c0, c1, e1, e2, h1, within_iff, in_iff, all_eq, bz_0, bz_1, bzT, bzF, nem, bz_or, i64, Int32.reduceToInt, Int64.reduceToInt, and_true, true_and, and_self, not_true_eq_false, not_false_eq_true, false_implies, true_implies, eq_self, implies_true, false_and, and_false, Classical.not_not, Int.reduceLT, Int.reduceLE, Int.reduceEq, reduceIte, reduceCtorEq, and_imp, imp_false, false_or, or_false, true_or, or_true]
    exact hC
