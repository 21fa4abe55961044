/-- how many b ahead of n lie from F to M -/
def cnB (F M : Int) (n : Nat) : Int := if F ≤ min ((n : Int) - 1) M then min ((n : Int) - 1) M - F + 1 else 0
theorem cnB_0 {F M : Int} (h : 0 ≤ F) : cnB F M 0 = 0 := by unfold cnB; split <;> omega
theorem cnB_s {F M : Int} (h : 0 ≤ F) (n : Nat) : cnB F M (n + 1) = cnB F M n + if F ≤ n ∧ (n : Int) ≤ M then 1 else 0 := by
  unfold cnB
  by_cases h1 : F ≤ n ∧ (n : Int) ≤ M
  · rw [if_pos h1]; split <;> split <;> omega
  · rw [if_neg h1]; split <;> split <;> omega
/-- the least and the greatest b beside a -/
def trF (less hi1 hi2 : Int) (a : Nat) : Int := if less - a * hi1 ≤ 0 then 0 else (less - a * hi1 + hi2 - 1) / hi2
def trM (more lo1 lo2 : Int) (a : Nat) : Int := min 200 (if more - a * lo1 < 0 then -1 else (more - a * lo1) / lo2)
theorem div_i {x d : Int32} (hx : 0 ≤ x.toInt) (hd : 1 ≤ d.toInt) : (x / d).toInt = x.toInt / d.toInt := by
  obtain ⟨n, hn, rfl⟩ := nI_of (x := x) (by rw [fa_lt]; have : (0 : Int32).toInt = 0 := by decide
                                            omega)
  obtain ⟨m, hm, rfl⟩ := nI_of (x := d) (by rw [fa_lt]; have : (0 : Int32).toInt = 0 := by decide
                                            omega)
  rw [nI_toInt hm] at hd
  rw [pk_div hn (by omega) hm, nI_toInt hn, nI_toInt hm, nI_toInt (Nat.lt_of_le_of_lt (Nat.div_le_self n m) hn)]
  exact Int.natCast_ediv n m
theorem trF_nn {less hi1 hi2 : Int} (h : 1 ≤ hi2) (a : Nat) : 0 ≤ trF less hi1 hi2 a := by
  unfold trF; split
  · omega
  · exact Int.ediv_nonneg (by omega) (by omega)
theorem mul_2k {x y : Int32} (h1 : 0 ≤ x.toInt ∧ x.toInt ≤ 300) (h2 : 1 ≤ y.toInt ∧ y.toInt ≤ 2000) : (x * y).toInt = x.toInt * y.toInt ∧ 0 ≤ x.toInt * y.toInt ∧ x.toInt * y.toInt ≤ 600000 := by
  have a1 := Int.mul_le_mul h1.2 h2.2 (by omega) (by omega)
  have a2 := Int.mul_nonneg h1.1 (show 0 ≤ y.toInt by omega)
  exact ⟨fb_mulI (by omega) (by omega), a2, by omega⟩
section trayM
variable {lo hi : Nat → Int32} {p1 p2 p3 p4 : Int32}
/-- what is given of the two kinds and the weight -/
def trOk (lo hi : Nat → Int32) (p1 p2 p3 p4 : Int32) : Prop :=
  (vp_in p1 6 ∧ vp_in p2 6) ∧ (1 ≤ (lo p1.toNatClampNeg).toInt ∧ (lo p1.toNatClampNeg).toInt ≤ 2000) ∧ (1 ≤ (hi p1.toNatClampNeg).toInt ∧ (hi p1.toNatClampNeg).toInt ≤ 2000) ∧ (1 ≤ (lo p2.toNatClampNeg).toInt ∧ (lo p2.toNatClampNeg).toInt ≤ 2000) ∧ (1 ≤ (hi p2.toNatClampNeg).toInt ∧ (hi p2.toNatClampNeg).toInt ≤ 2000) ∧ (p3 - p4).toInt = p3.toInt - p4.toInt ∧ (p3 + p4).toInt = p3.toInt + p4.toInt ∧ (0 ≤ p3.toInt ∧ p3.toInt ≤ 2000000) ∧ 0 ≤ p4.toInt ∧ p4.toInt ≤ 500
theorem fewestBeside_i {post : Int32 → Prop} (ok : trOk lo hi p1 p2 p3 p4) {a : Nat} (ha : a ≤ 200) (h : ∀ f : Int32, f.toInt = trF (p3.toInt - p4.toInt) (hi p1.toNatClampNeg).toInt (hi p2.toNatClampNeg).toInt a → post f) : P_X4_fewestBeside post p1 (nI a) p2 (p3 - p4) hi := by
  obtain ⟨⟨v1, v2⟩, -, o2, -, o4, ed, es, o7, o8, o9⟩ := ok
  have ea : (nI a).toInt = a := nI_toInt (by omega)
  obtain ⟨m1, m2, m3⟩ := mul_2k (x := nI a) (y := hi p1.toNatClampNeg) (by omega) o2
  have el : (p3 - p4 - nI a * hi p1.toNatClampNeg).toInt = p3.toInt - p4.toInt - a * (hi p1.toNatClampNeg).toInt := by rw [fb_subI (by omega) (by omega), ed, m1, ea]
  refine ⟨v1, fewestReaching_i v2 o4.1 (h _ ?_)⟩
  have e1 : (1 : Int32).toInt = 1 := by decide
  rw [ea] at m2 m3
  unfold fRe trF
  by_cases q : p3.toInt - p4.toInt - a * (hi p1.toNatClampNeg).toInt ≤ 0
  · rw [if_pos (by rw [le0, el]; exact q), if_pos q]; decide
  · rw [if_neg (by rw [le0, el]; exact q), if_neg q]
    have e2 : (p3 - p4 - nI a * hi p1.toNatClampNeg + hi p2.toNatClampNeg).toInt = p3.toInt - p4.toInt - a * (hi p1.toNatClampNeg).toInt + (hi p2.toNatClampNeg).toInt := by rw [fb_addI (by omega) (by omega), el]
    have e3 : (p3 - p4 - nI a * hi p1.toNatClampNeg + hi p2.toNatClampNeg - 1).toInt = p3.toInt - p4.toInt - a * (hi p1.toNatClampNeg).toInt + (hi p2.toNatClampNeg).toInt - 1 := by rw [fb_subI (by omega) (by omega), e2, e1]
    rw [div_i (by omega) o4.1, e3]
theorem mostBeside_i {post : Int32 → Prop} (ok : trOk lo hi p1 p2 p3 p4) {a : Nat} (ha : a ≤ 200) (h : ∀ f : Int32, f.toInt = trM (p3.toInt + p4.toInt) (lo p1.toNatClampNeg).toInt (lo p2.toNatClampNeg).toInt a → post f) : P_X4_mostBeside post p1 (nI a) p2 (p3 + p4) lo := by
  obtain ⟨⟨v1, v2⟩, o1, -, o3, -, ed, es, o7, o8, o9⟩ := ok
  have ea : (nI a).toInt = a := nI_toInt (by omega)
  obtain ⟨m1, m2, m3⟩ := mul_2k (x := nI a) (y := lo p1.toNatClampNeg) (by omega) o1
  have el : (p3 + p4 - nI a * lo p1.toNatClampNeg).toInt = p3.toInt + p4.toInt - a * (lo p1.toNatClampNeg).toInt := by rw [fb_subI (by omega) (by omega), es, m1, ea]
  rw [ea] at m2 m3
  have e200 : (200 : Int32).toInt = 200 := by decide
  have h3 := ne0 o3.1
  have fin : ∀ x : Int32, ∀ z : Int, x.toInt = z → trM (p3.toInt + p4.toInt) (lo p1.toNatClampNeg).toInt (lo p2.toNatClampNeg).toInt a = min 200 z → post (if x < 200 then x else 200) := by
    intro x z hx hz
    refine h _ ?_
    rw [hz]
    by_cases q : x < 200
    · rw [if_pos q]; rw [fa_lt, e200] at q; omega
    · rw [if_neg q]; rw [fa_lt, e200] at q; rw [e200]; omega
  by_cases q : p3.toInt + p4.toInt - a * (lo p1.toNatClampNeg).toInt < 0
  · simp +decide only [P_X4_mostBeside, P_X4_mostWithin, v1, v2, ge1, o3.1, lt0, el, q, within_iff, in_iff, all_eq, bz_0, bz_1, bzT, bzF, nem, bz_or, i64, Int32.reduceToInt, Int64.reduceToInt, and_true, true_and, and_self, not_true_eq_false, not_false_eq_true, false_implies, true_implies, eq_self, implies_true, false_and, and_false, Classical.not_not, Int.reduceLT, Int.reduceLE, Int.reduceEq, reduceIte, reduceCtorEq, and_imp, imp_false, false_or, or_false, true_or, or_true]
    refine fin (-1) (-1) (by decide) ?_
    unfold trM; rw [if_pos q]
  · simp +decide only [P_X4_mostBeside, P_X4_mostWithin, v1, v2, ge1, o3.1, lt0, el, q, h3, within_iff, in_iff, all_eq, bz_0, bz_1, bzT, bzF, nem, bz_or, i64, Int32.reduceToInt, Int64.reduceToInt, and_true, true_and, and_self, not_true_eq_false, not_false_eq_true, false_implies, true_implies, eq_self, implies_true, false_and, and_false, Classical.not_not, Int.reduceLT, Int.reduceLE, Int.reduceEq, reduceIte, reduceCtorEq, and_imp, imp_false, false_or, or_false, true_or, or_true]
    refine fin _ ((p3.toInt + p4.toInt - a * (lo p1.toNatClampNeg).toInt) / (lo p2.toNatClampNeg).toInt) ?_ ?_
    · rw [div_i (by omega) o3.1, el]
    · unfold trM; rw [if_neg q]
/-- the pairs of a row: from F to M -/
theorem pair_iff {less more lo1 lo2 hi1 hi2 : Int} (h1 : 1 ≤ lo2) (h2 : 1 ≤ hi2) (a b : Nat) (hb : b ≤ 200) : (a * lo1 + b * lo2 ≤ more ∧ less ≤ a * hi1 + b * hi2) ↔ (trF less hi1 hi2 a ≤ b ∧ (b : Int) ≤ trM more lo1 lo2 a) := by
  have bl : 0 ≤ (b : Int) * lo2 := Int.mul_nonneg (by omega) (by omega)
  have bh : 0 ≤ (b : Int) * hi2 := Int.mul_nonneg (by omega) (by omega)
  have c1 : a * lo1 + b * lo2 ≤ more ↔ (b : Int) ≤ trM more lo1 lo2 a := by
    unfold trM
    by_cases q : more - a * lo1 < 0
    · rw [if_pos q]; constructor
      · intro h; omega
      · intro h; omega
    · rw [if_neg q]
      have := Int.le_ediv_iff_mul_le (a := (b : Int)) (b := more - a * lo1) (c := lo2) (by omega)
      omega
  have c2 : less ≤ a * hi1 + b * hi2 ↔ trF less hi1 hi2 a ≤ b := by
    unfold trF
    by_cases q : less - a * hi1 ≤ 0
    · rw [if_pos q]; constructor
      · intro h; omega
      · intro h; omega
    · rw [if_neg q]
      have := Int.ediv_lt_iff_lt_mul (a := less - a * hi1 + hi2 - 1) (b := (b : Int) + 1) (c := hi2) (by omega)
      have e : ((b : Int) + 1) * hi2 = b * hi2 + hi2 := by rw [Int.add_mul, Int.one_mul]
      omega
  rw [c1, c2]; exact And.comm
theorem isPair_i {post : Int32 → Prop} (ok : trOk lo hi p1 p2 p3 p4) {a b : Nat} (ha : a ≤ 200) (hb : b ≤ 200) (h : post (bz (trF (p3.toInt - p4.toInt) (hi p1.toNatClampNeg).toInt (hi p2.toNatClampNeg).toInt a ≤ b ∧ (b : Int) ≤ trM (p3.toInt + p4.toInt) (lo p1.toNatClampNeg).toInt (lo p2.toNatClampNeg).toInt a))) : P_X11_isPair post p1 p2 (p3 - p4) (p3 + p4) (nI a) (nI b) lo hi := by
  obtain ⟨⟨v1, v2⟩, o1, o2, o3, o4, ed, es, o7, o8, o9⟩ := ok
  have ea : (nI a).toInt = a := nI_toInt (by omega)
  have eb : (nI b).toInt = b := nI_toInt (by omega)
  obtain ⟨m1, m2, m3⟩ := mul_2k (x := nI a) (y := lo p1.toNatClampNeg) (by omega) o1
  obtain ⟨n1, n2, n3⟩ := mul_2k (x := nI b) (y := lo p2.toNatClampNeg) (by omega) o3
  obtain ⟨k1, k2, k3⟩ := mul_2k (x := nI a) (y := hi p1.toNatClampNeg) (by omega) o2
  obtain ⟨l1, l2, l3⟩ := mul_2k (x := nI b) (y := hi p2.toNatClampNeg) (by omega) o4
  have s1 : (nI a * lo p1.toNatClampNeg + nI b * lo p2.toNatClampNeg).toInt = a * (lo p1.toNatClampNeg).toInt + b * (lo p2.toNatClampNeg).toInt := by rw [fb_addI (by omega) (by omega), m1, n1, ea, eb]
  have s2 : (nI a * hi p1.toNatClampNeg + nI b * hi p2.toNatClampNeg).toInt = a * (hi p1.toNatClampNeg).toInt + b * (hi p2.toNatClampNeg).toInt := by rw [fb_addI (by omega) (by omega), k1, l1, ea, eb]
  have pi := pair_iff (less := p3.toInt - p4.toInt) (more := p3.toInt + p4.toInt) (lo1 := (lo p1.toNatClampNeg).toInt) (hi1 := (hi p1.toNatClampNeg).toInt) o3.1 o4.1 a b hb
  refine ⟨v1, v2, ?_⟩
  intro v hv
  have ev : v = bz (trF (p3.toInt - p4.toInt) (hi p1.toNatClampNeg).toInt (hi p2.toNatClampNeg).toInt a ≤ b ∧ (b : Int) ≤ trM (p3.toInt + p4.toInt) (lo p1.toNatClampNeg).toInt (lo p2.toNatClampNeg).toInt a) := by
    rw [hv]
    by_cases q1 : p3 + p4 < nI a * lo p1.toNatClampNeg + nI b * lo p2.toNatClampNeg
    · rw [if_pos q1, bz_f (fun z => by rw [fa_lt, s1, es] at q1; have := (pi.mpr z).1; omega)]
    · rw [if_neg q1]
      by_cases q2 : nI a * hi p1.toNatClampNeg + nI b * hi p2.toNatClampNeg < p3 - p4
      · rw [if_pos q2, bz_f (fun z => by rw [fa_lt, s2, ed] at q2; have := (pi.mpr z).2; omega)]
      · rw [if_neg q2, bz_t (pi.mp ⟨by rw [fa_lt, s1, es] at q1; omega, by rw [fa_lt, s2, ed] at q2; omega⟩)]
  rw [ev]; exact h
end trayM
