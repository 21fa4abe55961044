/-- LOTS and CREW alike (the kept PLANS apart) -/
def RPv (pl_values : Nat → Int32) (pl_hands : Int32) (m_plate m_plateFull m_wear m_least : Nat → Int32) (m_crew : Int32) : Prop :=
  m_crew = pl_hands ∧ (0 ≤ pl_hands.toInt ∧ pl_hands.toInt ≤ 4) ∧ ∀ l : Nat, l < 4 → (pl_values (4 * l) = m_plate l ∧ pl_values (4 * l + 1) = m_plateFull l ∧ pl_values (4 * l + 2) = m_wear l ∧ pl_values (4 * l + 3) = m_least l) ∧ (0 ≤ (m_plate l).toInt ∧ (m_plate l).toInt ≤ 200) ∧ (1 ≤ (m_plateFull l).toInt ∧ (m_plateFull l).toInt ≤ 200) ∧ (0 ≤ (m_wear l).toInt ∧ (m_wear l).toInt ≤ 99) ∧ (0 ≤ (m_least l).toInt ∧ (m_least l).toInt ≤ 100)
theorem lotX_iff (post : Int32 → Prop) (x : Int32) : P_X10_isLot post x ↔ post (bz (0 ≤ x.toInt ∧ x.toInt ≤ 3)) := by
  simp +decide only [P_X10_isLot, within_iff, in_iff, all_eq, bz_0, bz_1, bzT, bzF, nem, bz_or, i64, Int32.reduceToInt, Int64.reduceToInt, and_true, true_and, and_self, not_true_eq_false, not_false_eq_true, false_implies, true_implies, eq_self, implies_true, false_and, and_false, Classical.not_not, Int.reduceLT, Int.reduceLE, Int.reduceEq, reduceIte, reduceCtorEq, and_imp, imp_false, false_or, or_false, true_or, or_true]
theorem lot_iff (post : Int32 → Prop) (x : Int32) : P_X11_isLot post x ↔ post (bz (0 ≤ x.toInt ∧ x.toInt ≤ 3)) := by
  simp +decide only [P_X11_isLot, within_iff, in_iff, all_eq, bz_0, bz_1, bzT, bzF, nem, bz_or, i64, Int32.reduceToInt, Int64.reduceToInt, and_true, true_and, and_self, not_true_eq_false, not_false_eq_true, false_implies, true_implies, eq_self, implies_true, false_and, and_false, Classical.not_not, Int.reduceLT, Int.reduceLE, Int.reduceEq, reduceIte, reduceCtorEq, and_imp, imp_false, false_or, or_false, true_or, or_true]
theorem lot_no {p w : Int32} {i : Nat} (h : 0 ≤ p.toInt ∧ p.toInt ≤ 3) (hw : w.toInt = i) (hi : i ≤ 3) : vp_in (p * 4 + w) 16 ∧ (p * 4 + w).toNatClampNeg = 4 * p.toInt.toNat + i := by
  have e4 : (4 : Int32).toInt = 4 := by decide
  have a1 : (p * 4).toInt = p.toInt * 4 := by rw [mul_c (by omega) (by omega) (by decide) (by decide), e4]
  have a2 : (p * 4 + w).toInt = p.toInt * 4 + i := by rw [fb_addI (by omega) (by omega), a1, hw]
  exact ⟨vp_in_iff.mpr (by omega), by rw [cl]; omega⟩
theorem eq_match {C : Prop} {pl_values : Nat → Int32} {pl_hands : Int32} {m_plate m_plateFull m_wear m_least : Nat → Int32} {m_crew : Int32} (hP : RPv pl_values pl_hands m_plate m_plateFull m_wear m_least m_crew) (hC : C) (p1 p2 p3 : Int32) :
    P_X10_match (fun r => P_X11_match (fun r2 => ((r = r2 → C) ∧ (¬ r = r2 → False))) p1 p2 p3 m_plate) p1 p2 p3 pl_values := by
  obtain ⟨-, -, hl⟩ := hP
  by_cases h1 : 0 ≤ p1.toInt ∧ p1.toInt ≤ 3
  · by_cases h2 : 0 ≤ p2.toInt ∧ p2.toInt ≤ 3
    · by_cases h3 : 0 ≤ p3.toInt ∧ p3.toInt ≤ 200
      · obtain ⟨v1, n1⟩ := lot_no (w := 0) (i := 0) h1 (by decide) (by omega)
        obtain ⟨v2, n2⟩ := lot_no (w := 0) (i := 0) h2 (by decide) (by omega)
        obtain ⟨⟨a1, -⟩, a2, -⟩ := hl p1.toInt.toNat (by omega)
        obtain ⟨⟨b1, -⟩, b2, -⟩ := hl p2.toInt.toNat (by omega)
        have w1 : vp_in p1 4 := vp_in_iff.mpr (by omega)
        have w2 : vp_in p2 4 := vp_in_iff.mpr (by omega)
        have c1 : p1.toNatClampNeg = p1.toInt.toNat := rfl
        have c2 : p2.toNatClampNeg = p2.toInt.toNat := rfl
        have z : ∀ n : Nat, 4 * n + 0 = 4 * n := fun n => rfl
        simp +decide only [P_X10_match, P_X7_apart, lotX_iff, h1, h2, h3, v1, v2, n1, n2, z, a1, b1, P_X11_match, lot_iff, w1, w2, c1, c2, within_iff, in_iff, all_eq, bz_0, bz_1, bzT, bzF, nem, bz_or, i64, Int32.reduceToInt, Int64.reduceToInt, and_true, true_and, and_self, not_true_eq_false, not_false_eq_true, false_implies, true_implies, eq_self, implies_true, false_and, and_false, Classical.not_not, Int.reduceLT, Int.reduceLE, Int.reduceEq, reduceIte, reduceCtorEq, and_imp, imp_false, false_or, or_false, true_or, or_true]
        have ed : (m_plate p1.toInt.toNat - m_plate p2.toInt.toNat).toInt = (m_plate p1.toInt.toNat).toInt - (m_plate p2.toInt.toNat).toInt := fb_subI (by omega) (by omega)
        generalize m_plate p1.toInt.toNat - m_plate p2.toInt.toNat = d at ed
        have en : (-d).toInt = - d.toInt := fb_negI (by omega)
        have e0 : (0 : Int32).toInt = 0 := by decide
        have key : (if p3 < (if 0 ≤ d then d else 0 - d) then (0 : Int32) else 1) = (if p3 < d then 0 else (if p3 < -d then 0 else 1)) := by
          rw [Int32.zero_sub]
          by_cases q : 0 ≤ d
          · rw [if_pos q]
            by_cases q2 : p3 < d
            · rw [if_pos q2, if_pos q2]
            · rw [if_neg q2, if_neg q2, if_neg (by rw [fa_lt, en]; rw [fa_le, e0] at q; omega)]
          · rw [if_neg q]
            have nq : ¬ p3 < d := by rw [fa_lt]; rw [fa_le, e0] at q; omega
            rw [if_neg nq]
        rw [key]
        simp +decide only [within_iff, in_iff, all_eq, bz_0, bz_1, bzT, bzF, nem, bz_or, i64, Int32.reduceToInt, Int64.reduceToInt, and_true, true_and, and_self, not_true_eq_false, not_false_eq_true, false_implies, true_implies, eq_self, implies_true, false_and, and_false, Classical.not_not, Int.reduceLT, Int.reduceLE, Int.reduceEq, reduceIte, reduceCtorEq, and_imp, imp_false, false_or, or_false, true_or, or_true]
        exact hC
      · simp +decide only [P_X10_match, P_X11_match, lotX_iff, lot_iff, h1, h2, h3, within_iff, in_iff, all_eq, bz_0, bz_1, bzT, bzF, nem, bz_or, i64, Int32.reduceToInt, Int64.reduceToInt, and_true, true_and, and_self, not_true_eq_false, not_false_eq_true, false_implies, true_implies, eq_self, implies_true, false_and, and_false, Classical.not_not, Int.reduceLT, Int.reduceLE, Int.reduceEq, reduceIte, reduceCtorEq, and_imp, imp_false, false_or, or_false, true_or, or_true]
        exact hC
    · simp +decide only [P_X10_match, P_X11_match, lotX_iff, lot_iff, h1, h2, within_iff, in_iff, all_eq, bz_0, bz_1, bzT, bzF, nem, bz_or, i64, Int32.reduceToInt, Int64.reduceToInt, and_true, true_and, and_self, not_true_eq_false, not_false_eq_true, false_implies, true_implies, eq_self, implies_true, false_and, and_false, Classical.not_not, Int.reduceLT, Int.reduceLE, Int.reduceEq, reduceIte, reduceCtorEq, and_imp, imp_false, false_or, or_false, true_or, or_true]
      exact hC
  · simp +decide only [P_X10_match, P_X11_match, lotX_iff, lot_iff, h1, within_iff, in_iff, all_eq, bz_0, bz_1, bzT, bzF, nem, bz_or, i64, Int32.reduceToInt, Int64.reduceToInt, and_true, true_and, and_self, not_true_eq_false, not_false_eq_true, false_implies, true_implies, eq_self, implies_true, false_and, and_false, Classical.not_not, Int.reduceLT, Int.reduceLE, Int.reduceEq, reduceIte, reduceCtorEq, and_imp, imp_false, false_or, or_false, true_or, or_true]
    exact hC
/-- how many bits of a set -/
def onF (n : Nat) : Nat := n % 2 + n / 2 % 2 + n / 4 % 2 + n / 8 % 2
theorem ones_d : ∀ n : Nat, n < 16 → (((((nI n) &&& (1 : Int32)) + (((nI n) >>> ((1 : Int32) &&& 31)) &&& (1 : Int32))) + (((nI n) >>> ((2 : Int32) &&& 31)) &&& (1 : Int32))) + (((nI n) >>> ((3 : Int32) &&& 31)) &&& (1 : Int32))) = nI (onF n) := by decide +kernel
theorem ones_i {post : Int32 → Prop} {n : Nat} (hn : n < 16) (h : post (nI (onF n))) : P_X11_ones post (nI n) := by
  unfold P_X11_ones
  rw [ones_d n hn]; exact h
def bcF (p0 : Int32) : Int32 :=
  let y1 := p0 - ((p0.toUInt32 >>> ((1 : Int32).toUInt32 &&& Int32.toUInt32 31)).toInt32 &&& (1431655765 : Int32))
  let y2 := (y1 &&& (858993459 : Int32)) + ((y1.toUInt32 >>> ((2 : Int32).toUInt32 &&& Int32.toUInt32 31)).toInt32 &&& (858993459 : Int32))
  let y3 := (y2 + (y2.toUInt32 >>> ((4 : Int32).toUInt32 &&& Int32.toUInt32 31)).toInt32) &&& (252645135 : Int32)
  let y4 := y3 + (y3.toUInt32 >>> ((8 : Int32).toUInt32 &&& Int32.toUInt32 31)).toInt32
  let y5 := y4 + (y4.toUInt32 >>> ((16 : Int32).toUInt32 &&& Int32.toUInt32 31)).toInt32
  y5 &&& (63 : Int32)
theorem bc_d : ∀ n : Nat, n < 16 → bcF (nI n) = nI (onF n) := by decide +kernel
theorem bit_i {post : Int32 → Prop} {n : Nat} (hn : n < 16) (h : post (nI (onF n))) : P_J6_bitCount_0f7a4 post (nI n) := by
  unfold P_J6_bitCount_0f7a4
  intro y1 e1 y2 e2 y3 e3 y4 e4 y5 e5
  have e : y5 &&& 63 = bcF (nI n) := by subst e1; subst e2; subst e3; subst e4; subst e5; rfl
  rw [e, bc_d n hn]; exact h
/-- the PLATE of a LOT behind a month -/
def nwP (full plate wear : Nat → Int32) (set : Int32) (l : Nat) : Int32 := if 0 < (if (set >>> (nI l &&& 31)) &&& 1 = 1 then full l else plate l) - wear l then (if (set >>> (nI l &&& 31)) &&& 1 = 1 then full l else plate l) - wear l else 0
def blP (full plate wear least : Nat → Int32) (set : Int32) : Nat → Int32
  | 0 => 0
  | l + 1 => blP full plate wear least set l + (if least l ≤ nwP full plate wear set l then 0 else 1)
theorem eq_month {C : (Nat → Int32) → (Nat → Int32) → Prop} {pl_values : Nat → Int32} {pl_hands : Int32} {m_plate m_plateFull m_wear m_least : Nat → Int32} {m_crew : Int32} (hP : RPv pl_values pl_hands m_plate m_plateFull m_wear m_least m_crew) (hC : ∀ a b, RPv a pl_hands b m_plateFull m_wear m_least m_crew → (∀ l : Nat, l < 4 → a (4 * l + 1) = pl_values (4 * l + 1) ∧ a (4 * l + 2) = pl_values (4 * l + 2) ∧ a (4 * l + 3) = pl_values (4 * l + 3)) → C a b) (p1 : Int32) :
    P_X10_month (fun r a => P_X11_month (fun r2 b => ((r = r2 → C a b) ∧ (¬ r = r2 → False))) p1 m_plate m_plateFull m_wear m_least m_crew) p1 pl_values pl_hands := by
  have hP0 := hP
  obtain ⟨rfl, hh, hl⟩ := hP
  have e4 : (4 : Int32).toInt = 4 := by decide
  have em : ∀ x : Int32, (if 0 ≤ x then x else 0) = (if 0 < x then x else 0) := by
    intro x
    by_cases q : 0 < x
    · rw [if_pos q, if_pos (by rw [fa_le]; rw [fa_lt] at q; omega)]
    · rw [if_neg q]; split
      · rename_i q2; rw [fa_eq]; rw [fa_le] at q2; rw [fa_lt] at q; omega
      · rfl
  by_cases h1 : 0 ≤ p1.toInt ∧ p1.toInt ≤ 15
  · obtain ⟨n, en, rfl⟩ : ∃ n : Nat, p1.toInt = n ∧ p1 = nI n := ⟨p1.toInt.toNat, by omega, nI_as (by omega)⟩
    have hn : n < 16 := by omega
    simp +decide only [P_X10_month, h1, within_iff, in_iff, all_eq, bz_0, bz_1, bzT, bzF, nem, bz_or, i64, Int32.reduceToInt, Int64.reduceToInt, and_true, true_and, and_self, not_true_eq_false, not_false_eq_true, false_implies, true_implies, eq_self, implies_true, false_and, and_false, Classical.not_not, Int.reduceLT, Int.reduceLE, Int.reduceEq, reduceIte, reduceCtorEq, and_imp, imp_false, false_or, or_false, true_or, or_true]
    refine bit_i hn ?_
    by_cases h2 : nI (onF n) ≤ m_crew
    · simp +decide only [h2, within_iff, in_iff, all_eq, bz_0, bz_1, bzT, bzF, nem, bz_or, i64, Int32.reduceToInt, Int64.reduceToInt, and_true, true_and, and_self, not_true_eq_false, not_false_eq_true, false_implies, true_implies, eq_self, implies_true, false_and, and_false, Classical.not_not, Int.reduceLT, Int.reduceLE, Int.reduceEq, reduceIte, reduceCtorEq, and_imp, imp_false, false_or, or_false, true_or, or_true]
      unfold P_X7_goBy
      intro X4 hX
      -- what the class holds behind l LOTS
      have hbit : ∀ l : Nat, (if (nI n >>> (nI l &&& 31)) &&& 1 = 1 then (1 : Int32) else 0).toInt = if (nI n >>> (nI l &&& 31)) &&& 1 = 1 then 1 else 0 := fun l => by split <;> decide
      have key : ∀ m l : Nat, l + m = 4 → ∀ v : Nat → Int32, (∀ i : Nat, v i = if i % 4 = 0 ∧ i / 4 < l then nwP m_plateFull m_plate m_wear (nI n) (i / 4) else pl_values i) → X4 (blP m_plateFull m_plate m_wear m_least (nI n) l) (nI l) v := by
        intro m
        induction m with
        | zero =>
          intro l hm v hv
          have e : l = 4 := by omega
          subst e
          apply hX
          have g : (4 : Int32) ≤ nI 4 := by decide
          simp +decide only [g, within_iff, in_iff, all_eq, bz_0, bz_1, bzT, bzF, nem, bz_or, i64, Int32.reduceToInt, Int64.reduceToInt, and_true, true_and, and_self, not_true_eq_false, not_false_eq_true, false_implies, true_implies, eq_self, implies_true, false_and, and_false, Classical.not_not, Int.reduceLT, Int.reduceLE, Int.reduceEq, reduceIte, reduceCtorEq, and_imp, imp_false, false_or, or_false, true_or, or_true]
          generalize hr : blP m_plateFull m_plate m_wear m_least (nI n) 4 = r
          unfold P_X11_month
          intro X33 h33
          simp +decide only [h1, within_iff, in_iff, all_eq, bz_0, bz_1, bzT, bzF, nem, bz_or, i64, Int32.reduceToInt, Int64.reduceToInt, and_true, true_and, and_self, not_true_eq_false, not_false_eq_true, false_implies, true_implies, eq_self, implies_true, false_and, and_false, Classical.not_not, Int.reduceLT, Int.reduceLE, Int.reduceEq, reduceIte, reduceCtorEq, and_imp, imp_false, false_or, or_false, true_or, or_true]
          refine ones_i hn ?_
          simp +decide only [h2, within_iff, in_iff, all_eq, bz_0, bz_1, bzT, bzF, nem, bz_or, i64, Int32.reduceToInt, Int64.reduceToInt, and_true, true_and, and_self, not_true_eq_false, not_false_eq_true, false_implies, true_implies, eq_self, implies_true, false_and, and_false, Classical.not_not, Int.reduceLT, Int.reduceLE, Int.reduceEq, reduceIte, reduceCtorEq, and_imp, imp_false, false_or, or_false, true_or, or_true]
          have mkey : ∀ m l : Nat, l + m = 4 → ∀ pt : Nat → Int32, (∀ i : Nat, pt i = if i < l then nwP m_plateFull m_plate m_wear (nI n) i else m_plate i) → X33 (blP m_plateFull m_plate m_wear m_least (nI n) l) (nI l) pt := by
            intro m
            induction m with
            | zero =>
              intro l hm pt hpt
              have e : l = 4 := by omega
              subst e
              apply h33
              simp +decide only [g, hr, within_iff, in_iff, all_eq, bz_0, bz_1, bzT, bzF, nem, bz_or, i64, Int32.reduceToInt, Int64.reduceToInt, and_true, true_and, and_self, not_true_eq_false, not_false_eq_true, false_implies, true_implies, eq_self, implies_true, false_and, and_false, Classical.not_not, Int.reduceLT, Int.reduceLE, Int.reduceEq, reduceIte, reduceCtorEq, and_imp, imp_false, false_or, or_false, true_or, or_true]
              refine hC _ _ ⟨rfl, hh, fun l hl4 => ?_⟩ (fun l hl4 => ?_)
              · obtain ⟨⟨a1, a2, a3, a4⟩, b1, b2, b3, b4⟩ := hl l hl4
                have d0 : v (4 * l) = nwP m_plateFull m_plate m_wear (nI n) l := by
                  rw [hv, if_pos (by omega)]; congr 1; omega
                have d1 : v (4 * l + 1) = pl_values (4 * l + 1) := by rw [hv, if_neg (by omega)]
                have d2 : v (4 * l + 2) = pl_values (4 * l + 2) := by rw [hv, if_neg (by omega)]
                have d3 : v (4 * l + 3) = pl_values (4 * l + 3) := by rw [hv, if_neg (by omega)]
                rw [d0, d1, d2, d3, hpt, if_pos hl4]
                refine ⟨⟨rfl, a2, a3, a4⟩, ?_, b2, b3, b4⟩
                have st : ∀ s : Int32, 0 ≤ s.toInt ∧ s.toInt ≤ 200 → 0 ≤ (if 0 < s - m_wear l then s - m_wear l else 0).toInt ∧ (if 0 < s - m_wear l then s - m_wear l else 0).toInt ≤ 200 := by
                  intro s hs
                  have es : (s - m_wear l).toInt = s.toInt - (m_wear l).toInt := fb_subI (by omega) (by omega)
                  have e0 : (0 : Int32).toInt = 0 := by decide
                  split
                  · rename_i q; rw [fa_lt, e0] at q; omega
                  · rw [e0]; omega
                unfold nwP
                refine st _ ?_
                split
                · omega
                · exact b1
              · exact ⟨by rw [hv, if_neg (by omega)], by rw [hv, if_neg (by omega)], by rw [hv, if_neg (by omega)]⟩
            | succ m ih =>
              intro l hm pt hpt
              have ih := ih (l + 1) (by omega)
              apply h33
              have gl : ¬ (4 : Int32) ≤ nI l := by rw [fa_le, e4, nI_toInt (by omega)]; omega
              have vl : vp_in (nI l) 4 := vp_in_nI (by omega) (by omega)
              have cl2 : (nI l).toNatClampNeg = l := nI_clamp (by omega)
              have pl0 : pt l = m_plate l := by rw [hpt, if_neg (by omega)]
              simp +decide only [gl, vl, cl2, nI_1 l, em, pl0, within_iff, in_iff, all_eq, bz_0, bz_1, bzT, bzF, nem, bz_or, i64, Int32.reduceToInt, Int64.reduceToInt, and_true, true_and, and_self, not_true_eq_false, not_false_eq_true, false_implies, true_implies, eq_self, implies_true, false_and, and_false, Classical.not_not, Int.reduceLT, Int.reduceLE, Int.reduceEq, reduceIte, reduceCtorEq, and_imp, imp_false, false_or, or_false, true_or, or_true]
              have eu : (upd pt l (nwP m_plateFull m_plate m_wear (nI n) l)) l = nwP m_plateFull m_plate m_wear (nI n) l := by rw [upd_at, if_pos rfl]
              have := ih (upd pt l (nwP m_plateFull m_plate m_wear (nI n) l)) (fun i => by
                rw [upd_at]
                by_cases q : i = l
                · rw [if_pos q, if_pos (by omega), q]
                · rw [if_neg q, hpt]
                  by_cases q2 : i < l
                  · rw [if_pos q2, if_pos (by omega)]
                  · rw [if_neg q2, if_neg (by omega)])
              rw [blP] at this
              have hcond : (if m_least l ≤ (upd pt l (nwP m_plateFull m_plate m_wear (nI n) l)) l then (0 : Int32) else 1) = (if m_least l ≤ nwP m_plateFull m_plate m_wear (nI n) l then 0 else 1) := by rw [eu]
              rw [← hcond] at this
              exact this
          exact mkey 4 0 (by omega) m_plate (fun i => by rw [if_neg (by omega)])
        | succ m ih =>
          intro l hm v hv
          have ih := ih (l + 1) (by omega)
          obtain ⟨⟨a1, a2, a3, a4⟩, -⟩ := hl l (by omega)
          have gl : ¬ (4 : Int32) ≤ nI l := by rw [fa_le, e4, nI_toInt (by omega)]; omega
          have il : (nI l).toInt = l := nI_toInt (by omega)
          have it : (nI l).toInt.toNat = l := by omega
          obtain ⟨v0, n0⟩ := lot_no (p := nI l) (w := 0) (i := 0) (by omega) (by decide) (by omega)
          obtain ⟨v1, n1⟩ := lot_no (p := nI l) (w := 1) (i := 1) (by omega) (by decide) (by omega)
          obtain ⟨v2, n2⟩ := lot_no (p := nI l) (w := 2) (i := 2) (by omega) (by decide) (by omega)
          obtain ⟨v3, n3⟩ := lot_no (p := nI l) (w := 3) (i := 3) (by omega) (by decide) (by omega)
          rw [it] at n0 n1 n2 n3
          have z : 4 * l + 0 = 4 * l := rfl
          rw [z] at n0
          have w0 : v (4 * l) = m_plate l := by rw [hv, if_neg (by omega), a1]
          have w1 : v (4 * l + 1) = m_plateFull l := by rw [hv, if_neg (by omega), a2]
          have w2 : v (4 * l + 2) = m_wear l := by rw [hv, if_neg (by omega), a3]
          have w3 : v (4 * l + 3) = m_least l := by rw [hv, if_neg (by omega), a4]
          have nx := ih (upd v (4 * l) (nwP m_plateFull m_plate m_wear (nI n) l)) (fun i => by
            rw [upd_at]
            by_cases q : i = 4 * l
            · rw [if_pos q, if_pos (by omega)]; congr 1; omega
            · rw [if_neg q, hv]
              by_cases q2 : i % 4 = 0 ∧ i / 4 < l
              · rw [if_pos q2, if_pos (by omega)]
              · rw [if_neg q2, if_neg (by omega)])
          rw [blP] at nx
          have u0 : ∀ x : Int32, upd v (4 * l) x (4 * l) = x := fun x => by rw [upd_at, if_pos rfl]
          have u3 : ∀ x : Int32, upd v (4 * l) x (4 * l + 3) = m_least l := fun x => by rw [upd_at, if_neg (by omega), w3]
          apply hX
          by_cases q : (nI n >>> (nI l &&& 31)) &&& 1 = 1
          · have en : nwP m_plateFull m_plate m_wear (nI n) l = (if 0 < m_plateFull l - m_wear l then m_plateFull l - m_wear l else 0) := by unfold nwP; rw [if_pos q]
            rw [en] at nx
            simp +decide only [gl, q, v0, v1, v2, v3, n0, n1, n2, n3, w1, w2, u0, u3, nI_1 l, within_iff, in_iff, all_eq, bz_0, bz_1, bzT, bzF, nem, bz_or, i64, Int32.reduceToInt, Int64.reduceToInt, and_true, true_and, and_self, not_true_eq_false, not_false_eq_true, false_implies, true_implies, eq_self, implies_true, false_and, and_false, Classical.not_not, Int.reduceLT, Int.reduceLE, Int.reduceEq, reduceIte, reduceCtorEq, and_imp, imp_false, false_or, or_false, true_or, or_true]
            exact nx
          · have en : nwP m_plateFull m_plate m_wear (nI n) l = (if 0 < m_plate l - m_wear l then m_plate l - m_wear l else 0) := by unfold nwP; rw [if_neg q]
            rw [en] at nx
            simp +decide only [gl, q, v0, v1, v2, v3, n0, n1, n2, n3, w0, w2, u0, u3, nI_1 l, within_iff, in_iff, all_eq, bz_0, bz_1, bzT, bzF, nem, bz_or, i64, Int32.reduceToInt, Int64.reduceToInt, and_true, true_and, and_self, not_true_eq_false, not_false_eq_true, false_implies, true_implies, eq_self, implies_true, false_and, and_false, Classical.not_not, Int.reduceLT, Int.reduceLE, Int.reduceEq, reduceIte, reduceCtorEq, and_imp, imp_false, false_or, or_false, true_or, or_true]
            exact nx
      exact key 4 0 (by omega) pl_values (fun i => by rw [if_neg (by omega)])
    · simp +decide only [h2, within_iff, in_iff, all_eq, bz_0, bz_1, bzT, bzF, nem, bz_or, i64, Int32.reduceToInt, Int64.reduceToInt, and_true, true_and, and_self, not_true_eq_false, not_false_eq_true, false_implies, true_implies, eq_self, implies_true, false_and, and_false, Classical.not_not, Int.reduceLT, Int.reduceLE, Int.reduceEq, reduceIte, reduceCtorEq, and_imp, imp_false, false_or, or_false, true_or, or_true]
      unfold P_X11_month
      intro X33 h33
      simp +decide only [h1, within_iff, in_iff, all_eq, bz_0, bz_1, bzT, bzF, nem, bz_or, i64, Int32.reduceToInt, Int64.reduceToInt, and_true, true_and, and_self, not_true_eq_false, not_false_eq_true, false_implies, true_implies, eq_self, implies_true, false_and, and_false, Classical.not_not, Int.reduceLT, Int.reduceLE, Int.reduceEq, reduceIte, reduceCtorEq, and_imp, imp_false, false_or, or_false, true_or, or_true]
      refine ones_i hn ?_
      simp +decide only [h2, within_iff, in_iff, all_eq, bz_0, bz_1, bzT, bzF, nem, bz_or, i64, Int32.reduceToInt, Int64.reduceToInt, and_true, true_and, and_self, not_true_eq_false, not_false_eq_true, false_implies, true_implies, eq_self, implies_true, false_and, and_false, Classical.not_not, Int.reduceLT, Int.reduceLE, Int.reduceEq, reduceIte, reduceCtorEq, and_imp, imp_false, false_or, or_false, true_or, or_true]
      exact hC _ _ hP0 (fun _ _ => ⟨rfl, rfl, rfl⟩)
  · simp +decide only [P_X10_month, h1, within_iff, in_iff, all_eq, bz_0, bz_1, bzT, bzF, nem, bz_or, i64, Int32.reduceToInt, Int64.reduceToInt, and_true, true_and, and_self, not_true_eq_false, not_false_eq_true, false_implies, true_implies, eq_self, implies_true, false_and, and_false, Classical.not_not, Int.reduceLT, Int.reduceLE, Int.reduceEq, reduceIte, reduceCtorEq, and_imp, imp_false, false_or, or_false, true_or, or_true]
    unfold P_X11_month
    intro X33 h33
    simp +decide only [h1, within_iff, in_iff, all_eq, bz_0, bz_1, bzT, bzF, nem, bz_or, i64, Int32.reduceToInt, Int64.reduceToInt, and_true, true_and, and_self, not_true_eq_false, not_false_eq_true, false_implies, true_implies, eq_self, implies_true, false_and, and_false, Classical.not_not, Int.reduceLT, Int.reduceLE, Int.reduceEq, reduceIte, reduceCtorEq, and_imp, imp_false, false_or, or_false, true_or, or_true]
    exact hC _ _ hP0 (fun _ _ => ⟨rfl, rfl, rfl⟩)
