/-- a state: four numbers below 16, four bits each -/
def dgE (E l : Nat) : Nat := E / 2 ^ (4 * l) % 16
theorem sh4 : ∀ l : Nat, l < 4 → (((4 : Int32) * nI l &&& 31).toBitVec.smod 32).toNat = 4 * l := by decide
theorem lastsStill_i {post : Int32 → Prop} {E l : Nat} (hE : E < 65536) (hl : l < 4) (h : post (nI (dgE E l))) : P_X7_lastsStill post (nI E) (nI l) := by
  unfold P_X7_lastsStill
  rw [pk_shrN (by omega) _ (4 * l) (sh4 l hl)]
  have e : ∀ n : Nat, nI n &&& (15 : Int32) = nI (n % 16) := fun n => fa_mask n 4
  rw [e]
  exact h
/-- one more number behind the l first ones -/
theorem put4 {E d l : Nat} (hE : E < 2 ^ (4 * l)) (hd : d < 16) (hl : l < 4) : nI E ||| (nI d <<< ((4 : Int32) * nI l &&& 31)) = nI (E + d * 2 ^ (4 * l)) := by
  have hp : 2 ^ (4 * l) ≤ 4096 := by
    rcases (show l = 0 ∨ l = 1 ∨ l = 2 ∨ l = 3 by omega) with rfl | rfl | rfl | rfl <;> decide
  have hm : d * 2 ^ (4 * l) ≤ 15 * 4096 := Nat.mul_le_mul (by omega) hp
  rw [pk_shlN _ (4 * l) (sh4 l hl) (by omega), Int32.or_comm]
  have := fa_or_sum (a := E) (k := 4 * l) d hE
  rw [Nat.mul_comm] at this
  rw [this]
  congr 1
  omega
theorem lasts_i {post : Int32 → Prop} {values : Nat → Int32} {l : Nat} {p : Int32} (hl : l < 4) (hw : 0 ≤ (values (4 * l + 2)).toInt ∧ (values (4 * l + 2)).toInt ≤ 99) (hb : 0 ≤ (values (4 * l + 3)).toInt ∧ (values (4 * l + 3)).toInt ≤ 100) (hp : 0 ≤ p.toInt ∧ p.toInt ≤ 200)
    (h : post (nI (lstP (values (4 * l + 2)).toInt.toNat (values (4 * l + 3)).toInt.toNat p.toInt.toNat))) : P_X7_lasts post (nI l) p values := by
  have il : (nI l).toInt = l := nI_toInt (by omega)
  have it : (nI l).toInt.toNat = l := by omega
  obtain ⟨v2, n2⟩ := lot_no (p := nI l) (w := 2) (i := 2) (by omega) (by decide) (by omega)
  obtain ⟨v3, n3⟩ := lot_no (p := nI l) (w := 3) (i := 3) (by omega) (by decide) (by omega)
  rw [it] at n2 n3
  generalize hW : values (4 * l + 2) = W at *
  generalize hB : values (4 * l + 3) = B at *
  have b0 : B = 0 ↔ B.toInt = 0 := fa_eq _ _
  have bl : B ≤ p ↔ B.toInt ≤ p.toInt := fa_le _ _
  unfold lstP at h
  by_cases q1 : B.toInt = 0
  · rw [if_pos (by omega)] at h
    simp +decide only [P_X7_lasts, v2, v3, n2, n3, hW, hB, b0, q1, within_iff, in_iff, all_eq, bz_0, bz_1, bzT, bzF, nem, bz_or, i64, Int32.reduceToInt, Int64.reduceToInt, and_true, true_and, and_self, not_true_eq_false, not_false_eq_true, false_implies, true_implies, eq_self, implies_true, false_and, and_false, Classical.not_not, Int.reduceLT, Int.reduceLE, Int.reduceEq, reduceIte, reduceCtorEq, and_imp, imp_false, false_or, or_false, true_or, or_true]
    exact h
  · rw [if_neg (by omega)] at h
    by_cases q2 : B.toInt ≤ p.toInt
    · rw [if_neg (by omega)] at h
      by_cases q3 : 1 ≤ W.toInt
      · have nz := ne0 q3
        rw [if_neg (by omega)] at h
        simp +decide only [P_X7_lasts, v2, v3, n2, n3, hW, hB, b0, q1, bl, q2, ge1, q3, nz, within_iff, in_iff, all_eq, bz_0, bz_1, bzT, bzF, nem, bz_or, i64, Int32.reduceToInt, Int64.reduceToInt, and_true, true_and, and_self, not_true_eq_false, not_false_eq_true, false_implies, true_implies, eq_self, implies_true, false_and, and_false, Classical.not_not, Int.reduceLT, Int.reduceLE, Int.reduceEq, reduceIte, reduceCtorEq, and_imp, imp_false, false_or, or_false, true_or, or_true]
        have es : (p - B).toInt = p.toInt - B.toInt := fb_subI (by omega) (by omega)
        have ed : ((p - B) / W).toInt = (p.toInt - B.toInt) / W.toInt := by rw [div_i (by omega) q3, es]
        have en : (p.toInt - B.toInt) / W.toInt = (((p.toInt.toNat - B.toInt.toNat) / W.toInt.toNat : Nat) : Int) := by
          have a1 : p.toInt - B.toInt = ((p.toInt.toNat - B.toInt.toNat : Nat) : Int) := by omega
          have a2 : W.toInt = (W.toInt.toNat : Int) := by omega
          rw [Int.natCast_ediv, ← a1, ← a2]
        have e8 : (8 : Int32).toInt = 8 := by decide
        have le : (p.toInt.toNat - B.toInt.toNat) / W.toInt.toNat ≤ 200 := Nat.le_trans (Nat.div_le_self _ _) (by omega)
        have ev : (if (p - B) / W < 8 then (p - B) / W else 8) = nI (min 8 ((p.toInt.toNat - B.toInt.toNat) / W.toInt.toNat)) := by
          by_cases q4 : (p - B) / W < 8
          · rw [if_pos q4]; rw [fa_lt, ed, en, e8] at q4
            rw [fa_eq, ed, en, nI_toInt (by omega)]; omega
          · rw [if_neg q4]; rw [fa_lt, ed, en, e8] at q4
            rw [fa_eq, e8, nI_toInt (by omega)]; omega
        rw [ev]
        exact h
      · rw [if_pos (by omega)] at h
        simp +decide only [P_X7_lasts, v2, v3, n2, n3, hW, hB, b0, q1, bl, q2, ge1, q3, within_iff, in_iff, all_eq, bz_0, bz_1, bzT, bzF, nem, bz_or, i64, Int32.reduceToInt, Int64.reduceToInt, and_true, true_and, and_self, not_true_eq_false, not_false_eq_true, false_implies, true_implies, eq_self, implies_true, false_and, and_false, Classical.not_not, Int.reduceLT, Int.reduceLE, Int.reduceEq, reduceIte, reduceCtorEq, and_imp, imp_false, false_or, or_false, true_or, or_true]
        exact h
    · rw [if_pos (by omega)] at h
      simp +decide only [P_X7_lasts, v2, v3, n2, n3, hW, hB, b0, q1, bl, q2, within_iff, in_iff, all_eq, bz_0, bz_1, bzT, bzF, nem, bz_or, i64, Int32.reduceToInt, Int64.reduceToInt, and_true, true_and, and_self, not_true_eq_false, not_false_eq_true, false_implies, true_implies, eq_self, implies_true, false_and, and_false, Classical.not_not, Int.reduceLT, Int.reduceLE, Int.reduceEq, reduceIte, reduceCtorEq, and_imp, imp_false, false_or, or_false, true_or, or_true]
      exact h
theorem lstP_le (w b p : Nat) : lstP w b p ≤ 8 := by
  unfold lstP; split
  · omega
  · split
    · omega
    · split <;> omega
