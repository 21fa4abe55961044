section lotM
variable {pl_values : Nat → Int32} {pl_found : Nat → Int64} {pl_hands : Int32} {m_plate m_plateFull m_wear m_least : Nat → Int32} {m_crew : Int32}
theorem rnV_cong {a b : Nat → Int32} (h : ∀ l : Nat, l < 4 → a (4 * l + 1) = b (4 * l + 1) ∧ a (4 * l + 2) = b (4 * l + 2) ∧ a (4 * l + 3) = b (4 * l + 3)) : rnV a = rnV b := by
  funext l
  unfold rnV
  by_cases q : l < 4
  · obtain ⟨h1, h2, h3⟩ := h l q
    rw [if_pos q, if_pos q, h1, h2, h3]
  · rw [if_neg q, if_neg q]
theorem setValue_i {post : Int32 → (Nat → Int32) → (Nat → Int64) → Prop} {P k : Nat} {p3 : Int32} (hP : P < 4) (hk : k < 4) (hF : FOK pl_found (rnV pl_values) pl_hands.toInt.toNat) (h : ∀ f : Nat → Int64, FOK f (rnV (upd pl_values (4 * P + k) p3)) pl_hands.toInt.toNat → post (pl_values (4 * P + k)) (upd pl_values (4 * P + k) p3) f) : P_X7_setValue post (nI P) (nI k) p3 pl_values pl_found := by
  have iP : (nI P).toInt = P := nI_toInt (by omega)
  obtain ⟨v, n⟩ := lot_no (p := nI P) (w := nI k) (i := k) (by omega) (nI_toInt (by omega)) (by omega)
  have it : (nI P).toInt.toNat = P := by omega
  rw [it] at n
  have z : nI k = 0 ↔ k = 0 := nI_eq (a := k) (b := 0) (by omega) (by omega)
  by_cases q : k = 0
  · subst q
    simp +decide only [P_X7_setValue, v, n, z, within_iff, in_iff, all_eq, bz_0, bz_1, bzT, bzF, nem, bz_or, i64, Int32.reduceToInt, Int64.reduceToInt, and_true, true_and, and_self, not_true_eq_false, not_false_eq_true, false_implies, true_implies, eq_self, implies_true, false_and, and_false, Classical.not_not, Int.reduceLT, Int.reduceLE, Int.reduceEq, reduceIte, reduceCtorEq, and_imp, imp_false, false_or, or_false, true_or, or_true]
    refine h _ ?_
    rw [rnV_cong (b := pl_values) (fun l hl => ⟨by rw [upd_at, if_neg (by omega)], by rw [upd_at, if_neg (by omega)], by rw [upd_at, if_neg (by omega)]⟩)]
    exact hF
  · by_cases q2 : p3 = pl_values (4 * P + k)
    · simp +decide only [P_X7_setValue, v, n, z, q, ← q2, within_iff, in_iff, all_eq, bz_0, bz_1, bzT, bzF, nem, bz_or, i64, Int32.reduceToInt, Int64.reduceToInt, and_true, true_and, and_self, not_true_eq_false, not_false_eq_true, false_implies, true_implies, eq_self, implies_true, false_and, and_false, Classical.not_not, Int.reduceLT, Int.reduceLE, Int.reduceEq, reduceIte, reduceCtorEq, and_imp, imp_false, false_or, or_false, true_or, or_true]
      have e : upd pl_values (4 * P + k) p3 = pl_values := by
        funext j; rw [upd_at]; split
        · rename_i g; rw [g, q2]
        · rfl
      have := h pl_found (by rw [e]; exact hF)
      rw [← q2] at this
      exact this
    · simp +decide only [P_X7_setValue, v, n, z, q, q2, within_iff, in_iff, all_eq, bz_0, bz_1, bzT, bzF, nem, bz_or, i64, Int32.reduceToInt, Int64.reduceToInt, and_true, true_and, and_self, not_true_eq_false, not_false_eq_true, false_implies, true_implies, eq_self, implies_true, false_and, and_false, Classical.not_not, Int.reduceLT, Int.reduceLE, Int.reduceEq, reduceIte, reduceCtorEq, and_imp, imp_false, false_or, or_false, true_or, or_true]
      exact fill_i (fun a ha => h a (FOK_0 ha))
theorem RPv_lot {P k : Nat} {p3 : Int32} (hP : P < 4) (hk : k < 4) (h : RPv pl_values pl_hands m_plate m_plateFull m_wear m_least m_crew) (hr : (k = 0 → 0 ≤ p3.toInt ∧ p3.toInt ≤ 200) ∧ (k = 1 → 1 ≤ p3.toInt ∧ p3.toInt ≤ 200) ∧ (k = 2 → 0 ≤ p3.toInt ∧ p3.toInt ≤ 99) ∧ (k = 3 → 0 ≤ p3.toInt ∧ p3.toInt ≤ 100)) :
    RPv (upd pl_values (4 * P + k) p3) pl_hands (upd m_plate P (if k = 0 then p3 else m_plate P)) (upd m_plateFull P (if k = 1 then p3 else m_plateFull P)) (upd m_wear P (if k = 2 then p3 else m_wear P)) (upd m_least P (if k = 3 then p3 else m_least P)) m_crew := by
  obtain ⟨e, hh, hl⟩ := h
  refine ⟨e, hh, fun l hl4 => ?_⟩
  obtain ⟨⟨a0, a1, a2, a3⟩, b0, b1, b2, b3⟩ := hl l hl4
  simp only [upd_at]
  by_cases q : l = P
  · subst q
    simp only [if_true]
    rcases (show k = 0 ∨ k = 1 ∨ k = 2 ∨ k = 3 by omega) with rfl | rfl | rfl | rfl
    · refine ⟨⟨?_, ?_, ?_, ?_⟩, ?_, ?_, ?_, ?_⟩ <;> simp [a0, a1, a2, a3] <;> first | exact hr.1 rfl | omega
    · refine ⟨⟨?_, ?_, ?_, ?_⟩, ?_, ?_, ?_, ?_⟩ <;> simp [a0, a1, a2, a3] <;> first | exact hr.2.1 rfl | omega
    · refine ⟨⟨?_, ?_, ?_, ?_⟩, ?_, ?_, ?_, ?_⟩ <;> simp [a0, a1, a2, a3] <;> first | exact hr.2.2.1 rfl | omega
    · refine ⟨⟨?_, ?_, ?_, ?_⟩, ?_, ?_, ?_, ?_⟩ <;> simp [a0, a1, a2, a3] <;> first | exact hr.2.2.2 rfl | omega
  · have d0 : ¬ 4 * l = 4 * P + k := by omega
    have d1 : ¬ 4 * l + 1 = 4 * P + k := by omega
    have d2 : ¬ 4 * l + 2 = 4 * P + k := by omega
    have d3 : ¬ 4 * l + 3 = 4 * P + k := by omega
    simp only [if_neg d0, if_neg d1, if_neg d2, if_neg d3, if_neg q]
    exact ⟨⟨a0, a1, a2, a3⟩, b0, b1, b2, b3⟩
theorem eq_lot {C : (Nat → Int32) → (Nat → Int64) → (Nat → Int32) → (Nat → Int32) → (Nat → Int32) → (Nat → Int32) → Prop} (hP : RPv pl_values pl_hands m_plate m_plateFull m_wear m_least m_crew) (hF : FOK pl_found (rnV pl_values) pl_hands.toInt.toNat)
    (hC : ∀ a f b c d e, RPv a pl_hands b c d e m_crew → FOK f (rnV a) pl_hands.toInt.toNat → C a f b c d e) (p1 p2 p3 : Int32) :
    P_X10_lot (fun r a f => P_X11_lot (fun r2 b c d e => ((r = r2 → C a f b c d e) ∧ (¬ r = r2 → False))) p1 p2 p3 m_plate m_plateFull m_wear m_least) p1 p2 p3 pl_values pl_found := by
  by_cases h1 : 0 ≤ p1.toInt ∧ p1.toInt ≤ 3
  · obtain ⟨P, eP, rfl⟩ : ∃ P : Nat, p1.toInt = P ∧ p1 = nI P := ⟨p1.toInt.toNat, by omega, nI_as (by omega)⟩
    have hP4 : P < 4 := by omega
    by_cases h2 : 0 ≤ p2.toInt ∧ p2.toInt ≤ 3
    · obtain ⟨k, ek, rfl⟩ : ∃ k : Nat, p2.toInt = k ∧ p2 = nI k := ⟨p2.toInt.toNat, by omega, nI_as (by omega)⟩
      have hk4 : k < 4 := by omega
      have vk : vp_in (nI k) 4 := vp_in_nI hk4 (by omega)
      have vP : vp_in (nI P) 4 := vp_in_nI hP4 (by omega)
      have ck : (nI k).toNatClampNeg = k := nI_clamp (by omega)
      have cP : (nI P).toNatClampNeg = P := nI_clamp (by omega)
      have z0 : nI k = 0 ↔ k = 0 := nI_eq (a := k) (b := 0) (by omega) (by omega)
      have z1 : nI k = 1 ↔ k = 1 := nI_eq (a := k) (b := 1) (by omega) (by omega)
      have z2 : nI k = 2 ↔ k = 2 := nI_eq (a := k) (b := 2) (by omega) (by omega)
      have z3 : nI k = 3 ↔ k = 3 := nI_eq (a := k) (b := 3) (by omega) (by omega)
      by_cases h3 : (tLo k).toInt ≤ p3.toInt ∧ p3.toInt ≤ (tHi k).toInt
      · simp +decide only [P_X10_lot, lotX_iff, h1, h2, vk, ck, h3, within_iff, in_iff, all_eq, bz_0, bz_1, bzT, bzF, nem, bz_or, i64, Int32.reduceToInt, Int64.reduceToInt, and_true, true_and, and_self, not_true_eq_false, not_false_eq_true, false_implies, true_implies, eq_self, implies_true, false_and, and_false, Classical.not_not, Int.reduceLT, Int.reduceLE, Int.reduceEq, reduceIte, reduceCtorEq, and_imp, imp_false, false_or, or_false, true_or, or_true]
        refine setValue_i hP4 hk4 hF (fun f hf => ?_)
        have fin : ∀ r2 : Int32, pl_values (4 * P + k) = r2 → ((pl_values (4 * P + k) = r2 → C (upd pl_values (4 * P + k) p3) f (upd m_plate P (if k = 0 then p3 else m_plate P)) (upd m_plateFull P (if k = 1 then p3 else m_plateFull P)) (upd m_wear P (if k = 2 then p3 else m_wear P)) (upd m_least P (if k = 3 then p3 else m_least P))) ∧ pl_values (4 * P + k) = r2) := by
          intro r2 e
          refine ⟨fun _ => hC _ _ _ _ _ _ (RPv_lot hP4 hk4 hP ?_) hf, e⟩
          refine ⟨fun e => ?_, fun e => ?_, fun e => ?_, fun e => ?_⟩ <;> subst e <;> exact h3
        have hv := (hP.2.2 P hP4).1
        unfold P_X11_lot
        intro X25 X42 X59 X79 h25 h42 h59 h79
        have x79 : X79 m_plate m_plateFull m_wear m_least := by
          apply h79
          have e16 : pl_values (4 * P + k) = (if k = 0 then m_plate P else (if k = 1 then m_plateFull P else (if k = 2 then m_wear P else m_least P))) := by
            rcases (show k = 0 ∨ k = 1 ∨ k = 2 ∨ k = 3 by omega) with rfl | rfl | rfl | rfl
            · exact hv.1
            · exact hv.2.1
            · exact hv.2.2.1
            · exact hv.2.2.2
          simp +decide only [z0, z1, z2, z3, vP, cP, within_iff, in_iff, all_eq, bz_0, bz_1, bzT, bzF, nem, bz_or, i64, Int32.reduceToInt, Int64.reduceToInt, and_true, true_and, and_self, not_true_eq_false, not_false_eq_true, false_implies, true_implies, eq_self, implies_true, false_and, and_false, Classical.not_not, Int.reduceLT, Int.reduceLE, Int.reduceEq, reduceIte, reduceCtorEq, and_imp, imp_false, false_or, or_false, true_or, or_true]
          exact fin _ e16
        rcases (show k = 0 ∨ k = 1 ∨ k = 2 ∨ k = 3 by omega) with rfl | rfl | rfl | rfl
        · have g : 0 ≤ p3.toInt ∧ p3.toInt ≤ 200 := h3
          simp +decide only [lot_iff, h1, z0, g, within_iff, in_iff, all_eq, bz_0, bz_1, bzT, bzF, nem, bz_or, i64, Int32.reduceToInt, Int64.reduceToInt, and_true, true_and, and_self, not_true_eq_false, not_false_eq_true, false_implies, true_implies, eq_self, implies_true, false_and, and_false, Classical.not_not, Int.reduceLT, Int.reduceLE, Int.reduceEq, reduceIte, reduceCtorEq, and_imp, imp_false, false_or, or_false, true_or, or_true]
          exact x79
        · have g : 1 ≤ p3.toInt ∧ p3.toInt ≤ 200 := h3
          simp +decide only [lot_iff, h1, z0, within_iff, in_iff, all_eq, bz_0, bz_1, bzT, bzF, nem, bz_or, i64, Int32.reduceToInt, Int64.reduceToInt, and_true, true_and, and_self, not_true_eq_false, not_false_eq_true, false_implies, true_implies, eq_self, implies_true, false_and, and_false, Classical.not_not, Int.reduceLT, Int.reduceLE, Int.reduceEq, reduceIte, reduceCtorEq, and_imp, imp_false, false_or, or_false, true_or, or_true]
          apply h25
          simp +decide only [z1, g, within_iff, in_iff, all_eq, bz_0, bz_1, bzT, bzF, nem, bz_or, i64, Int32.reduceToInt, Int64.reduceToInt, and_true, true_and, and_self, not_true_eq_false, not_false_eq_true, false_implies, true_implies, eq_self, implies_true, false_and, and_false, Classical.not_not, Int.reduceLT, Int.reduceLE, Int.reduceEq, reduceIte, reduceCtorEq, and_imp, imp_false, false_or, or_false, true_or, or_true]
          exact x79
        · have g : 0 ≤ p3.toInt ∧ p3.toInt ≤ 99 := h3
          simp +decide only [lot_iff, h1, z0, within_iff, in_iff, all_eq, bz_0, bz_1, bzT, bzF, nem, bz_or, i64, Int32.reduceToInt, Int64.reduceToInt, and_true, true_and, and_self, not_true_eq_false, not_false_eq_true, false_implies, true_implies, eq_self, implies_true, false_and, and_false, Classical.not_not, Int.reduceLT, Int.reduceLE, Int.reduceEq, reduceIte, reduceCtorEq, and_imp, imp_false, false_or, or_false, true_or, or_true]
          apply h25
          simp +decide only [z1, within_iff, in_iff, all_eq, bz_0, bz_1, bzT, bzF, nem, bz_or, i64, Int32.reduceToInt, Int64.reduceToInt, and_true, true_and, and_self, not_true_eq_false, not_false_eq_true, false_implies, true_implies, eq_self, implies_true, false_and, and_false, Classical.not_not, Int.reduceLT, Int.reduceLE, Int.reduceEq, reduceIte, reduceCtorEq, and_imp, imp_false, false_or, or_false, true_or, or_true]
          apply h42
          simp +decide only [z2, g, within_iff, in_iff, all_eq, bz_0, bz_1, bzT, bzF, nem, bz_or, i64, Int32.reduceToInt, Int64.reduceToInt, and_true, true_and, and_self, not_true_eq_false, not_false_eq_true, false_implies, true_implies, eq_self, implies_true, false_and, and_false, Classical.not_not, Int.reduceLT, Int.reduceLE, Int.reduceEq, reduceIte, reduceCtorEq, and_imp, imp_false, false_or, or_false, true_or, or_true]
          exact x79
        · have g : 0 ≤ p3.toInt ∧ p3.toInt ≤ 100 := h3
          simp +decide only [lot_iff, h1, z0, within_iff, in_iff, all_eq, bz_0, bz_1, bzT, bzF, nem, bz_or, i64, Int32.reduceToInt, Int64.reduceToInt, and_true, true_and, and_self, not_true_eq_false, not_false_eq_true, false_implies, true_implies, eq_self, implies_true, false_and, and_false, Classical.not_not, Int.reduceLT, Int.reduceLE, Int.reduceEq, reduceIte, reduceCtorEq, and_imp, imp_false, false_or, or_false, true_or, or_true]
          apply h25
          simp +decide only [z1, within_iff, in_iff, all_eq, bz_0, bz_1, bzT, bzF, nem, bz_or, i64, Int32.reduceToInt, Int64.reduceToInt, and_true, true_and, and_self, not_true_eq_false, not_false_eq_true, false_implies, true_implies, eq_self, implies_true, false_and, and_false, Classical.not_not, Int.reduceLT, Int.reduceLE, Int.reduceEq, reduceIte, reduceCtorEq, and_imp, imp_false, false_or, or_false, true_or, or_true]
          apply h42
          simp +decide only [z2, within_iff, in_iff, all_eq, bz_0, bz_1, bzT, bzF, nem, bz_or, i64, Int32.reduceToInt, Int64.reduceToInt, and_true, true_and, and_self, not_true_eq_false, not_false_eq_true, false_implies, true_implies, eq_self, implies_true, false_and, and_false, Classical.not_not, Int.reduceLT, Int.reduceLE, Int.reduceEq, reduceIte, reduceCtorEq, and_imp, imp_false, false_or, or_false, true_or, or_true]
          apply h59
          simp +decide only [z3, g, within_iff, in_iff, all_eq, bz_0, bz_1, bzT, bzF, nem, bz_or, i64, Int32.reduceToInt, Int64.reduceToInt, and_true, true_and, and_self, not_true_eq_false, not_false_eq_true, false_implies, true_implies, eq_self, implies_true, false_and, and_false, Classical.not_not, Int.reduceLT, Int.reduceLE, Int.reduceEq, reduceIte, reduceCtorEq, and_imp, imp_false, false_or, or_false, true_or, or_true]
          exact x79
      · simp +decide only [P_X10_lot, lotX_iff, h1, h2, vk, ck, h3, within_iff, in_iff, all_eq, bz_0, bz_1, bzT, bzF, nem, bz_or, i64, Int32.reduceToInt, Int64.reduceToInt, and_true, true_and, and_self, not_true_eq_false, not_false_eq_true, false_implies, true_implies, eq_self, implies_true, false_and, and_false, Classical.not_not, Int.reduceLT, Int.reduceLE, Int.reduceEq, reduceIte, reduceCtorEq, and_imp, imp_false, false_or, or_false, true_or, or_true]
        unfold P_X11_lot
        intro X25 X42 X59 X79 h25 h42 h59 h79
        have ok := hC _ _ _ _ _ _ hP hF
        rcases (show k = 0 ∨ k = 1 ∨ k = 2 ∨ k = 3 by omega) with rfl | rfl | rfl | rfl
        · have g : ¬ (0 ≤ p3.toInt ∧ p3.toInt ≤ 200) := h3
          simp +decide only [lot_iff, h1, z0, g, within_iff, in_iff, all_eq, bz_0, bz_1, bzT, bzF, nem, bz_or, i64, Int32.reduceToInt, Int64.reduceToInt, and_true, true_and, and_self, not_true_eq_false, not_false_eq_true, false_implies, true_implies, eq_self, implies_true, false_and, and_false, Classical.not_not, Int.reduceLT, Int.reduceLE, Int.reduceEq, reduceIte, reduceCtorEq, and_imp, imp_false, false_or, or_false, true_or, or_true]
          apply h25
          simp +decide only [z1, within_iff, in_iff, all_eq, bz_0, bz_1, bzT, bzF, nem, bz_or, i64, Int32.reduceToInt, Int64.reduceToInt, and_true, true_and, and_self, not_true_eq_false, not_false_eq_true, false_implies, true_implies, eq_self, implies_true, false_and, and_false, Classical.not_not, Int.reduceLT, Int.reduceLE, Int.reduceEq, reduceIte, reduceCtorEq, and_imp, imp_false, false_or, or_false, true_or, or_true]
          apply h42
          simp +decide only [z2, within_iff, in_iff, all_eq, bz_0, bz_1, bzT, bzF, nem, bz_or, i64, Int32.reduceToInt, Int64.reduceToInt, and_true, true_and, and_self, not_true_eq_false, not_false_eq_true, false_implies, true_implies, eq_self, implies_true, false_and, and_false, Classical.not_not, Int.reduceLT, Int.reduceLE, Int.reduceEq, reduceIte, reduceCtorEq, and_imp, imp_false, false_or, or_false, true_or, or_true]
          apply h59
          simp +decide only [z3, within_iff, in_iff, all_eq, bz_0, bz_1, bzT, bzF, nem, bz_or, i64, Int32.reduceToInt, Int64.reduceToInt, and_true, true_and, and_self, not_true_eq_false, not_false_eq_true, false_implies, true_implies, eq_self, implies_true, false_and, and_false, Classical.not_not, Int.reduceLT, Int.reduceLE, Int.reduceEq, reduceIte, reduceCtorEq, and_imp, imp_false, false_or, or_false, true_or, or_true]
          exact ok
        · have g : ¬ (1 ≤ p3.toInt ∧ p3.toInt ≤ 200) := h3
          simp +decide only [lot_iff, h1, z0, within_iff, in_iff, all_eq, bz_0, bz_1, bzT, bzF, nem, bz_or, i64, Int32.reduceToInt, Int64.reduceToInt, and_true, true_and, and_self, not_true_eq_false, not_false_eq_true, false_implies, true_implies, eq_self, implies_true, false_and, and_false, Classical.not_not, Int.reduceLT, Int.reduceLE, Int.reduceEq, reduceIte, reduceCtorEq, and_imp, imp_false, false_or, or_false, true_or, or_true]
          apply h25
          simp +decide only [z1, g, within_iff, in_iff, all_eq, bz_0, bz_1, bzT, bzF, nem, bz_or, i64, Int32.reduceToInt, Int64.reduceToInt, and_true, true_and, and_self, not_true_eq_false, not_false_eq_true, false_implies, true_implies, eq_self, implies_true, false_and, and_false, Classical.not_not, Int.reduceLT, Int.reduceLE, Int.reduceEq, reduceIte, reduceCtorEq, and_imp, imp_false, false_or, or_false, true_or, or_true]
          apply h42
          simp +decide only [z2, within_iff, in_iff, all_eq, bz_0, bz_1, bzT, bzF, nem, bz_or, i64, Int32.reduceToInt, Int64.reduceToInt, and_true, true_and, and_self, not_true_eq_false, not_false_eq_true, false_implies, true_implies, eq_self, implies_true, false_and, and_false, Classical.not_not, Int.reduceLT, Int.reduceLE, Int.reduceEq, reduceIte, reduceCtorEq, and_imp, imp_false, false_or, or_false, true_or, or_true]
          apply h59
          simp +decide only [z3, within_iff, in_iff, all_eq, bz_0, bz_1, bzT, bzF, nem, bz_or, i64, Int32.reduceToInt, Int64.reduceToInt, and_true, true_and, and_self, not_true_eq_false, not_false_eq_true, false_implies, true_implies, eq_self, implies_true, false_and, and_false, Classical.not_not, Int.reduceLT, Int.reduceLE, Int.reduceEq, reduceIte, reduceCtorEq, and_imp, imp_false, false_or, or_false, true_or, or_true]
          exact ok
        · have g : ¬ (0 ≤ p3.toInt ∧ p3.toInt ≤ 99) := h3
          simp +decide only [lot_iff, h1, z0, within_iff, in_iff, all_eq, bz_0, bz_1, bzT, bzF, nem, bz_or, i64, Int32.reduceToInt, Int64.reduceToInt, and_true, true_and, and_self, not_true_eq_false, not_false_eq_true, false_implies, true_implies, eq_self, implies_true, false_and, and_false, Classical.not_not, Int.reduceLT, Int.reduceLE, Int.reduceEq, reduceIte, reduceCtorEq, and_imp, imp_false, false_or, or_false, true_or, or_true]
          apply h25
          simp +decide only [z1, within_iff, in_iff, all_eq, bz_0, bz_1, bzT, bzF, nem, bz_or, i64, Int32.reduceToInt, Int64.reduceToInt, and_true, true_and, and_self, not_true_eq_false, not_false_eq_true, false_implies, true_implies, eq_self, implies_true, false_and, and_false, Classical.not_not, Int.reduceLT, Int.reduceLE, Int.reduceEq, reduceIte, reduceCtorEq, and_imp, imp_false, false_or, or_false, true_or, or_true]
          apply h42
          simp +decide only [z2, g, within_iff, in_iff, all_eq, bz_0, bz_1, bzT, bzF, nem, bz_or, i64, Int32.reduceToInt, Int64.reduceToInt, and_true, true_and, and_self, not_true_eq_false, not_false_eq_true, false_implies, true_implies, eq_self, implies_true, false_and, and_false, Classical.not_not, Int.reduceLT, Int.reduceLE, Int.reduceEq, reduceIte, reduceCtorEq, and_imp, imp_false, false_or, or_false, true_or, or_true]
          apply h59
          simp +decide only [z3, within_iff, in_iff, all_eq, bz_0, bz_1, bzT, bzF, nem, bz_or, i64, Int32.reduceToInt, Int64.reduceToInt, and_true, true_and, and_self, not_true_eq_false, not_false_eq_true, false_implies, true_implies, eq_self, implies_true, false_and, and_false, Classical.not_not, Int.reduceLT, Int.reduceLE, Int.reduceEq, reduceIte, reduceCtorEq, and_imp, imp_false, false_or, or_false, true_or, or_true]
          exact ok
        · have g : ¬ (0 ≤ p3.toInt ∧ p3.toInt ≤ 100) := h3
          simp +decide only [lot_iff, h1, z0, within_iff, in_iff, all_eq, bz_0, bz_1, bzT, bzF, nem, bz_or, i64, Int32.reduceToInt, Int64.reduceToInt, and_true, true_and, and_self, not_true_eq_false, not_false_eq_true, false_implies, true_implies, eq_self, implies_true, false_and, and_false, Classical.not_not, Int.reduceLT, Int.reduceLE, Int.reduceEq, reduceIte, reduceCtorEq, and_imp, imp_false, false_or, or_false, true_or, or_true]
          apply h25
          simp +decide only [z1, within_iff, in_iff, all_eq, bz_0, bz_1, bzT, bzF, nem, bz_or, i64, Int32.reduceToInt, Int64.reduceToInt, and_true, true_and, and_self, not_true_eq_false, not_false_eq_true, false_implies, true_implies, eq_self, implies_true, false_and, and_false, Classical.not_not, Int.reduceLT, Int.reduceLE, Int.reduceEq, reduceIte, reduceCtorEq, and_imp, imp_false, false_or, or_false, true_or, or_true]
          apply h42
          simp +decide only [z2, within_iff, in_iff, all_eq, bz_0, bz_1, bzT, bzF, nem, bz_or, i64, Int32.reduceToInt, Int64.reduceToInt, and_true, true_and, and_self, not_true_eq_false, not_false_eq_true, false_implies, true_implies, eq_self, implies_true, false_and, and_false, Classical.not_not, Int.reduceLT, Int.reduceLE, Int.reduceEq, reduceIte, reduceCtorEq, and_imp, imp_false, false_or, or_false, true_or, or_true]
          apply h59
          simp +decide only [z3, g, within_iff, in_iff, all_eq, bz_0, bz_1, bzT, bzF, nem, bz_or, i64, Int32.reduceToInt, Int64.reduceToInt, and_true, true_and, and_self, not_true_eq_false, not_false_eq_true, false_implies, true_implies, eq_self, implies_true, false_and, and_false, Classical.not_not, Int.reduceLT, Int.reduceLE, Int.reduceEq, reduceIte, reduceCtorEq, and_imp, imp_false, false_or, or_false, true_or, or_true]
          exact ok
    · have n0 : ¬ p2 = 0 := fun e => h2 (by rw [e]; decide)
      have n1 : ¬ p2 = 1 := fun e => h2 (by rw [e]; decide)
      have n2 : ¬ p2 = 2 := fun e => h2 (by rw [e]; decide)
      have n3 : ¬ p2 = 3 := fun e => h2 (by rw [e]; decide)
      simp +decide only [P_X10_lot, lotX_iff, h1, h2, within_iff, in_iff, all_eq, bz_0, bz_1, bzT, bzF, nem, bz_or, i64, Int32.reduceToInt, Int64.reduceToInt, and_true, true_and, and_self, not_true_eq_false, not_false_eq_true, false_implies, true_implies, eq_self, implies_true, false_and, and_false, Classical.not_not, Int.reduceLT, Int.reduceLE, Int.reduceEq, reduceIte, reduceCtorEq, and_imp, imp_false, false_or, or_false, true_or, or_true]
      unfold P_X11_lot
      intro X25 X42 X59 X79 h25 h42 h59 h79
      simp +decide only [lot_iff, h1, n0, within_iff, in_iff, all_eq, bz_0, bz_1, bzT, bzF, nem, bz_or, i64, Int32.reduceToInt, Int64.reduceToInt, and_true, true_and, and_self, not_true_eq_false, not_false_eq_true, false_implies, true_implies, eq_self, implies_true, false_and, and_false, Classical.not_not, Int.reduceLT, Int.reduceLE, Int.reduceEq, reduceIte, reduceCtorEq, and_imp, imp_false, false_or, or_false, true_or, or_true]
      apply h25
      simp +decide only [n1, within_iff, in_iff, all_eq, bz_0, bz_1, bzT, bzF, nem, bz_or, i64, Int32.reduceToInt, Int64.reduceToInt, and_true, true_and, and_self, not_true_eq_false, not_false_eq_true, false_implies, true_implies, eq_self, implies_true, false_and, and_false, Classical.not_not, Int.reduceLT, Int.reduceLE, Int.reduceEq, reduceIte, reduceCtorEq, and_imp, imp_false, false_or, or_false, true_or, or_true]
      apply h42
      simp +decide only [n2, within_iff, in_iff, all_eq, bz_0, bz_1, bzT, bzF, nem, bz_or, i64, Int32.reduceToInt, Int64.reduceToInt, and_true, true_and, and_self, not_true_eq_false, not_false_eq_true, false_implies, true_implies, eq_self, implies_true, false_and, and_false, Classical.not_not, Int.reduceLT, Int.reduceLE, Int.reduceEq, reduceIte, reduceCtorEq, and_imp, imp_false, false_or, or_false, true_or, or_true]
      apply h59
      simp +decide only [n3, within_iff, in_iff, all_eq, bz_0, bz_1, bzT, bzF, nem, bz_or, i64, Int32.reduceToInt, Int64.reduceToInt, and_true, true_and, and_self, not_true_eq_false, not_false_eq_true, false_implies, true_implies, eq_self, implies_true, false_and, and_false, Classical.not_not, Int.reduceLT, Int.reduceLE, Int.reduceEq, reduceIte, reduceCtorEq, and_imp, imp_false, false_or, or_false, true_or, or_true]
      exact hC _ _ _ _ _ _ hP hF
  · simp +decide only [P_X10_lot, lotX_iff, h1, within_iff, in_iff, all_eq, bz_0, bz_1, bzT, bzF, nem, bz_or, i64, Int32.reduceToInt, Int64.reduceToInt, and_true, true_and, and_self, not_true_eq_false, not_false_eq_true, false_implies, true_implies, eq_self, implies_true, false_and, and_false, Classical.not_not, Int.reduceLT, Int.reduceLE, Int.reduceEq, reduceIte, reduceCtorEq, and_imp, imp_false, false_or, or_false, true_or, or_true]
    unfold P_X11_lot
    intro X25 X42 X59 X79 h25 h42 h59 h79
    simp +decide only [lot_iff, h1, within_iff, in_iff, all_eq, bz_0, bz_1, bzT, bzF, nem, bz_or, i64, Int32.reduceToInt, Int64.reduceToInt, and_true, true_and, and_self, not_true_eq_false, not_false_eq_true, false_implies, true_implies, eq_self, implies_true, false_and, and_false, Classical.not_not, Int.reduceLT, Int.reduceLE, Int.reduceEq, reduceIte, reduceCtorEq, and_imp, imp_false, false_or, or_false, true_or, or_true]
    exact hC _ _ _ _ _ _ hP hF
end lotM
