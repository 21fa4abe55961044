theorem shrL {n : Nat} (h : n < 2 ^ 63) (s : Int64) (k : Nat) (hs : (s.toBitVec.smod 64).toNat = k) : lN n >>> s = lN (n / 2 ^ k) := by
  apply Int64.toInt_inj.mp
  have h2 : n / 2 ^ k ≤ n := Nat.div_le_self _ _
  have e : (lN n >>> s).toInt = (lN n).toInt >>> k := by
    show ((lN n).toBitVec.sshiftRight (s.toBitVec.smod 64).toNat).toInt = _
    rw [hs, BitVec.toInt_sshiftRight]
    rfl
  rw [e, pk_lT h, pk_lT (by omega), Int.shiftRight_eq_div_pow]
  rfl
theorem shlL {n : Nat} (s : Int64) (k : Nat) (hs : (s.toBitVec.smod 64).toNat = k) (h : n * 2 ^ k < 2 ^ 63) : lN n <<< s = lN (n * 2 ^ k) := by
  apply Int64.toBitVec_inj.mp
  apply BitVec.eq_of_toNat_eq
  have hn : n ≤ n * 2 ^ k := Nat.le_mul_of_pos_right n (Nat.two_pow_pos k)
  have e : (lN n <<< s).toBitVec.toNat = (lN n).toBitVec.toNat * 2 ^ k % 2 ^ 64 := by
    show ((lN n).toBitVec <<< (s.toBitVec.smod 64).toNat).toNat = _
    rw [hs, BitVec.toNat_shiftLeft, Nat.shiftLeft_eq]
  have t : ∀ x : Nat, x < 2 ^ 63 → (lN x).toBitVec.toNat = x := fun x hx => Nat.mod_eq_of_lt (by omega)
  rw [e, t n (by omega), t _ h, Nat.mod_eq_of_lt (by omega)]
theorem sh6 : ∀ j : Nat, j < 10 → ((((6 : Int32) * nI j).toInt64 &&& 63).toBitVec.smod 64).toNat = 6 * j := by decide
theorem fld_or (w v j i : Nat) (hv : v < 64) : (w ||| (v * 2 ^ (6 * j))) / 2 ^ (6 * i) % 64 = if i = j then (w / 2 ^ (6 * j) % 64) ||| v else w / 2 ^ (6 * i) % 64 := by
  have e6 : 64 = 2 ^ 6 := rfl
  apply Nat.eq_of_testBit_eq
  intro b
  rw [e6, Nat.testBit_mod_two_pow, Nat.testBit_div_two_pow, Nat.testBit_or, Nat.testBit_mul_two_pow]
  by_cases q : i = j
  · subst q
    rw [if_pos rfl, Nat.testBit_or, Nat.testBit_mod_two_pow, Nat.testBit_div_two_pow]
    by_cases hb : b < 6
    · have : 6 * i + b - 6 * i = b := by omega
      simp [hb, this]
    · have hvb : v.testBit b = false := Nat.testBit_lt_two_pow (Nat.lt_of_lt_of_le hv (by
        have : 2 ^ 6 ≤ 2 ^ b := Nat.pow_le_pow_right (by decide) (by omega)
        omega))
      simp [hb, hvb]
  · rw [if_neg q, Nat.testBit_mod_two_pow, Nat.testBit_div_two_pow]
    by_cases hb : b < 6
    · have hz : (decide (6 * j ≤ 6 * i + b) && v.testBit (6 * i + b - 6 * j)) = false := by
        by_cases hh : 6 * j ≤ 6 * i + b
        · have hvb : v.testBit (6 * i + b - 6 * j) = false := Nat.testBit_lt_two_pow (Nat.lt_of_lt_of_le hv (by
            have : 2 ^ 6 ≤ 2 ^ (6 * i + b - 6 * j) := Nat.pow_le_pow_right (by decide) (by omega)
            omega))
          simp [hvb]
        · simp [hh]
      rw [Nat.add_comm b] 
      simp [hb, hz]
    · simp [hb]
theorem slot_inj {m m2 : Nat} {s s2 : Nat → Nat} (h1 : 1 ≤ m) (h7 : m ≤ 7) (hs : ∀ l, l < 4 → s l ≤ m) (g1 : 1 ≤ m2) (g7 : m2 ≤ 7) (gs : ∀ l, l < 4 → s2 l ≤ m2) (e : slotN m s = slotN m2 s2) : m = m2 ∧ ∀ l, l < 4 → s l = s2 l := by
  have rng : ∀ (m : Nat) (s : Nat → Nat), 1 ≤ m → m ≤ 7 → (∀ l, l < 4 → s l ≤ m) → begN m ≤ slotN m s ∧ (slotN m s < (if m = 7 then 8771 else begN (m + 1))) := by
    intro m s h1 h7 hs
    have a0 := hs 0 (by omega)
    have a1 := hs 1 (by omega)
    have a2 := hs 2 (by omega)
    have a3 := hs 3 (by omega)
    unfold slotN
    generalize s 0 = x0 at *
    generalize s 1 = x1 at *
    generalize s 2 = x2 at *
    generalize s 3 = x3 at *
    rcases (show m = 1 ∨ m = 2 ∨ m = 3 ∨ m = 4 ∨ m = 5 ∨ m = 6 ∨ m = 7 by omega) with rfl | rfl | rfl | rfl | rfl | rfl | rfl <;> simp only [begN, List.getD_cons_succ, List.getD_cons_zero, Nat.reduceAdd, Nat.reduceEqDiff, reduceIte] <;> omega
  have r1 := rng m s h1 h7 hs
  have r2 := rng m2 s2 g1 g7 gs
  rw [e] at r1
  have em : m = m2 := by
    generalize slotN m2 s2 = x at r1 r2
    rcases (show m = 1 ∨ m = 2 ∨ m = 3 ∨ m = 4 ∨ m = 5 ∨ m = 6 ∨ m = 7 by omega) with rfl | rfl | rfl | rfl | rfl | rfl | rfl <;>
    rcases (show m2 = 1 ∨ m2 = 2 ∨ m2 = 3 ∨ m2 = 4 ∨ m2 = 5 ∨ m2 = 6 ∨ m2 = 7 by omega) with rfl | rfl | rfl | rfl | rfl | rfl | rfl <;>
    first
    | rfl
    | (exfalso; simp only [begN, List.getD_cons_succ, List.getD_cons_zero, Nat.reduceAdd, Nat.reduceEqDiff, reduceIte] at r1 r2; omega)
  refine ⟨em, ?_⟩
  subst em
  have a0 := hs 0 (by omega)
  have a1 := hs 1 (by omega)
  have a2 := hs 2 (by omega)
  have a3 := hs 3 (by omega)
  have b0 := gs 0 (by omega)
  have b1 := gs 1 (by omega)
  have b2 := gs 2 (by omega)
  have b3 := gs 3 (by omega)
  have all : s 0 = s2 0 ∧ s 1 = s2 1 ∧ s 2 = s2 2 ∧ s 3 = s2 3 := by
    unfold slotN at e
    generalize s 0 = x0 at *
    generalize s 1 = x1 at *
    generalize s 2 = x2 at *
    generalize s 3 = x3 at *
    generalize s2 0 = y0 at *
    generalize s2 1 = y1 at *
    generalize s2 2 = y2 at *
    generalize s2 3 = y3 at *
    clear r1 r2 rng hs gs
    rcases (show m = 1 ∨ m = 2 ∨ m = 3 ∨ m = 4 ∨ m = 5 ∨ m = 6 ∨ m = 7 by omega) with rfl | rfl | rfl | rfl | rfl | rfl | rfl <;> simp only [Nat.reduceAdd] at e <;> omega
  intro l hl
  rcases (show l = 0 ∨ l = 1 ∨ l = 2 ∨ l = 3 by omega) with rfl | rfl | rfl | rfl
  · exact all.1
  · exact all.2.1
  · exact all.2.2.1
  · exact all.2.2.2
theorem mnS_le (f : Nat → Nat) : ∀ k, mnS f k ≤ 62
  | 0 => Nat.le_refl _
  | k + 1 => by have := mnS_le f k; rw [mnS]; omega
theorem mnS_cong {f g : Nat → Nat} : ∀ k : Nat, (∀ j, j < k → f j = g j) → mnS f k = mnS g k
  | 0, _ => rfl
  | k + 1, h => by rw [mnS, mnS, mnS_cong k (fun j hj => h j (by omega)), h k (by omega)]
theorem ffc_le (rn : Nat → Nat) (hands : Nat) : ∀ (m : Nat) (s : Nat → Nat), ffc rn hands m s ≤ 62
  | 0, _ => by rw [ffc]; omega
  | m + 1, s => by rw [ffc]; exact mnS_le _ _
theorem okS_iff {rn : Nat → Nat} {hands m : Nat} {s : Nat → Nat} {set : Nat} : okS rn hands m s set = true ↔ (∀ l, l < 4 → s l = 0 → set.testBit l = true) ∧ (∀ l, l < 4 → set.testBit l = true → s l < min m (rn l)) ∧ onF set ≤ hands := by
  unfold okS
  simp only [Bool.and_eq_true, List.all_eq_true, List.mem_range, Bool.or_eq_true, bne_iff_ne, ne_eq, Bool.not_eq_true', decide_eq_true_eq]
  constructor
  · rintro ⟨h1, h2⟩
    refine ⟨fun l hl e => ?_, fun l hl e => ?_, h2⟩
    · rcases (h1 l hl).1 with a | a
      · exact absurd e a
      · exact a
    · rcases (h1 l hl).2 with a | a
      · rw [e] at a; exact absurd a (by decide)
      · exact a
  · rintro ⟨h1, h2, h3⟩
    refine ⟨fun l hl => ⟨?_, ?_⟩, h3⟩
    · by_cases e : s l = 0
      · exact Or.inr (h1 l hl e)
      · exact Or.inl e
    · by_cases e : set.testBit l = true
      · exact Or.inr (h2 l hl e)
      · exact Or.inl (by simpa using e)
theorem ffc_cong {rn rn2 : Nat → Nat} {hands : Nat} (hr : ∀ l, l < 4 → rn l = rn2 l) : ∀ (m : Nat) (s s2 : Nat → Nat), (∀ l, l < 4 → s l = s2 l) → ffc rn hands m s = ffc rn2 hands m s2
  | 0, _, _, _ => by rw [ffc, ffc]
  | m + 1, s, s2, h => by
    rw [ffc, ffc]
    apply mnS_cong
    intro set _
    have e1 : okS rn hands (m + 1) s set = true ↔ okS rn2 hands (m + 1) s2 set = true := by
      rw [okS_iff, okS_iff]
      constructor
      · rintro ⟨a, b, c⟩
        exact ⟨fun l hl e => a l hl (by rw [h l hl]; exact e), fun l hl e => by rw [← h l hl, ← hr l hl]; exact b l hl e, c⟩
      · rintro ⟨a, b, c⟩
        exact ⟨fun l hl e => a l hl (by rw [← h l hl]; exact e), fun l hl e => by rw [h l hl, hr l hl]; exact b l hl e, c⟩
    have e2 : ffc rn hands m (aftS rn (m + 1) s set) = ffc rn2 hands m (aftS rn2 (m + 1) s2 set) := ffc_cong hr m _ _ (fun l hl => by unfold aftS; rw [h l hl, hr l hl])
    by_cases q : okS rn hands (m + 1) s set = true
    · rw [if_pos q, if_pos (e1.mp q), e2]
    · rw [if_neg q, if_neg (fun z => q (e1.mpr z))]
theorem recall_i {post : Int32 → Prop} {found : Nat → Int64} {slot : Nat} (hw : 0 ≤ (found (slot / 10)).toInt) (h8 : slot < 8771) (h : post (nI (fldN found slot))) : P_X7_recall post (nI slot) found := by
  unfold P_X7_recall
  have e10 : (10 : Int32) = nI 10 := rfl
  rw [e10, pk_rem (by omega) (by omega) (by omega), pk_div (by omega) (by omega) (by omega)]
  refine ⟨nIv (by omega) (by omega), ?_⟩
  rw [nI_clamp (by omega)]
  have hr := fb_rngL (found (slot / 10))
  have ew : found (slot / 10) = lN (found (slot / 10)).toInt.toNat := by
    rw [fa_eq64, pk_lT (by omega)]; omega
  have e63 : (63 : Int64) = lN (2 ^ 6 - 1) := rfl
  rw [ew, shrL (by omega) _ (6 * (slot % 10)) (sh6 _ (by omega)), e63, fb_maskL, lN_i]
  unfold fldN at h
  exact h
theorem keep_i {post : (Nat → Int64) → Prop} {found : Nat → Int64} {rn : Nat → Nat} {hands m : Nat} {s : Nat → Nat} (h1 : 1 ≤ m) (h7 : m ≤ 7) (hs : ∀ l, l < 4 → s l ≤ m) (hF : FOK found rn hands) (h : ∀ f, FOK f rn hands → post f) : P_X7_keep post (nI (slotN m s)) (nI (ffc rn hands m s + 1)) found := by
  have h8 := slot_lt h1 h7 hs
  have hv := ffc_le rn hands m s
  have hw := hF.1 (slotN m s / 10) (by omega)
  have hf := hF.2 m s h1 h7 hs
  unfold P_X7_keep
  have e10 : (10 : Int32) = nI 10 := rfl
  rw [e10, pk_rem (by omega) (by omega) (by omega), pk_div (by omega) (by omega) (by omega)]
  refine ⟨nIv (by omega) (by omega), ?_⟩
  rw [nI_clamp (by omega)]
  have ew : found (slotN m s / 10) = lN (found (slotN m s / 10)).toInt.toNat := by
    rw [fa_eq64, pk_lT (by omega)]; omega
  generalize hW : (found (slotN m s / 10)).toInt.toNat = W at *
  generalize hV : ffc rn hands m s + 1 = V at *
  generalize hJ : slotN m s % 10 = j at *
  have hj : j < 10 := by omega
  have hp : (2 : Nat) ^ (6 * j) ≤ 2 ^ 54 := Nat.pow_le_pow_right (by decide) (by omega)
  have hb : V * 2 ^ (6 * j) < 2 ^ 60 := by
    have : V * 2 ^ (6 * j) ≤ 63 * 2 ^ 54 := Nat.mul_le_mul (by omega) hp
    have : (63 : Nat) * 2 ^ 54 < 2 ^ 60 := by decide
    omega
  have ho : W ||| V * 2 ^ (6 * j) < 2 ^ 60 := Nat.or_lt_two_pow (by have : (2 : Nat) ^ 60 = 1152921504606846976 := by decide
                                                                    omega) hb
  intro f ef
  rw [ew, nI_l (by omega), shlL _ (6 * j) (sh6 j hj) (by omega), fb_orL] at ef
  subst ef
  have eo : (lN (W ||| V * 2 ^ (6 * j))).toInt.toNat = W ||| V * 2 ^ (6 * j) := by rw [pk_lT (by omega)]; omega
  apply h
  refine ⟨fun w hw2 => ?_, fun m2 s2 g1 g7 gs => ?_⟩
  · rw [vuL_at]
    by_cases q : w = slotN m s / 10
    · rw [if_pos q, pk_lT (by omega)]
      have : (2 : Nat) ^ 60 = 1152921504606846976 := by decide
      omega
    · rw [if_neg q]; exact hF.1 w hw2
  · by_cases q : slotN m2 s2 = slotN m s
    · obtain ⟨e1, e2⟩ := slot_inj g1 g7 gs h1 h7 hs q
      right
      rw [q]
      subst e1
      rw [ffc_cong (rn2 := rn) (fun _ _ => rfl) m2 s2 s e2, hV]
      unfold fldN
      rw [vuL_at, if_pos rfl, eo, hJ, fld_or _ _ _ _ (by omega), if_pos rfl]
      unfold fldN at hf
      rw [hW, hJ] at hf
      rcases hf with a | a
      · rw [a, Nat.zero_or]
      · rw [a, Nat.or_self]
    · have k := hF.2 m2 s2 g1 g7 gs
      have e : fldN (vp_updL found (slotN m s / 10) (lN (W ||| V * 2 ^ (6 * j)))) (slotN m2 s2) = fldN found (slotN m2 s2) := by
        unfold fldN
        rw [vuL_at]
        by_cases q2 : slotN m2 s2 / 10 = slotN m s / 10
        · rw [if_pos q2, eo, fld_or _ _ _ _ (by omega), if_neg (by omega), q2, hW]
        · rw [if_neg q2]
      rw [e]; exact k
