theorem minI {a b : Nat} (ha : a < 1000) (hb : b < 1000) : (if nI a < nI b then nI a else nI b) = nI (min b a) := by
  by_cases q : a < b
  · rw [if_pos ((nI_ltI (by omega) (by omega)).mpr q), Nat.min_eq_right (by omega)]
  · rw [if_neg (fun z => q ((nI_ltI (by omega) (by omega)).mp z)), Nat.min_eq_left (by omega)]
/-- the state of LOTS now -/
def nowS (values : Nat → Int32) (l : Nat) : Nat := lstP (values (4 * l + 2)).toInt.toNat (values (4 * l + 3)).toInt.toNat (values (4 * l)).toInt.toNat
theorem stateNow_i {post : Int32 → (Nat → Int32) → Prop} {values renewed : Nat → Int32} {m : Nat} (hm : m ≤ 8)
    (hv : ∀ l : Nat, l < 4 → (0 ≤ (values (4 * l)).toInt ∧ (values (4 * l)).toInt ≤ 200) ∧ (0 ≤ (values (4 * l + 1)).toInt ∧ (values (4 * l + 1)).toInt ≤ 200) ∧ (0 ≤ (values (4 * l + 2)).toInt ∧ (values (4 * l + 2)).toInt ≤ 99) ∧ (0 ≤ (values (4 * l + 3)).toInt ∧ (values (4 * l + 3)).toInt ≤ 100))
    (h : ∀ rw : Nat → Int32, (∀ l, l < 4 → rw l = nI (rnV values l)) → post (nI (mkP (fun l => min m (nowS values l)) 4)) rw) : P_X7_stateNow post (nI m) values renewed := by
  unfold P_X7_stateNow
  intro X hX
  have h16 : ∀ l, l < 4 → min m (nowS values l) < 16 := fun l _ => by omega
  have key : ∀ k i : Nat, i + k = 4 → ∀ rw : Nat → Int32, (∀ l, l < i → rw l = nI (rnV values l)) → X (nI (mkP (fun l => min m (nowS values l)) i)) (nI i) rw := by
    intro k
    induction k with
    | zero =>
      intro i hi rw hrw
      have e : i = 4 := by omega
      subst e
      apply hX
      have g : (4 : Int32) ≤ nI 4 := by decide
      simp +decide only [g, within_iff, in_iff, all_eq, bz_0, bz_1, bzT, bzF, nem, bz_or, i64, Int32.reduceToInt, Int64.reduceToInt, and_true, true_and, and_self, not_true_eq_false, not_false_eq_true, false_implies, true_implies, eq_self, implies_true, false_and, and_false, Classical.not_not, Int.reduceLT, Int.reduceLE, Int.reduceEq, reduceIte, reduceCtorEq, and_imp, imp_false, false_or, or_false, true_or, or_true]
      exact h rw hrw
    | succ k ih =>
      intro i hi rw hrw
      have ih := ih (i + 1) (by omega)
      apply hX
      have g : ¬ (4 : Int32) ≤ nI i := fun z => by have := (nI_leI (a := 4) (by omega) (by omega)).mp z; omega
      have il : (nI i).toInt = i := nI_toInt (by omega)
      have it : (nI i).toInt.toNat = i := by omega
      obtain ⟨v0, n0⟩ := lot_no (p := nI i) (w := 0) (i := 0) (by omega) (by decide) (by omega)
      obtain ⟨v1, n1⟩ := lot_no (p := nI i) (w := 1) (i := 1) (by omega) (by decide) (by omega)
      rw [it] at n0 n1
      obtain ⟨b0, b1, b2, b3⟩ := hv i (by omega)
      refine ⟨fun z => absurd z g, fun _ => ⟨v1, ?_⟩⟩
      rw [n1]
      refine lasts_i (by omega) b2 b3 b1 ?_
      refine ⟨nIv (by omega) (by omega), fun rw2 e2 => ⟨v0, ?_⟩⟩
      rw [n0]
      refine lasts_i (by omega) b2 b3 b0 ?_
      intro y8 e8 y9 e9 y10 e10
      have hl := lstP_le (values (4 * i + 2)).toInt.toNat (values (4 * i + 3)).toInt.toNat (values (4 * i + 0)).toInt.toNat
      rw [minI (by omega) (by omega)] at e8
      rw [e8, put4 (mkP_lt h16 i (by omega)) (by omega) (by omega)] at e9
      rw [nI_1] at e10
      subst e9
      subst e10
      refine ih rw2 (fun l hl2 => ?_)
      rw [e2, nIc (by omega), upd_at]
      by_cases q : l = i
      · rw [if_pos q, q]; unfold rnV; rw [if_pos (by omega)]
      · rw [if_neg q]; exact hrw l (by omega)
  exact key 4 0 (by omega) renewed (fun l hl => absurd hl (by omega))
theorem leastSet_i {rn : Nat → Nat} {hands : Nat} {renewed : Nat → Int32} {found : Nat → Int64} {post : Int32 → (Nat → Int64) → Prop} {m : Nat} {s : Nat → Nat} (hr : ∀ l, l < 4 → renewed l = nI (rn l) ∧ rn l < 16) (hh : hands < 16) (h8 : m + 1 ≤ 8) (hs : ∀ l, l < 4 → s l ≤ m + 1) (hF : FOK found rn hands)
    (hn : 62 ≤ ffc rn hands (m + 1) s → ∀ f, FOK f rn hands → post (-9) f)
    (h : ffc rn hands (m + 1) s < 62 → pick rn hands m s < 16 → onF (pick rn hands m s) + ffc rn hands m (aftS rn (m + 1) s (pick rn hands m s)) = ffc rn hands (m + 1) s → ∀ f, FOK f rn hands → post (nI (pick rn hands m s)) f) :
    P_X7_leastSet post (nI (m + 1)) (nI (mkP s 4)) renewed found (nI hands) := by
  have hs16 : ∀ l, l < 4 → s l < 16 := fun l hl => by have := hs l hl; omega
  have hle := ffc_le rn hands (m + 1) s
  unfold P_X7_leastSet
  intro X hX
  refine fewest_i hr hh (m + 1) 9 s found _ (by omega) h8 hs hF (fun f hf => ?_)
  by_cases q : ffc rn hands (m + 1) s < 62
  · have c : nI (ffc rn hands (m + 1) s) < (62 : Int32) := (nI_ltI (b := 62) (by omega) (by omega)).mpr q
    refine ⟨fun _ => ?_, fun z => absurd c z⟩
    refine must_i hs16 ?_
    refine may_i hs16 (by omega) hr ?_
    have key : ∀ k n : Nat, n + k = 16 → (∀ j, j < n → ¬ (okS rn hands (m + 1) s j = true ∧ onF j + ffc rn hands m (aftS rn (m + 1) s j) = ffc rn hands (m + 1) s)) → ∀ f, FOK f rn hands → X (nI (ffc rn hands (m + 1) s)) (nI (stP (fun l => s l == 0) 4)) (nI (stP (fun l => decide (s l < min (m + 1) (rn l))) 4)) (nI n) f := by
      intro k
      induction k with
      | zero =>
        intro n hn hj f hf
        exfalso
        rcases ffc_at rn hands m s with e | ⟨j, hj16, ok, e⟩
        · omega
        · exact hj j (by omega) ⟨ok, e.symm⟩
      | succ k ihk =>
        intro n hn hj f hf
        have ihk := ihk (n + 1) (by omega)
        apply hX
        have g : ¬ (16 : Int32) ≤ nI n := fun z => by have := (nI_leI (a := 16) (by omega) (by omega)).mp z; omega
        refine ⟨fun z => absurd z g, fun _ => ?_⟩
        refine allowed_i (by omega) hh (fun ok => ?_) (fun nok => ?_)
        · refine ⟨fun z => absurd z (by decide), fun _ => ?_⟩
          refine bit_i (by omega) ?_
          refine after_i hs16 (by omega) (by omega) hr ?_
          have e1 : nI (m + 1) - 1 = nI m := nI_pred m
          rw [e1]
          refine fewest_i hr hh m 9 _ f _ (by omega) (by omega) (fun l _ => by unfold aftS; omega) hf (fun f2 hf2 => ?_)
          have hl := ffc_le rn hands m (aftS rn (m + 1) s n)
          have ho := onF_le n
          have ee : nI (onF n) + nI (ffc rn hands m (aftS rn (m + 1) s n)) = nI (ffc rn hands (m + 1) s) ↔ onF n + ffc rn hands m (aftS rn (m + 1) s n) = ffc rn hands (m + 1) s := by
            rw [nI_add]; exact nI_eq (by omega) (by omega)
          refine ⟨fun z => ?_, fun z y ey => ?_⟩
          · have e := ee.mp z
            have ep := pick_eq (by omega) ok e hj
            have := h q (by omega) (by rw [ep]; exact e) f2 hf2
            rw [ep] at this
            exact this
          · rw [nI_1] at ey
            subst ey
            refine ihk (fun j hj2 => ?_) f2 hf2
            by_cases qj : j = n
            · subst qj; exact fun w => z (ee.mpr w.2)
            · exact hj j (by omega)
        · refine ⟨fun _ y ey => ?_, fun z => absurd rfl z⟩
          rw [nI_1] at ey
          subst ey
          refine ihk (fun j hj2 => ?_) f hf
          by_cases qj : j = n
          · subst qj; exact fun w => nok w.1
          · exact hj j (by omega)
    exact key 16 0 (by omega) (fun j hj => absurd hj (by omega)) f hf
  · have c : ¬ nI (ffc rn hands (m + 1) s) < (62 : Int32) := fun z => q ((nI_ltI (b := 62) (by omega) (by omega)).mp z)
    exact ⟨fun z => absurd z c, fun _ => hn (by omega) f hf⟩
theorem n9 : ∀ n : Nat, n < 16 → ¬ nI n = (-9 : Int32) := by decide
section over
variable {values renewed : Nat → Int32} {found : Nat → Int64} {hands : Nat} {M : Nat}
theorem fewestOver_i (h1 : 1 ≤ M) (h8 : M ≤ 8) (hh : hands < 16) (hv : ∀ l : Nat, l < 4 → (0 ≤ (values (4 * l)).toInt ∧ (values (4 * l)).toInt ≤ 200) ∧ (0 ≤ (values (4 * l + 1)).toInt ∧ (values (4 * l + 1)).toInt ≤ 200) ∧ (0 ≤ (values (4 * l + 2)).toInt ∧ (values (4 * l + 2)).toInt ≤ 99) ∧ (0 ≤ (values (4 * l + 3)).toInt ∧ (values (4 * l + 3)).toInt ≤ 100)) (hF : FOK found (rnV values) hands) {post : Int32 → (Nat → Int32) → (Nat → Int64) → Prop} (h : ∀ rw f, FOK f (rnV values) hands → post (if ffc (rnV values) hands M (fun l => min M (nowS values l)) < 62 then nI (ffc (rnV values) hands M (fun l => min M (nowS values l))) else -9) rw f) : P_X7_fewestOver post (nI M) values renewed found (nI hands) := by
  have hle := ffc_le (rnV values) hands M (fun l => min M (nowS values l))
  unfold P_X7_fewestOver
  refine stateNow_i h8 hv (fun rw hrw => ?_)
  refine fewest_i (rn := rnV values) (fun l hl => ⟨hrw l hl, by unfold rnV; rw [if_pos hl]; have := lstP_le (values (4 * l + 2)).toInt.toNat (values (4 * l + 3)).toInt.toNat (values (4 * l + 1)).toInt.toNat; omega⟩) hh M 9 _ found _ (by omega) h8 (fun l _ => by omega) hF (fun f hf => ?_)
  intro v ev
  subst ev
  have c : nI (ffc (rnV values) hands M (fun l => min M (nowS values l))) < (62 : Int32) ↔ ffc (rnV values) hands M (fun l => min M (nowS values l)) < 62 := nI_ltI (b := 62) (by omega) (by omega)
  have := h rw f hf
  by_cases q : ffc (rnV values) hands M (fun l => min M (nowS values l)) < 62
  · rw [if_pos (c.mpr q)]; rw [if_pos q] at this; exact this
  · rw [if_neg (fun z => q (c.mp z))]; rw [if_neg q] at this; exact this
theorem setOfMonth_i (h1 : 1 ≤ M) (h8 : M ≤ 8) (hh : hands < 16) (hv : ∀ l : Nat, l < 4 → (0 ≤ (values (4 * l)).toInt ∧ (values (4 * l)).toInt ≤ 200) ∧ (0 ≤ (values (4 * l + 1)).toInt ∧ (values (4 * l + 1)).toInt ≤ 200) ∧ (0 ≤ (values (4 * l + 2)).toInt ∧ (values (4 * l + 2)).toInt ≤ 99) ∧ (0 ≤ (values (4 * l + 3)).toInt ∧ (values (4 * l + 3)).toInt ≤ 100)) (hF : FOK found (rnV values) hands) {post : Int32 → (Nat → Int32) → (Nat → Int64) → Prop} {I : Nat} (hI : I < M) (h : ∀ rw f, FOK f (rnV values) hands → post (if ffc (rnV values) hands M (fun l => min M (nowS values l)) < 62 then nI (walkP (rnV values) hands I M (fun l => min M (nowS values l))) else -9) rw f) : P_X7_setOfMonth post (nI M) (nI I) values renewed found (nI hands) := by
  unfold P_X7_setOfMonth
  intro X hX
  refine stateNow_i h8 hv (fun rw hrw => ?_)
  have hr : ∀ l, l < 4 → rw l = nI (rnV values l) ∧ rnV values l < 16 := fun l hl => ⟨hrw l hl, by unfold rnV; rw [if_pos hl]; have := lstP_le (values (4 * l + 2)).toInt.toNat (values (4 * l + 3)).toInt.toNat (values (4 * l + 1)).toInt.toNat; omega⟩
  by_cases q : ffc (rnV values) hands M (fun l => min M (nowS values l)) < 62
  · simp only [if_pos q] at h
    have key : ∀ n g : Nat, g + n = I + 1 → ∀ (s : Nat → Nat) (x4 : Int32) (f : Nat → Int64), (∀ l, l < 4 → s l ≤ M - g) → FOK f (rnV values) hands → (n = 0 → x4 = nI (walkP (rnV values) hands I M (fun l => min M (nowS values l)))) → (0 < n → ffc (rnV values) hands (M - g) s < 62 ∧ walkP (rnV values) hands (n - 1) (M - g) s = walkP (rnV values) hands I M (fun l => min M (nowS values l))) → X (nI (mkP s 4)) x4 (nI g) rw f := by
      intro n
      induction n with
      | zero =>
        intro g hg s x4 f hs hf h0 _
        apply hX
        have c : nI I < nI g := (nI_ltI (by omega) (by omega)).mpr (by omega)
        refine ⟨fun _ => ?_, fun z => absurd c z⟩
        rw [h0 rfl]
        exact h rw f hf
      | succ n ih =>
        intro g hg s x4 f hs hf _ hw
        obtain ⟨w1, w2⟩ := hw (by omega)
        apply hX
        have c : ¬ nI I < nI g := fun z => by have := (nI_ltI (by omega) (by omega)).mp z; omega
        refine ⟨fun z => absurd z c, fun _ => ?_⟩
        have em : nI M - nI g = nI (M - g - 1 + 1) := by rw [pk_sub (by omega)]; congr 1; omega
        have em2 : M - g - 1 + 1 = M - g := by omega
        rw [em]
        refine leastSet_i hr hh (by omega) (by rw [em2]; exact hs) hf (fun z => absurd z (by rw [em2]; omega)) (fun _ hp he f2 hf2 => ?_)
        refine ⟨fun z => absurd z (n9 _ hp), fun _ => ?_⟩
        refine after_i (fun l hl => by have := hs l hl; omega) (by omega) hp hr ?_
        intro y ey
        rw [nI_1] at ey
        subst ey
        have hle := ffc_le (rnV values) hands (M - g - 1) (aftS (rnV values) (M - g - 1 + 1) s (pick (rnV values) hands (M - g - 1) s))
        rw [em2] at he hle ⊢
        have e3 : M - (g + 1) = M - g - 1 := by omega
        refine ih (g + 1) (by omega) _ _ f2 (fun l _ => by unfold aftS; omega) hf2 (fun e0 => ?_) (fun e0 => ⟨by rw [e3]; omega, ?_⟩)
        · subst e0
          rw [← w2, Nat.zero_add, Nat.sub_self, walkP]
        · rw [e3, ← w2]
          obtain ⟨n, rfl⟩ : ∃ k, n = k + 1 := ⟨n - 1, by omega⟩
          show _ = walkP (rnV values) hands (n + 1) (M - g) s
          rw [walkP]
          rfl
    exact key (I + 1) 0 (by omega) _ _ found (fun l _ => by omega) hF (fun e => absurd e (by omega)) (fun _ => ⟨q, rfl⟩)
  · simp only [if_neg q] at h
    have hX0 := hX (nI (mkP (fun l => min M (nowS values l)) 4)) (-9) (nI 0) rw found
    apply hX0
    have c : ¬ nI I < nI 0 := fun z => by have := (nI_ltI (by omega) (by omega)).mp z; omega
    refine ⟨fun z => absurd z c, fun _ => ?_⟩
    have em : nI M - nI 0 = nI (M - 1 + 1) := by rw [pk_sub (by omega)]; congr 1; omega
    have em2 : M - 1 + 1 = M := by omega
    rw [em]
    refine leastSet_i hr hh (by omega) (by rw [em2]; exact fun l _ => by omega) hF (fun _ f hf => ?_) (fun z _ _ _ _ => absurd z (by rw [em2]; exact q))
    exact ⟨fun _ => h rw f hf, fun z => absurd rfl z⟩
end over
