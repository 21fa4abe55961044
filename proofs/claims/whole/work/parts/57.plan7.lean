section ref
theorem add_m1 (x : Int32) : x + (-1 : Int32) = x - 1 := (Int32.sub_eq_add_neg x 1).symm
def yG (pl fu we : Nat → Int32) (l i last : Nat) : Int32 := (if nI last = 0 then pl l else fu l) - we l * (if nI last = 0 then nI i + 1 else nI i + 2 - nI last)
/-- what isGood answers -/
def rgd (pl fu we le : Nat → Int32) (l i last : Nat) : Bool := decide (¬ (if 0 ≤ yG pl fu we l i last then yG pl fu we l i last else 0) < le l)
theorem isGood_i {post : Int32 → Prop} {pl fu we le : Nat → Int32} {l i last : Nat} (hl : l < 4) (h1 : rgd pl fu we le l i last = true → post 1) (h0 : ¬ rgd pl fu we le l i last = true → post 0) : P_X11_isGood post (nI l) (nI i) (nI last) pl fu we le := by
  unfold P_X11_isGood
  intro v2 e2
  have vi : vp_in (nI l) 4 := nIv (by omega) (by omega)
  refine ⟨⟨fun _ => ⟨vi, trivial⟩, fun _ => ⟨vi, trivial⟩⟩, ?_⟩
  intro v6 e6
  refine ⟨vi, ?_⟩
  intro y8 e8 v10 e10 v12 e12
  rw [nIc (by omega)] at e6 e8 e12
  have ey : y8 = yG pl fu we l i last := by rw [e8, e6, e2]; rfl
  rw [ey] at e10
  unfold rgd at h1 h0
  rw [← e10] at h1 h0
  rw [decide_eq_true_eq] at h1 h0
  rw [e12]
  by_cases q : v10 < le l
  · rw [if_pos q]; exact h0 (fun z => z q)
  · rw [if_neg q]; exact h1 q
theorem power9_i {post : Int32 → Prop} {l : Nat} (hl : l < 4) (h : post (nI (9 ^ l))) : P_X11_power9 post (nI l) := by
  unfold P_X11_power9
  intro v ev
  have e : ∀ l : Nat, l < 4 → (if nI l = (0 : Int32) then (1 : Int32) else (if nI l = (1 : Int32) then (9 : Int32) else (if nI l = (2 : Int32) then (81 : Int32) else (729 : Int32)))) = nI (9 ^ l) := by decide
  rw [ev, e l hl]; exact h
def d9 (E l : Nat) : Nat := E / 9 ^ l % 9
def mk9 (st : Nat → Nat) : Nat → Nat
  | 0 => 0
  | l + 1 => mk9 st l + st l * 9 ^ l
theorem mk9_lt {st : Nat → Nat} (hs : ∀ l, l < 4 → st l ≤ 8) : mk9 st 4 < 6561 := by
  have h0 := hs 0 (by omega)
  have h1 := hs 1 (by omega)
  have h2 := hs 2 (by omega)
  have h3 := hs 3 (by omega)
  have e : mk9 st 4 = st 0 + st 1 * 9 + st 2 * 81 + st 3 * 729 := by simp [mk9]
  omega
theorem d9_mk {st : Nat → Nat} (hs : ∀ l, l < 4 → st l ≤ 8) {l : Nat} (hl : l < 4) : d9 (mk9 st 4) l = st l := by
  have h0 := hs 0 (by omega)
  have h1 := hs 1 (by omega)
  have h2 := hs 2 (by omega)
  have h3 := hs 3 (by omega)
  have e : mk9 st 4 = st 0 + st 1 * 9 + st 2 * 81 + st 3 * 729 := by simp [mk9]
  unfold d9
  rw [e]
  rcases (show l = 0 ∨ l = 1 ∨ l = 2 ∨ l = 3 by omega) with rfl | rfl | rfl | rfl <;> simp only [Nat.reducePow] <;> omega
theorem then_i {post : Int32 → Prop} {pl fu we le : Nat → Int32} {E i n : Nat} (hE : E < 6561) (hi : i ≤ 7) (hn : n < 16)
    (h1 : (∀ l, l < 4 → rgd pl fu we le l i (if n.testBit l then i + 1 else d9 E l) = true) → post (nI (mk9 (fun l => if n.testBit l then i + 1 else d9 E l) 4)))
    (h0 : ¬ (∀ l, l < 4 → rgd pl fu we le l i (if n.testBit l then i + 1 else d9 E l) = true) → post (-9)) : P_X11_then post (nI E) (nI i) (nI n) pl fu we le := by
  unfold P_X11_then
  intro X6 X38 hX h38
  have key : ∀ k j : Nat, j + k = 4 → (∀ l, l < j → rgd pl fu we le l i (if n.testBit l then i + 1 else d9 E l) = true) → X6 (nI (mk9 (fun l => if n.testBit l then i + 1 else d9 E l) j)) (nI j) := by
    intro k
    induction k with
    | zero =>
      intro j hj hg
      have e : j = 4 := by omega
      subst e
      apply hX
      have g : (4 : Int32) ≤ nI 4 := by decide
      exact ⟨fun _ => h1 hg, fun z => absurd g z⟩
    | succ k ih =>
      intro j hj hg
      have ih := ih (j + 1) (by omega)
      have st : ∀ v : Nat, v = (if n.testBit j then i + 1 else d9 E j) → X38 (nI (mk9 (fun l => if n.testBit l then i + 1 else d9 E l) j)) (nI j) (nI v) := by
        intro v ev
        apply h38
        refine isGood_i (by omega) (fun ok => ?_) (fun nok => ?_)
        · refine ⟨fun z => absurd z (by decide), fun _ => ?_⟩
          refine power9_i (by omega) ?_
          intro y8 e8 y9 e9
          rw [pk_mul, nI_add] at e8
          rw [nI_1] at e9
          subst e8
          subst e9
          rw [ev]
          refine ih (fun l hl => ?_)
          by_cases q : l = j
          · subst q; rw [← ev]; exact ok
          · exact hg l (by omega)
        · refine ⟨fun _ => h0 (fun z => nok ?_), fun z => absurd rfl z⟩
          rw [ev]; exact z j (by omega)
      apply hX
      have g : ¬ (4 : Int32) ≤ nI j := fun z => by have := (nI_leI (a := 4) (by omega) (by omega)).mp z; omega
      have hb := bitI n hn j (by omega)
      refine ⟨fun z => absurd z g, fun _ => ⟨fun z => ?_, fun z => ?_⟩⟩
      · rw [nI_1]
        exact st _ (by rw [if_pos (hb.mp z)])
      · refine power9_i (by omega) ?_
        have hp : 1 ≤ 9 ^ j ∧ 9 ^ j ≤ 729 := by
          rcases (show j = 0 ∨ j = 1 ∨ j = 2 ∨ j = 3 by omega) with rfl | rfl | rfl | rfl <;> decide
        have hd : E / 9 ^ j ≤ E := Nat.div_le_self _ _
        have e9 : (9 : Int32) = nI 9 := rfl
        have ne : ¬ nI (9 ^ j) = 0 := fun z => by have := (nI_eq (b := 0) (by omega) (by omega)).mp z; omega
        rw [pk_div (by omega) (by omega) (by omega), e9, pk_rem (by omega) (by omega) (by omega)]
        refine ⟨ne, st _ ?_⟩
        rw [if_neg (fun w => z (hb.mpr w))]
        rfl
  exact key 4 0 (by omega) (fun l hl => absurd hl (by omega))
variable {pl fu we le : Nat → Int32} {hands M : Nat}
/-- the months from i on are laid -/
def LPn (pl fu we le : Nat → Int32) (hands M : Nat) (f : Nat → Int32) (i : Nat) : Prop := ∀ j E : Nat, i ≤ j → j ≤ M → E < 6561 → f (6561 * j + E) = nI (rfv (rgd pl fu we le) hands (M - j) j (d9 E))
theorem ix (i E : Nat) : (6561 : Int32) * nI i + nI E = nI (6561 * i + E) := by
  have e : (6561 : Int32) = nI 6561 := rfl
  rw [e, pk_mul, nI_add]
theorem ix2 (i E : Nat) : (6561 : Int32) * nI i + (6561 : Int32) + nI E = nI (6561 * (i + 1) + E) := by
  have e : (6561 : Int32) = nI 6561 := rfl
  rw [e, pk_mul, nI_add, nI_add]
  congr 1
theorem ixv {i E : Nat} (hi : i ≤ 8) (hE : E < 6561) : vp_in (nI (6561 * i + E)) 59049 ∧ (nI (6561 * i + E)).toNatClampNeg = 6561 * i + E :=
  ⟨vp_in_nI (by omega) (by omega), nI_clamp (by omega)⟩
theorem layPlan_i {post : (Nat → Int32) → Prop} {f : Nat → Int32} (h1 : 1 ≤ M) (h8 : M ≤ 8) (hh : hands < 16) (h : ∀ f, LPn pl fu we le hands M f 0 → post f) : P_X11_layPlan post (nI M) pl fu we le (nI hands) f := by
  unfold P_X11_layPlan
  intro X2 X32 X38 X52 X84 h2 h32 h38 h52 h84
  have key : ∀ i : Nat, i ≤ M → ∀ f, LPn pl fu we le hands M f i → X32 (nI i - 1) f := by
    intro i
    induction i with
    | zero =>
      intro _ f hf
      apply h32
      have c : nI 0 - 1 < (0 : Int32) := by decide
      exact ⟨fun _ => h f hf, fun z => absurd c z⟩
    | succ i ih =>
      intro hi f hf
      have ih := ih (by omega)
      rw [nI_pred]
      apply h32
      have c : ¬ nI i < (0 : Int32) := fun z => by have := (nI_ltI (b := 0) (by omega) (by omega)).mp z; omega
      refine ⟨fun z => absurd z c, fun _ => ?_⟩
      have row : ∀ k E : Nat, E + k = 6561 → ∀ f, LPn pl fu we le hands M f (i + 1) → (∀ E2, E2 < E → f (6561 * i + E2) = nI (rfv (rgd pl fu we le) hands (M - i) i (d9 E2))) → X38 (nI i) (nI E) f := by
        intro k
        induction k with
        | zero =>
          intro E hE f hf hr
          have e : E = 6561 := by omega
          subst e
          apply h38
          have c : (6561 : Int32) ≤ nI 6561 := by decide
          refine ⟨fun _ y ey => ?_, fun z => absurd c z⟩
          have e1 : nI i + (-1 : Int32) = nI i - 1 := add_m1 _
          rw [ey, e1]
          refine ih f (fun j E h3 h4 h5 => ?_)
          by_cases q : j = i
          · subst q; exact hr E h5
          · exact hf j E (by omega) h4 h5
        | succ k ihk =>
          intro E hE f hf hr
          have ihk := ihk (E + 1) (by omega)
          apply h38
          have c : ¬ (6561 : Int32) ≤ nI E := fun z => by have := (nI_leI (a := 6561) (by omega) (by omega)).mp z; omega
          refine ⟨fun z => absurd z c, fun _ => ?_⟩
          have eM : M - i = M - (i + 1) + 1 := by omega
          have cell : ∀ d n : Nat, n + d = 16 → X52 (nI i) (nI E) (nI (mnT 1000000 (fun set => if rok (rgd pl fu we le) hands i (d9 E) set = true then onF set + rfv (rgd pl fu we le) hands (M - (i + 1)) (i + 1) (fun l => if set.testBit l then i + 1 else d9 E l) else 1000000) n)) (nI n) f := by
            intro d
            induction d with
            | zero =>
              intro n hn
              have e : n = 16 := by omega
              subst e
              apply h52
              have c : (16 : Int32) ≤ nI 16 := by decide
              refine ⟨fun _ => ?_, fun z => absurd c z⟩
              obtain ⟨v, n⟩ := ixv (i := i) (E := E) (by omega) (by omega)
              rw [ix]
              refine ⟨v, fun f2 e2 y ey => ?_⟩
              rw [n] at e2
              rw [nI_1] at ey
              subst ey
              refine ihk f2 (fun j E3 g1 g2 g3 => ?_) (fun E2 hE2 => ?_)
              · rw [e2, upd_at, if_neg (by omega)]; exact hf j E3 g1 g2 g3
              · rw [e2, upd_at]
                by_cases q : E2 = E
                · subst q; rw [if_pos rfl, eM, rfv]
                · rw [if_neg (by omega)]; exact hr E2 (by omega)
            | succ d ihd =>
              intro n hn
              have ihd := ihd (n + 1) (by omega)
              rw [mnT] at ihd
              have hT := mnT_top 1000000 (fun set => if rok (rgd pl fu we le) hands i (d9 E) set = true then onF set + rfv (rgd pl fu we le) hands (M - (i + 1)) (i + 1) (fun l => if set.testBit l then i + 1 else d9 E l) else 1000000) n
              generalize mnT 1000000 (fun set => if rok (rgd pl fu we le) hands i (d9 E) set = true then onF set + rfv (rgd pl fu we le) hands (M - (i + 1)) (i + 1) (fun l => if set.testBit l then i + 1 else d9 E l) else 1000000) n = T at *
              have ho := onF_le n
              have no : ¬ rok (rgd pl fu we le) hands i (d9 E) n = true → X84 (nI i) (nI E) (nI T) (nI n) (-9) f := by
                intro q
                rw [if_neg q, Nat.min_eq_left hT] at ihd
                apply h84
                refine ⟨fun _ v ev y ey => ?_, fun z => absurd rfl z⟩
                have c : nI T ≤ (1000000 : Int32) := (nI_leI (b := 1000000) (by omega) (by omega)).mpr hT
                rw [if_pos c] at ev
                rw [nI_1] at ey
                subst ey
                subst ev
                exact ihd
              apply h52
              have c : ¬ (16 : Int32) ≤ nI n := fun z => by have := (nI_leI (a := 16) (by omega) (by omega)).mp z; omega
              refine ⟨fun z => absurd z c, fun _ => ?_⟩
              refine ones_i (by omega) ?_
              refine ⟨fun z => no ?_, fun z => ?_⟩
              · have := (nI_ltI (by omega) (by omega)).mp z
                exact fun w => by have := (rok_iff.mp w).2; omega
              · have z2 : onF n ≤ hands := by
                  by_cases q : hands < onF n
                  · exact absurd ((nI_ltI (by omega) (by omega)).mpr q) z
                  · omega
                refine then_i (by omega) (by omega) (by omega) (fun ok => ?_) (fun nok => no (fun w => nok (rok_iff.mp w).1))
                rw [if_pos (rok_iff.mpr ⟨ok, z2⟩)] at ihd
                have hst : ∀ l, l < 4 → (fun l => if n.testBit l then i + 1 else d9 E l) l ≤ 8 := fun l _ => by
                  show (if n.testBit l then i + 1 else d9 E l) ≤ 8
                  unfold d9
                  split <;> omega
                have hlt := mk9_lt hst
                have hd := fun l hl => d9_mk hst (l := l) hl
                apply h84
                have ne : ∀ x : Nat, x < 6561 → ¬ nI x = (-9 : Int32) := fun x hx z => by
                  rw [fa_eq, nI_toInt (by omega)] at z
                  have : (-9 : Int32).toInt = -9 := by decide
                  omega
                refine ⟨fun z => absurd z (ne _ hlt), fun _ => ?_⟩
                refine ones_i (by omega) ?_
                rw [ix2]
                obtain ⟨v, n2⟩ := ixv (i := i + 1) (by omega) hlt
                refine ⟨v, fun y ey v2 ev2 y3 ey3 => ?_⟩
                rw [n2, hf (i + 1) _ (by omega) (by omega) hlt, rfv_cong _ _ _ _ hd, nI_add] at ey
                have hR := rfv_le (rgd pl fu we le) hands (M - (i + 1)) (i + 1) (fun l => if n.testBit l then i + 1 else d9 E l)
                generalize rfv (rgd pl fu we le) hands (M - (i + 1)) (i + 1) (fun l => if n.testBit l then i + 1 else d9 E l) = R at *
                rw [nI_1] at ey3
                subst ey3
                have ev3 : v2 = nI (min T (onF n + R)) := by
                  rw [ev2, ey]
                  by_cases q : T ≤ onF n + R
                  · rw [if_pos ((nI_leI (by omega) (by omega)).mpr q), Nat.min_eq_left q]
                  · rw [if_neg (fun z => q ((nI_leI (by omega) (by omega)).mp z)), Nat.min_eq_right (by omega)]
                rw [ev3]
                exact ihd
          exact cell 16 0 (by omega)
      exact row 6561 0 (by omega) f hf (fun E2 h2 => absurd h2 (by omega))
  have first : ∀ k E : Nat, E + k = 6561 → ∀ f, (∀ E2, E2 < E → f (6561 * M + E2) = 0) → X2 (nI E) f := by
    intro k
    induction k with
    | zero =>
      intro E hE f hf
      have e : E = 6561 := by omega
      subst e
      apply h2
      have c : (6561 : Int32) ≤ nI 6561 := by decide
      refine ⟨fun _ y ey => ?_, fun z => absurd c z⟩
      subst ey
      refine key M (by omega) f (fun j E2 g1 g2 g3 => ?_)
      have e : j = M := by omega
      subst e
      rw [hf E2 g3, Nat.sub_self, rfv]
      rfl
    | succ k ih =>
      intro E hE f hf
      have ih := ih (E + 1) (by omega)
      apply h2
      have c : ¬ (6561 : Int32) ≤ nI E := fun z => by have := (nI_leI (a := 6561) (by omega) (by omega)).mp z; omega
      refine ⟨fun z => absurd z c, fun _ => ?_⟩
      obtain ⟨v, n⟩ := ixv (i := M) (E := E) (by omega) (by omega)
      rw [ix]
      refine ⟨v, fun f2 e2 y ey => ?_⟩
      rw [n] at e2
      rw [nI_1] at ey
      subst ey
      refine ih f2 (fun E2 h2 => ?_)
      rw [e2, upd_at]
      by_cases q : E2 = E
      · subst q; rw [if_pos rfl]
      · rw [if_neg (by omega)]; exact hf E2 (by omega)
  exact first 6561 0 (by omega) f (fun E2 h2 => absurd h2 (by omega))
theorem gd_n {P W B : Int32} {n : Nat} (hP : 0 ≤ P.toInt ∧ P.toInt ≤ 200) (hW : 0 ≤ W.toInt ∧ W.toInt ≤ 99) (hB : 0 ≤ B.toInt ∧ B.toInt ≤ 100) (hn : n ≤ 9) : (¬ (if 0 ≤ P - W * nI n then P - W * nI n else 0) < B) ↔ B.toInt.toNat ≤ P.toInt.toNat - W.toInt.toNat * n := by
  obtain ⟨p, ep, rfl⟩ : ∃ p : Nat, P.toInt = p ∧ P = nI p := ⟨P.toInt.toNat, by omega, nI_as (by omega)⟩
  obtain ⟨w, ew, rfl⟩ : ∃ p : Nat, W.toInt = p ∧ W = nI p := ⟨W.toInt.toNat, by omega, nI_as (by omega)⟩
  obtain ⟨b, eb, rfl⟩ : ∃ p : Nat, B.toInt = p ∧ B = nI p := ⟨B.toInt.toNat, by omega, nI_as (by omega)⟩
  have hwn : w * n ≤ 99 * 9 := Nat.mul_le_mul (by omega) hn
  rw [ep, ew, eb, pk_mul]
  have t1 : (nI (w * n)).toInt = (w * n : Nat) := nI_toInt (by omega)
  have es : (nI p - nI (w * n)).toInt = (p : Int) - (w * n : Nat) := by rw [fb_subI (by omega) (by omega), ep, t1]
  have z : (0 : Int32).toInt = 0 := by decide
  generalize nI p - nI (w * n) = y at *
  simp only [Int.toNat_natCast]
  generalize w * n = wn at *
  by_cases q : 0 ≤ y
  · rw [if_pos q, fa_lt, es, eb]
    rw [fa_le, z, es] at q
    omega
  · rw [if_neg q, fa_lt, z, eb]
    rw [fa_le, z, es] at q
    omega
theorem rgd_is (hv : ∀ l : Nat, l < 4 → (0 ≤ (pl l).toInt ∧ (pl l).toInt ≤ 200) ∧ (0 ≤ (fu l).toInt ∧ (fu l).toInt ≤ 200) ∧ (0 ≤ (we l).toInt ∧ (we l).toInt ≤ 99) ∧ (0 ≤ (le l).toInt ∧ (le l).toInt ≤ 100)) :
    gIs (rgd pl fu we le) (fun l => if l < 4 then lstP (we l).toInt.toNat (le l).toInt.toNat (fu l).toInt.toNat else 0) (fun l => lstP (we l).toInt.toNat (le l).toInt.toNat (pl l).toInt.toNat) := by
  intro l i last hl hi hla
  obtain ⟨b0, b1, b2, b3⟩ := hv l hl
  unfold rgd yG
  rw [decide_eq_true_eq]
  simp only [if_pos hl]
  have e2 : (2 : Int32) = nI 2 := rfl
  by_cases q : last = 0
  · subst q
    have c : nI 0 = (0 : Int32) := rfl
    rw [if_pos rfl, if_pos c, if_pos c, nI_1, gd_n b0 b2 b3 (by omega)]
    exact (lstP_iff (by omega) (by omega)).symm
  · have c : ¬ nI last = (0 : Int32) := fun z => by have := (nI_eq (b := 0) (by omega) (by omega)).mp z; omega
    rw [if_neg q, if_neg c, if_neg c, e2, nI_add, pk_sub (by omega), gd_n b1 b2 b3 (by omega)]
    exact (lstP_iff (by omega) (by omega)).symm
end ref
