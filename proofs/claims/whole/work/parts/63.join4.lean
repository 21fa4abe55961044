theorem jn_lo {w : Nat → Nat → Nat} {nn : Nat → Bool} {q n : Nat} (hw : ∀ p f, w p f ≤ 1000) : ∀ k U : Nat, - (1000 * (k : Int)) ≤ jn w nn q n k U
  | 0, U => by rw [jn]; decide
  | k + 1, U => by
    rw [jn]
    rcases mnZ_at (if nn (n - (k + 1)) = true then jn w nn q n k U else 1000000) (fun f => if U.testBit f = false ∧ 0 < w (n - (k + 1)) f then - (w (n - (k + 1)) f : Int) + jn w nn q n k (U ||| 2 ^ f) else 1000000) q with e | ⟨j, hj, e⟩
    · rw [e]
      have := jn_lo (nn := nn) (q := q) (n := n) hw k U
      split <;> omega
    · rw [e]
      show _ ≤ if U.testBit j = false ∧ 0 < w (n - (k + 1)) j then - (w (n - (k + 1)) j : Int) + jn w nn q n k (U ||| 2 ^ j) else 1000000
      have := jn_lo (nn := nn) (q := q) (n := n) hw k (U ||| 2 ^ j)
      have := hw (n - (k + 1)) j
      split <;> omega
theorem jn_hi (w : Nat → Nat → Nat) (nn : Nat → Bool) (q n : Nat) : ∀ k U, jn w nn q n k U ≤ 1000000
  | 0, U => by rw [jn]; decide
  | k + 1, U => by
    rw [jn]
    refine Int.le_trans (mnZ_b _ _ _) ?_
    have := jn_hi w nn q n k U
    split <;> omega
section layM
variable {sg wt : Nat → Int32} {n q : Nat} {w : Nat → Nat → Nat} {nn : Nat → Bool}
def JL (w : Nat → Nat → Nat) (nn : Nat → Bool) (q n : Nat) (f : Nat → Int32) (p : Nat) : Prop := ∀ j U : Nat, p ≤ j → j ≤ n → U < 256 → (f (256 * j + U)).toInt = jn w nn q n (n - j) U
theorem jx (i E : Nat) : (256 : Int32) * nI i + nI E = nI (256 * i + E) := by
  have e : (256 : Int32) = nI 256 := rfl
  rw [e, pk_mul, nI_add]
theorem jx2 (i E : Nat) : (256 : Int32) * nI i + (256 : Int32) + nI E = nI (256 * (i + 1) + E) := by
  have e : (256 : Int32) = nI 256 := rfl
  rw [e, pk_mul, nI_add, nI_add]
  congr 1
theorem jxv {i E : Nat} (hi : i ≤ 8) (hE : E < 256) : vp_in (nI (256 * i + E)) 2304 ∧ (nI (256 * i + E)).toNatClampNeg = 256 * i + E :=
  ⟨vp_in_nI (by omega) (by omega), nI_clamp (by omega)⟩
theorem layJoin_i {post : Int32 → (Nat → Int32) → Prop} {marked joins : Nat → Int32} {p1 p2 : Int32} (hq : q ≤ 8) (hn : n ≤ 8) (hm0 : marked 0 = nI n) (hm1 : marked 1 = nI q) (h9 : ok9 sg wt n q) (hw : ∀ p f, w p f ≤ 1000)
    (hnn : ∀ p, p < n → (nn p = true ↔ (nI p = p1 → 8 ≤ p2)))
    (hy : ∀ p f, p < n → f < q → ¬ (nI p = p1 ∧ ¬ p2 = nI f) → w p f = wtJ sg wt n q p f)
    (hz : ∀ p f, p < n → f < q → (nI p = p1 ∧ ¬ p2 = nI f) → w p f = 0)
    (h : ∀ r f, r.toInt = jn w nn q n n 0 → JL w nn q n f 0 → post r f) : P_X11_layJoin post p1 p2 marked sg wt joins := by
  have em : (1000000 : Int32).toInt = 1000000 := by decide
  unfold P_X11_layJoin
  intro X10 X43 X51 X99 X132 X136 X157 h10 h43 h51 h99 h132 h136 h157
  have key : ∀ p : Nat, p ≤ n → ∀ f, JL w nn q n f p → X43 (nI p - 1) f := by
    intro p
    induction p with
    | zero =>
      intro _ f hf
      apply h43
      have c : nI 0 - 1 < (0 : Int32) := by decide
      have v : vp_in (0 : Int32) 2304 := vp_in_iff.mpr (by decide)
      refine ⟨fun _ => ⟨v, ?_⟩, fun z => absurd c z⟩
      have := hf 0 0 (by omega) (by omega) (by omega)
      exact h _ f this hf
    | succ p ih =>
      intro hp f hf
      have ih := ih (by omega)
      have ek : n - p = n - (p + 1) + 1 := by omega
      have ep : n - (n - (p + 1) + 1) = p := by omega
      rw [nI_pred]
      apply h43
      have c : ¬ nI p < (0 : Int32) := fun z => by have := (nI_ltI (b := 0) (by omega) (by omega)).mp z; omega
      refine ⟨fun z => absurd z c, fun _ => ?_⟩
      have row : ∀ k U : Nat, U + k = 256 → ∀ f, JL w nn q n f (p + 1) → (∀ U2, U2 < U → (f (256 * p + U2)).toInt = jn w nn q n (n - p) U2) → X51 (nI p) (nI U) f := by
        intro k
        induction k with
        | zero =>
          intro U hU f hf hr
          have e : U = 256 := by omega
          subst e
          apply h51
          have c : (256 : Int32) ≤ nI 256 := by decide
          refine ⟨fun _ y ey => ?_, fun z => absurd c z⟩
          have e1 : nI p + (-1 : Int32) = nI p - 1 := add_m1 _
          rw [ey, e1]
          refine ih f (fun j E h3 h4 h5 => ?_)
          by_cases e : j = p
          · subst e; exact hr E h5
          · exact hf j E (by omega) h4 h5
        | succ k ihk =>
          intro U hU f hf hr
          have ihk := ihk (U + 1) (by omega)
          have hJ : ∀ V, V < 256 → (f (256 * (p + 1) + V)).toInt = jn w nn q n (n - (p + 1)) V := fun V hV => hf (p + 1) V (by omega) (by omega) hV
          have lo := jn_lo (nn := nn) (q := q) (n := n) hw (n - (p + 1))
          have hi := jn_hi w nn q n (n - (p + 1))
          have cell : ∀ d j : Nat, j + d = q → ∀ x6 : Int32, x6.toInt = mnZ (if nn p = true then jn w nn q n (n - (p + 1)) U else 1000000) (fun g => if U.testBit g = false ∧ 0 < w p g then - (w p g : Int) + jn w nn q n (n - (p + 1)) (U ||| 2 ^ g) else 1000000) j → X99 (nI p) (nI U) x6 (nI j) f := by
            intro d
            induction d with
            | zero =>
              intro j hj x6 hx
              have e : j = q := by omega
              subst e
              apply h99
              refine ⟨v12, ?_⟩
              rw [c1, hm1]
              have c : nI j ≤ nI j := (nI_leI (by omega) (by omega)).mpr (Nat.le_refl _)
              refine ⟨fun _ => ?_, fun z => absurd c z⟩
              obtain ⟨v, nn1⟩ := jxv (i := p) (E := U) (by omega) (by omega)
              rw [jx]
              refine ⟨v, fun f2 e2 y ey => ?_⟩
              rw [nn1] at e2
              rw [nI_1] at ey
              subst ey
              refine ihk f2 (fun j2 V g1 g2 g3 => ?_) (fun U2 hU2 => ?_)
              · rw [e2, upd_at, if_neg (by omega)]; exact hf j2 V g1 g2 g3
              · rw [e2, upd_at]
                by_cases e : U2 = U
                · subst e; rw [if_pos rfl, hx, ek, jn, ep]
                · rw [if_neg (by omega)]; exact hr U2 (by omega)
            | succ d ihd =>
              intro j hj x6 hx
              have ihd := ihd (j + 1) (by omega)
              rw [mnZ] at ihd
              have hT : x6.toInt ≤ 1000000 := by
                rw [hx]
                refine Int.le_trans (mnZ_b _ _ _) ?_
                have := hi U
                split <;> omega
              have no : ¬ (U.testBit j = false ∧ 0 < w p j) → X157 (nI p) (nI U) x6 (nI j) (-9) f := by
                intro g
                rw [if_neg g] at ihd
                apply h157
                refine ⟨⟨fun _ => trivial, fun z => absurd rfl z⟩, ?_⟩
                intro v31 e31 v33 e33 y ey
                rw [nI_1] at ey
                subst ey
                rw [if_pos rfl] at e31
                rw [e31, if_pos (by rw [fa_le, em]; exact hT)] at e33
                rw [e33]
                refine ihd x6 ?_
                omega
              have no136 : ¬ (U.testBit j = false ∧ 0 < w p j) → X136 (nI p) (nI U) x6 (nI j) f := by
                intro g
                apply h136
                exact ⟨fun _ => no g, fun z => absurd rfl z⟩
              have may : ¬ (nI p = p1 ∧ ¬ p2 = nI j) → U.testBit j = false → X132 (nI p) (nI U) x6 (nI j) f := by
                intro g hb
                have ew := hy p j (by omega) (by omega) g
                have iP : (nI p).toInt = p := nI_toInt (by omega)
                have iJ : (nI j).toInt = j := nI_toInt (by omega)
                apply h132
                refine ⟨fun z => absurd z (by decide), fun _ => ?_⟩
                refine costOf_i (by omega) (by omega) ?_
                have e1 : (nI p).toInt.toNat = p := by omega
                have e2 : (nI j).toInt.toNat = j := by omega
                rw [e1, e2]
                rcases prc_wt (n := n) (q := q) (show p < n by omega) (show j < q by omega) (h9 p j (by omega) (by omega)) with ⟨a, b⟩ | ⟨c, hc, a, a2, b⟩
                · rw [a]
                  exact no (fun g => by omega)
                · rw [a]
                  have w0 : 0 < w p j := by omega
                  rw [if_pos (show U.testBit j = false ∧ 0 < w p j from ⟨hb, w0⟩)] at ihd
                  obtain ⟨o1, o2⟩ := or8 U (by omega) j (by omega)
                  obtain ⟨v, n1⟩ := jxv (i := p + 1) (E := U ||| 2 ^ j) (by omega) o2
                  apply h157
                  rw [o1, jx2]
                  refine ⟨⟨fun _ => trivial, fun _ => ⟨v, trivial⟩⟩, ?_⟩
                  intro v31 e31 v33 e33 y ey
                  rw [nI_1] at ey
                  subst ey
                  have hl := lo (U ||| 2 ^ j)
                  have hh := hi (U ||| 2 ^ j)
                  have hv : v31.toInt = - (w p j : Int) + jn w nn q n (n - (p + 1)) (U ||| 2 ^ j) := by
                    rw [e31, if_neg a2, n1]
                    have t1 : (nI c - (1000 : Int32)).toInt = (c : Int) - 1000 := by
                      have e3 : (1000 : Int32).toInt = 1000 := by decide
                      have e4 : (nI c).toInt = c := nI_toInt (by omega)
                      rw [fb_subI (by omega) (by omega), e3, e4]
                    rw [fb_addI (by rw [t1, hJ _ o2]; omega) (by rw [t1, hJ _ o2]; omega), t1, hJ _ o2, ew, b]
                    omega
                  refine ihd v33 ?_
                  rw [e33, ← hv, ← hx]
                  by_cases cc : x6 ≤ v31
                  · rw [if_pos cc]; rw [fa_le] at cc; omega
                  · rw [if_neg cc]; rw [fa_le] at cc; omega
              apply h99
              refine ⟨v12, ?_⟩
              rw [c1, hm1]
              have c : ¬ nI q ≤ nI j := fun z => by have := (nI_leI (by omega) (by omega)).mp z; omega
              refine ⟨fun z => absurd z c, fun _ => ⟨fun z => ⟨fun zp => ⟨fun z2 => ?_, fun z2 => ?_⟩, fun zp => ?_⟩, fun z => ?_⟩⟩
              · exact may (fun g => g.2 z2) ((bit8z U (by omega) j (by omega)).mp z)
              · exact no136 (fun g => by have := hz p j (by omega) (by omega) ⟨zp, z2⟩; omega)
              · exact may (fun g => zp g.1) ((bit8z U (by omega) j (by omega)).mp z)
              · exact no136 (fun g => z ((bit8z U (by omega) j (by omega)).mpr g.1))
          apply h51
          have c : ¬ (256 : Int32) ≤ nI U := fun z => by have := (nI_leI (a := 256) (by omega) (by omega)).mp z; omega
          refine ⟨fun z => absurd z c, fun _ => ?_⟩
          obtain ⟨v, n1⟩ := jxv (i := p + 1) (E := U) (by omega) (by omega)
          rw [jx2]
          refine ⟨⟨fun _ => ⟨fun _ => ⟨v, trivial⟩, fun _ => trivial⟩, fun _ => ⟨v, trivial⟩⟩, ?_⟩
          intro v16 e16
          refine cell q 0 (by omega) v16 ?_
          rw [mnZ, e16, n1]
          by_cases cp : nI p = p1
          · rw [if_pos cp]
            by_cases c8 : (8 : Int32) ≤ p2
            · rw [if_pos c8, if_pos ((hnn p (by omega)).mpr (fun _ => c8)), hJ U (by omega)]
            · rw [if_neg c8, if_neg (fun g => c8 ((hnn p (by omega)).mp g cp)), em]
          · rw [if_neg cp, if_pos ((hnn p (by omega)).mpr (fun g => absurd g cp)), hJ U (by omega)]
      exact row 256 0 (by omega) f hf (fun E2 h2 => absurd h2 (by omega))
  have first : ∀ k U : Nat, U + k = 256 → ∀ f : Nat → Int32, (∀ U2, U2 < U → f (256 * n + U2) = 0) → X10 (nI n) (nI U) f := by
    intro k
    induction k with
    | zero =>
      intro U hU f hf
      have e : U = 256 := by omega
      subst e
      apply h10
      have c : (256 : Int32) ≤ nI 256 := by decide
      refine ⟨fun _ y ey => ?_, fun z => absurd c z⟩
      subst ey
      refine key n (by omega) f (fun j U2 g1 g2 g3 => ?_)
      have e : j = n := by omega
      subst e
      rw [hf U2 g3, Nat.sub_self, jn]
      rfl
    | succ k ih =>
      intro U hU f hf
      have ih := ih (U + 1) (by omega)
      apply h10
      have c : ¬ (256 : Int32) ≤ nI U := fun z => by have := (nI_leI (a := 256) (by omega) (by omega)).mp z; omega
      refine ⟨fun z => absurd z c, fun _ => ?_⟩
      obtain ⟨v, n1⟩ := jxv (i := n) (E := U) (by omega) (by omega)
      rw [jx]
      refine ⟨v, fun f2 e2 y ey => ?_⟩
      rw [n1] at e2
      rw [nI_1] at ey
      subst ey
      refine ih f2 (fun E2 h2 => ?_)
      rw [e2, upd_at]
      by_cases e : E2 = U
      · subst e; rw [if_pos rfl]
      · rw [if_neg (by omega)]; exact hf E2 (by omega)
  refine ⟨v02, ?_⟩
  intro y ey
  rw [c0, hm0] at ey
  subst ey
  exact first 256 0 (by omega) joins (fun E2 h2 => absurd h2 (by omega))
end layM
