theorem nne9 {n : Nat} (h : n < 1000000) : ¬ nI n = (-9 : Int32) := fun z => by
  rw [fa_eq, nI_toInt (by omega)] at z
  have : (-9 : Int32).toInt = -9 := by decide
  omega
section joinE
variable {mk_sign mk_weight : Nat → Int32} {mk_pieces mk_finds : Int32} {m_marked m_signs m_weights m_joins : Nat → Int32} {pr_best pr_gain : Nat → Int64}
theorem RM_ok (hR : RM mk_sign mk_weight mk_pieces mk_finds m_marked m_signs m_weights) : ∃ n q : Nat, n ≤ 8 ∧ q ≤ 8 ∧ mk_pieces = nI n ∧ mk_finds = nI q ∧ m_marked 0 = nI n ∧ m_marked 1 = nI q ∧ m_signs = mk_sign ∧ m_weights = mk_weight ∧ ok9 mk_sign mk_weight n q := by
  obtain ⟨⟨e1, e2, e3, e4⟩, z0, z1, hp, hf⟩ := hR
  refine ⟨mk_pieces.toInt.toNat, mk_finds.toInt.toNat, by omega, by omega, nI_as z0.1, nI_as z1.1, by rw [e3]; exact nI_as z0.1, by rw [e4]; exact nI_as z1.1, e1, e2, fun p f h1 h2 => ?_⟩
  exact prc_rng (hp p (by omega)) (hf f (by omega))
section best
variable {sg wt : Nat → Int32} {n q : Nat}
theorem bestOf_i (hq : q ≤ 8) (hn : n ≤ 8) (h9 : ok9 sg wt n q) {post : Int64 → (Nat → Int64) → (Nat → Int64) → Prop} (h : ∀ b g, post (lN (bst (gnJ (wtJ sg wt n q) (fun _ => false)) q n (2 ^ q - 1))) b g) : P_X6_bestOf post sg wt (nI n) (nI q) pr_best pr_gain := by
  have h1 : 0 < 2 ^ q := Nat.pow_pos (by decide)
  have h2 := all8 q hq
  unfold P_X6_bestOf
  refine pairAll_i hq hn h9 (fun _ => false) (fun p hp => ⟨fun z => absurd z (nne9 (by omega)), fun z => absurd z (by decide)⟩) (fun b g hb => ?_)
  rw [h2.1, nIc (by omega), hb _ (by omega)]
  exact ⟨nIv (by omega) (by omega), h b g⟩
theorem opt_of (hq : q ≤ 8) (hn : n ≤ 8) (h9 : ok9 sg wt n q) : ∃ a, Opt (wtJ sg wt n q) q n a ∧ sB (fun p => wtJ sg wt n q p (a p)) 0 n ≤ 8000 ∧ sB (fun p => dgJ p (a p)) 0 n < 43046721 := by
  obtain ⟨a, o⟩ := opt_ex (wt := wtJ sg wt n q) hq hn (wtJ_8 sg wt n hq) (wtJ_le sg wt n q)
  have d := dgJ_sum a n 0 (by omega)
  have pp : 0 < 9 ^ (8 - 0 - n) := Nat.pow_pos (by decide)
  have p2 : 9 ^ (8 - 0) = 43046721 := by decide
  have hT := wt_sum (wtJ_le sg wt n q) a n 0
  exact ⟨a, o, by omega, by omega⟩
theorem lay_i (hq : q ≤ 8) (hn : n ≤ 8) (h9 : ok9 sg wt n q) {post : Int32 → (Nat → Int32) → Prop} {marked joins : Nat → Int32} (hm0 : marked 0 = nI n) (hm1 : marked 1 = nI q) (h : ∀ r f, r.toInt = jn (wtJ sg wt n q) (fun _ => true) q n n 0 → JL (wtJ sg wt n q) (fun _ => true) q n f 0 → post r f) : P_X11_layJoin post (-9) (-9) marked sg wt joins :=
  layJoin_i hq hn hm0 hm1 h9 (wtJ_le sg wt n q) (fun p hp => ⟨fun _ z => absurd z (nne9 (by omega)), fun _ => rfl⟩) (fun p f _ _ _ => rfl) (fun p f hp _ z => absurd z.1 (nne9 (by omega))) h
end best
theorem pairs_c {W D : Nat} (hW : W ≤ 8000) (hD : D < 43046721) : lN (W * 43046721 + D) / (43046721 : Int64) = lN W := by
  have e : (43046721 : Int64) = lN 43046721 := rfl
  rw [e, pk_lDiv (by omega) (by omega) (by omega), Nat.add_comm, Nat.add_mul_div_right _ _ (by decide), Nat.div_eq_of_lt hD, Nat.zero_add]
theorem pairsIn_c {W D : Nat} (hW : W ≤ 8000) (hD : D < 43046721) : ((((lN (W * 43046721 + D) / (43046721 : Int64)) + (1000 : Int64)) - (1 : Int64)) / (1000 : Int64)).toInt32 = nI ((W + 999) / 1000) := by
  have e1 : (1000 : Int64) = lN 1000 := rfl
  have e2 : (1 : Int64) = lN 1 := rfl
  rw [pairs_c hW hD, e1, e2, lN_add, lN_sub (by omega), pk_lDiv (by omega) (by omega) (by omega), lN_i]
  have e3 : W + 1000 - 1 = W + 999 := by omega
  rw [e3]
theorem pairsOf_c {W : Nat} {r : Int32} (hW : W ≤ 8000) (hr : r.toInt = - (W : Int)) : ((-r) + (999 : Int32)) / (1000 : Int32) = nI ((W + 999) / 1000) := by
  have e1 : -r = nI W := by rw [fa_eq, fb_negI (by omega), hr, nI_toInt (by omega)]; omega
  have e2 : (999 : Int32) = nI 999 := rfl
  have e3 : (1000 : Int32) = nI 1000 := rfl
  rw [e1, e2, e3, nI_add, pk_div (by omega) (by omega) (by omega)]
theorem eq_join {C : (Nat → Int64) → (Nat → Int64) → (Nat → Int32) → Prop} (hR : RM mk_sign mk_weight mk_pieces mk_finds m_marked m_signs m_weights) (hC : ∀ a b c, C a b c) (p1 : Int32) :
    P_X10_join (fun r a b => P_X11_join (fun r2 c => ((r = r2 → C a b c) ∧ (¬ r = r2 → False))) p1 m_marked m_signs m_weights m_joins) p1 mk_sign mk_weight mk_pieces mk_finds pr_best pr_gain := by
  obtain ⟨n, q, hn, hq, rfl, rfl, hm0, hm1, rfl, rfl, h9⟩ := RM_ok hR
  obtain ⟨a, o, hW, hD⟩ := opt_of hq hn h9
  unfold P_X10_join
  refine ⟨fun hp => ?_, fun hp => ?_⟩
  · unfold P_X6_mostPairs P_X6_pairsIn
    refine bestOf_i hq hn h9 (fun b g => ?_)
    rw [o.val, pairsIn_c hW hD]
    unfold P_X11_join P_X11_pairsOf
    refine lay_i hq hn h9 hm0 hm1 (fun r f hr _ => ?_)
    rw [o.least] at hr
    refine ⟨fun _ => ?_, fun z => absurd hp z⟩
    rw [pairsOf_c hW hr]
    exact ⟨fun _ => hC _ _ _, fun z => z rfl⟩
  · unfold P_X6_bestPrice P_X6_pairsIn
    refine bestOf_i hq hn h9 (fun b g => ?_)
    rw [o.val, pairsIn_c hW hD, pairs_c hW hD, lN_i]
    unfold P_X11_join P_X11_pairsOf
    refine lay_i hq hn h9 hm0 hm1 (fun r f hr _ => ?_)
    rw [o.least] at hr
    refine ⟨fun z => absurd z hp, fun _ => ?_⟩
    rw [pairsOf_c hW hr]
    have e3 : (1000 : Int32) = nI 1000 := rfl
    generalize sB (fun p => wtJ m_signs m_weights n q p (a p)) 0 n = W at *
    have ee : (1000 : Int32) * nI ((W + 999) / 1000) - nI W = r + (1000 : Int32) * nI ((W + 999) / 1000) := by
      have t1 : (nI (1000 * ((W + 999) / 1000))).toInt = (1000 * ((W + 999) / 1000) : Nat) := nI_toInt (by omega)
      rw [e3, pk_mul, pk_sub (by omega), fa_eq, nI_toInt (by omega), fb_addI (by rw [t1, hr]; omega) (by rw [t1, hr]; omega), t1, hr]
      omega
    rw [ee]
    exact ⟨fun _ => hC _ _ _, fun z => z rfl⟩
theorem used_lt {a : Nat → Nat} {q n : Nat} (hq : q ≤ 8) (h : ∀ p, p < n → a p = 8 ∨ a p < q) : ∀ p, p ≤ n → usedJ a p < 256
  | 0, _ => by rw [usedJ]; omega
  | p + 1, hp => by
    have ih := used_lt hq h p (by omega)
    rw [usedJ]
    split
    · exact ih
    · rcases h p (by omega) with w | w
      · exact absurd w (by assumption)
      · exact (or8 _ ih (a p) (by omega)).2
theorem eq_joined {C : (Nat → Int64) → (Nat → Int64) → (Nat → Int32) → Prop} (hR : RM mk_sign mk_weight mk_pieces mk_finds m_marked m_signs m_weights) (hC : ∀ a b c, C a b c) (p1 : Int32) :
    P_X10_joined (fun r a b => P_X11_joined (fun r2 c => ((r = r2 → C a b c) ∧ (¬ r = r2 → False))) p1 m_marked m_signs m_weights m_joins) p1 mk_sign mk_weight mk_pieces mk_finds pr_best pr_gain := by
  obtain ⟨n, q, hn, hq, rfl, rfl, hm0, hm1, rfl, rfl, h9⟩ := RM_ok hR
  have en : (nI n - 1).toInt = (n : Int) - 1 := by rw [sub1 (by rw [nI_toInt (by omega)]; omega), nI_toInt (by omega)]
  by_cases h1 : 0 ≤ p1.toInt ∧ p1.toInt ≤ (n : Int) - 1
  · obtain ⟨P, eP, rfl⟩ : ∃ P : Nat, p1.toInt = P ∧ p1 = nI P := ⟨p1.toInt.toNat, by omega, nI_as (by omega)⟩
    have hP : P < n := by omega
    obtain ⟨a, o, hW, hD⟩ := opt_of hq hn h9
    simp +decide only [P_X10_joined, P_X10_isPiece, en, h1, within_iff, in_iff, all_eq, bz_0, bz_1, bzT, bzF, nem, bz_or, i64, Int32.reduceToInt, Int64.reduceToInt, and_true, true_and, and_self, not_true_eq_false, not_false_eq_true, false_implies, true_implies, eq_self, implies_true, false_and, and_false, Classical.not_not, Int.reduceLT, Int.reduceLE, Int.reduceEq, reduceIte, reduceCtorEq, and_imp, imp_false, false_or, or_false, true_or, or_true]
    unfold P_X6_findOf
    refine bestOf_i hq hn h9 (fun b g => ?_)
    refine ⟨nIv (by omega) (by omega), ?_⟩
    intro y5 e5
    have hp9 : 1 ≤ 9 ^ (7 - P) ∧ 9 ^ (7 - P) ≤ 9 ^ 7 := ⟨Nat.pow_pos (by decide), Nat.pow_le_pow_right (by decide) (by omega)⟩
    have e5' : y5 = nI (9 ^ (7 - P)) := by
      rw [e5, nIc (by omega), place_at P (by omega)]
      by_cases cc : (1 : Int32) < nI (9 ^ (7 - P))
      · rw [if_pos cc]
      · rw [if_neg cc]
        have : ¬ 1 < 9 ^ (7 - P) := fun z => cc ((nI_ltI (a := 1) (by omega) (by omega)).mpr z)
        have e1 : 9 ^ (7 - P) = 1 := by omega
        rw [e1]
        rfl
    subst e5'
    refine ⟨fun z => by have := (nI_eq (b := 0) (by omega) (by omega)).mp z; omega, ?_⟩
    intro y7 e7 v9 ev9
    have dig := digit_at hn a hP
    have aP : a P = 8 ∨ a P < q := by
      have := (o.ok.1 P hP).2
      rw [Nat.zero_add] at this
      exact this.imp id (fun w => w.1)
    have e7' : y7 = nI (8 - a P) := by
      have eW : (43046721 : Int64) = lN 43046721 := rfl
      have e9 : (9 : Int32) = nI 9 := rfl
      have hd : sB (fun p => dgJ p (a p)) 0 n / 9 ^ (7 - P) ≤ sB (fun p => dgJ p (a p)) 0 n := Nat.div_le_self _ _
      have em : (sB (fun p => wtJ m_signs m_weights n q p (a p)) 0 n * 43046721 + sB (fun p => dgJ p (a p)) 0 n) % 43046721 = sB (fun p => dgJ p (a p)) 0 n := by
        rw [Nat.add_comm, Nat.add_mul_mod_self_right, Nat.mod_eq_of_lt hD]
      rw [e7, o.val, eW, pk_lRem (by omega) (by omega) (by omega), em, lN_i, pk_div (by omega) (by omega) (by omega), e9, pk_rem (by omega) (by omega) (by omega), dig]
    have ev9' : v9 = if a P = 8 then -9 else nI (a P) := by
      rw [ev9, e7']
      by_cases cc : a P = 8
      · rw [if_pos cc, cc]; rfl
      · have ne : ¬ nI (8 - a P) = (0 : Int32) := fun z => by have := (nI_eq (b := 0) (by omega) (by omega)).mp z; omega
        have e8 : (8 : Int32) = nI 8 := rfl
        rw [if_neg cc, if_neg ne, e8, pk_sub (by omega)]
        congr 1
        omega
    rw [ev9']
    unfold P_X11_joined
    intro X38 X58 X85 h38 h58 h85
    refine ⟨v02, ?_⟩
    simp +decide only [c0, hm0, en, h1, within_iff, in_iff, all_eq, bz_0, bz_1, bzT, bzF, nem, bz_or, i64, Int32.reduceToInt, Int64.reduceToInt, and_true, true_and, and_self, not_true_eq_false, not_false_eq_true, false_implies, true_implies, eq_self, implies_true, false_and, and_false, Classical.not_not, Int.reduceLT, Int.reduceLE, Int.reduceEq, reduceIte, reduceCtorEq, and_imp, imp_false, false_or, or_false, true_or, or_true]
    refine lay_i hq hn h9 hm0 hm1 (fun r f hr hf => ?_)
    have hu := used_lt (n := n) hq (fun p hp => by
      have := (o.ok.1 p hp).2
      rw [Nat.zero_add] at this
      exact this.imp id (fun w => w.1))
    have key : ∀ k p : Nat, p + k = P + 1 → ∀ x2 x4 : Int32, x2.toInt = jn (wtJ m_signs m_weights n q) (fun _ => true) q n (n - p) (usedJ a p) → (k = 0 → x4 = if a P = 8 then -9 else nI (a P)) → X38 x2 (nI (usedJ a p)) x4 (nI p) f := by
      intro k
      induction k with
      | zero =>
        intro p hp x2 x4 hx h0
        apply h38
        have c : nI P < nI p := (nI_ltI (by omega) (by omega)).mpr (by omega)
        refine ⟨fun _ => ?_, fun z => absurd c z⟩
        rw [h0 rfl]
        exact ⟨fun _ => hC _ _ _, rfl⟩
      | succ k ih =>
        intro p hp x2 x4 hx _
        have ih := ih (p + 1) (by omega)
        obtain ⟨pk1, pk2⟩ := opt_pick hq hn (wtJ_8 m_signs m_weights n hq) (wtJ_le m_signs m_weights n q) o (show p < n by omega)
        have hup := hu p (by omega)
        have ap : a p = 8 ∨ a p < q := by
          have := (o.ok.1 p (by omega)).2
          rw [Nat.zero_add] at this
          exact this.imp id (fun w => w.1)
        have e1 : n - (p + 1) = n - p - 1 := by omega
        have inner : ∀ j : Nat, j ≤ q → ∀ x4 : Int32, (a p = 8 → x4 = -9) → (a p < q → j ≤ a p → x4 = nI (a p)) → X58 x2 (nI (usedJ a p)) x4 (nI p) (nI j - 1) f := by
          intro j
          induction j with
          | zero =>
            intro _ x4 g1 g2
            apply h58
            have c : nI 0 - 1 < (0 : Int32) := by decide
            refine ⟨fun _ => ?_, fun z => absurd c z⟩
            intro v11 e11 y12 e12
            have ex4 : x4 = if a p = 8 then -9 else nI (a p) := by
              rcases ap with w | w
              · rw [if_pos w]; exact g1 w
              · rw [if_neg (by omega)]; exact g2 w (by omega)
            have e12' : y12 = nI (usedJ a (p + 1)) := by
              rw [e12, e11, ex4, usedJ]
              by_cases cc : a p = 8
              · rw [if_pos cc, if_pos cc, if_pos rfl, Int32.or_zero]
              · rw [if_neg cc, if_neg cc, if_neg (nne9 (by omega))]
                exact (or8 _ hup (a p) (by omega)).1
            have hup1 := hu (p + 1) (by omega)
            obtain ⟨v, n1⟩ := jxv (i := p + 1) (E := usedJ a (p + 1)) (by omega) hup1
            rw [e12', jx2]
            refine ⟨v, ?_⟩
            intro y14 e14 y15 e15
            rw [nI_1] at e15
            subst e15
            rw [n1] at e14
            refine ih y14 x4 ?_ (fun k0 => ?_)
            · rw [e14]; exact hf (p + 1) _ (by omega) (by omega) hup1
            · have : p = P := by omega
              subst this
              exact ex4
          | succ j ihj =>
            intro hj x4 g1 g2
            have ihj := ihj (by omega)
            rw [nI_pred]
            have iP : (nI p).toInt = p := nI_toInt (by omega)
            have iJ : (nI j).toInt = j := nI_toInt (by omega)
            have ef : nI j + (-1 : Int32) = nI j - 1 := add_m1 _
            have no : ¬ gpk (wtJ m_signs m_weights n q) q n p (usedJ a p) j = true → X58 x2 (nI (usedJ a p)) x4 (nI p) (nI j - 1) f := by
              intro g
              refine ihj x4 g1 (fun w1 w2 => ?_)
              by_cases cc : j + 1 ≤ a p
              · exact g2 w1 cc
              · have : j = a p := by omega
                rw [this] at g
                exact absurd (pk1 (by omega)) g
            have no9 : ¬ gpk (wtJ m_signs m_weights n q) q n p (usedJ a p) j = true → X85 x2 (nI (usedJ a p)) x4 (nI p) (nI j) (-9) f := by
              intro g
              apply h85
              refine ⟨⟨fun _ => trivial, fun z => absurd rfl z⟩, ?_⟩
              intro v21 e21 y22 e22
              rw [if_pos rfl] at e21
              rw [e22, ef, e21]
              exact no g
            apply h58
            have c : ¬ nI j < (0 : Int32) := fun z => by have := (nI_ltI (b := 0) (by omega) (by omega)).mp z; omega
            refine ⟨fun z => absurd z c, fun _ => ⟨fun z => ?_, fun z => ?_⟩⟩
            · have hb := (bit8z _ hup j (by omega)).mp z
              refine costOf_i (by omega) (by omega) ?_
              have e1' : (nI p).toInt.toNat = p := by omega
              have e2' : (nI j).toInt.toNat = j := by omega
              rw [e1', e2']
              rcases prc_wt (n := n) (q := q) (show p < n by omega) (show j < q by omega) (h9 p j (by omega) (by omega)) with ⟨w1, w2⟩ | ⟨c, hc, w1, w3, w2⟩
              · rw [w1]
                exact no9 (fun g => by have := (gpk_iff.mp g).2.1; omega)
              · rw [w1]
                obtain ⟨o1, o2⟩ := or8 (usedJ a p) hup j (by omega)
                obtain ⟨v, n1⟩ := jxv (i := p + 1) (E := usedJ a p ||| 2 ^ j) (by omega) o2
                have hJ := hf (p + 1) (usedJ a p ||| 2 ^ j) (by omega) (by omega) o2
                have lo := jn_lo (nn := fun _ => true) (q := q) (n := n) (wtJ_le m_signs m_weights n q) (n - (p + 1)) (usedJ a p ||| 2 ^ j)
                have hi := jn_hi (wtJ m_signs m_weights n q) (fun _ => true) q n (n - (p + 1)) (usedJ a p ||| 2 ^ j)
                have hv : (nI c - (1000 : Int32) + f (256 * (p + 1) + (usedJ a p ||| 2 ^ j))).toInt = - (wtJ m_signs m_weights n q p j : Int) + jn (wtJ m_signs m_weights n q) (fun _ => true) q n (n - p - 1) (usedJ a p ||| 2 ^ j) := by
                  have t1 : (nI c - (1000 : Int32)).toInt = (c : Int) - 1000 := by
                    have e3 : (1000 : Int32).toInt = 1000 := by decide
                    have e4 : (nI c).toInt = c := nI_toInt (by omega)
                    rw [fb_subI (by omega) (by omega), e3, e4]
                  rw [fb_addI (by rw [t1, hJ]; omega) (by rw [t1, hJ]; omega), t1, hJ, w2, e1]
                  omega
                have hg : gpk (wtJ m_signs m_weights n q) q n p (usedJ a p) j = true ↔ nI c - (1000 : Int32) + f (256 * (p + 1) + (usedJ a p ||| 2 ^ j)) = x2 := by
                  rw [gpk_iff, fa_eq, hv, hx]
                  exact ⟨fun w => w.2.2, fun w => ⟨hb, by omega, w⟩⟩
                apply h85
                rw [o1, jx2, n1]
                refine ⟨⟨fun _ => trivial, fun _ => ⟨v, ⟨fun _ => trivial, fun _ => trivial⟩⟩⟩, ?_⟩
                intro v21 e21 y22 e22
                rw [if_neg w3] at e21
                rw [e22, ef, e21]
                by_cases cc : nI c - (1000 : Int32) + f (256 * (p + 1) + (usedJ a p ||| 2 ^ j)) = x2
                · rw [if_pos cc]
                  have hgj := hg.mpr cc
                  have nlt : ¬ j < a p := fun w => pk2 j (by omega) w hgj
                  refine ihj (nI j) (fun w => by omega) (fun w1 w3 => ?_)
                  have : j = a p := by omega
                  rw [this]
                · rw [if_neg cc]
                  exact no (fun g => cc (hg.mp g))
            · exact no9 (fun g => z ((bit8z _ hup j (by omega)).mpr (gpk_iff.mp g).1))
        apply h38
        have c : ¬ nI P < nI p := fun z => by have := (nI_ltI (by omega) (by omega)).mp z; omega
        refine ⟨fun z => absurd z c, fun _ => ⟨v12, ?_⟩⟩
        intro y ey
        rw [ey, c1, hm1]
        refine inner q (by omega) (-9) (fun _ => rfl) (fun w1 w2 => absurd w2 (by omega))
    refine key (P + 1) 0 (by omega) r (-9) ?_ (fun z => absurd z (by omega))
    rw [Nat.sub_zero, usedJ]
    exact hr
  · simp +decide only [P_X10_joined, P_X10_isPiece, P_X11_joined, v02, c0, hm0, en, h1, within_iff, in_iff, all_eq, bz_0, bz_1, bzT, bzF, nem, bz_or, i64, Int32.reduceToInt, Int64.reduceToInt, and_true, true_and, and_self, not_true_eq_false, not_false_eq_true, false_implies, true_implies, eq_self, implies_true, false_and, and_false, Classical.not_not, Int.reduceLT, Int.reduceLE, Int.reduceEq, reduceIte, reduceCtorEq, and_imp, imp_false, false_or, or_false, true_or, or_true]
    intros
    exact hC _ _ _
theorem cntV_c {V : Nat → Int} {T : Int} : ∀ k, cntV V T k ≤ k + 1
  | 0 => by rw [cntV]; split <;> omega
  | k + 1 => by have := cntV_c (V := V) (T := T) k; rw [cntV]; split <;> omega
/-- the same without f = 8 -/
def cW (V : Nat → Int) (T : Int) : Nat → Nat
  | 0 => 0
  | k + 1 => cW V T k + if V k = T then 1 else 0
theorem cW_V (V : Nat → Int) (T : Int) : ∀ k, cW V T k + (if V 8 = T then 1 else 0) = cntV V T k
  | 0 => by rw [cW, cntV, Nat.zero_add]
  | k + 1 => by rw [cW, cntV, ← cW_V V T k]; omega
theorem eq_certain {C : (Nat → Int64) → (Nat → Int64) → (Nat → Int32) → Prop} (hR : RM mk_sign mk_weight mk_pieces mk_finds m_marked m_signs m_weights) (hC : ∀ a b c, C a b c) (p1 : Int32) :
    P_X10_certain (fun r a b => P_X11_certain (fun r2 c => ((r = r2 → C a b c) ∧ (¬ r = r2 → False))) p1 m_marked m_signs m_weights m_joins) p1 mk_sign mk_weight mk_pieces mk_finds pr_best pr_gain := by
  obtain ⟨n, q, hn, hq, rfl, rfl, hm0, hm1, rfl, rfl, h9⟩ := RM_ok hR
  have en : (nI n - 1).toInt = (n : Int) - 1 := by rw [sub1 (by rw [nI_toInt (by omega)]; omega), nI_toInt (by omega)]
  by_cases h1 : 0 ≤ p1.toInt ∧ p1.toInt ≤ (n : Int) - 1
  · obtain ⟨P, eP, rfl⟩ : ∃ P : Nat, p1.toInt = P ∧ p1 = nI P := ⟨p1.toInt.toNat, by omega, nI_as (by omega)⟩
    have hP : P < n := by omega
    obtain ⟨T, hT, hJ, hV, f0, hf0, ef0⟩ := certN (wt := wtJ m_signs m_weights n q) hq hn (wtJ_8 m_signs m_weights n hq) (wtJ_le m_signs m_weights n q) hP
    have hB := fun S => bst_le (gnJ_le (wtJ_le m_signs m_weights n q) (skC P)) q n S
    have hBn : ∀ S, bst (gnJ (wtJ m_signs m_weights n q) (skC P)) q n S ≤ 8 * 43085000000 := fun S => Nat.le_trans (hB S) (Nat.mul_le_mul hn (Nat.le_refl _))
    have h1q : 0 < 2 ^ q := Nat.pow_pos (by decide)
    have h2q := all8 q hq
    have eW : (43046721 : Int64) = lN 43046721 := rfl
    simp +decide only [P_X10_certain, P_X10_isPiece, en, h1, within_iff, in_iff, all_eq, bz_0, bz_1, bzT, bzF, nem, bz_or, i64, Int32.reduceToInt, Int64.reduceToInt, and_true, true_and, and_self, not_true_eq_false, not_false_eq_true, false_implies, true_implies, eq_self, implies_true, false_and, and_false, Classical.not_not, Int.reduceLT, Int.reduceLE, Int.reduceEq, reduceIte, reduceCtorEq, and_imp, imp_false, false_or, or_false, true_or, or_true]
    unfold P_X6_choicesOf
    intro X hX
    refine pairAll_i hq hn h9 (skC P) (fun p hp => by
      unfold skC
      rw [decide_eq_true_eq]
      exact nI_eq (by omega) (by omega)) (fun b g hb => ?_)
    intro y3 e3
    rw [h2q.1] at e3
    subst e3
    refine ⟨nIv (by omega) (by omega), ?_⟩
    intro y5 e5
    have dv : ∀ S, S < 2 ^ q → b S / (43046721 : Int64) = lN (bst (gnJ (wtJ m_signs m_weights n q) (skC P)) q n S / 43046721) := fun S hS => by
      have := hBn S
      rw [hb S hS, eW, pk_lDiv (by omega) (by omega) (by omega)]
    have dl : ∀ S, bst (gnJ (wtJ m_signs m_weights n q) (skC P)) q n S / 43046721 ≤ 9000 := fun S => by
      have := hBn S
      omega
    rw [nIc (by omega), dv _ (by omega)] at e5
    have key : ∀ k j : Nat, j + k = q → ∀ x4 : Int64, (∀ i, i < j → Vz (wtJ m_signs m_weights n q) q n P i ≤ x4.toInt) → Vz (wtJ m_signs m_weights n q) q n P 8 ≤ x4.toInt → (x4.toInt = Vz (wtJ m_signs m_weights n q) q n P 8 ∨ ∃ i, i < j ∧ x4.toInt = Vz (wtJ m_signs m_weights n q) q n P i) → X (nI (2 ^ q - 1)) x4 (nI (cntV (Vz (wtJ m_signs m_weights n q) q n P) x4.toInt j)) (nI j) b g := by
      intro k
      induction k with
      | zero =>
        intro j hj x4 g1 g2 g3
        have e : j = q := by omega
        subst e
        apply hX
        have c : nI j ≤ nI j := (nI_leI (by omega) (by omega)).mpr (Nat.le_refl _)
        refine ⟨fun _ => ?_, fun z => absurd c z⟩
        have eT : x4.toInt = T := by
          have up : x4.toInt ≤ T := by
            rcases g3 with w | ⟨i, hi, w⟩
            · rw [w]; exact (hV 8 (Or.inl rfl)).1
            · rw [w]; exact (hV i (Or.inr hi)).1
          have lo : (T : Int) ≤ x4.toInt := by
            rcases hf0 with w | w
            · rw [w] at ef0; omega
            · have := g1 f0 w; omega
          omega
        rw [eT]
        unfold P_X11_certain
        intro X34 h34
        refine ⟨v02, ?_⟩
        simp +decide only [c0, hm0, en, h1, within_iff, in_iff, all_eq, bz_0, bz_1, bzT, bzF, nem, bz_or, i64, Int32.reduceToInt, Int64.reduceToInt, and_true, true_and, and_self, not_true_eq_false, not_false_eq_true, false_implies, true_implies, eq_self, implies_true, false_and, and_false, Classical.not_not, Int.reduceLT, Int.reduceLE, Int.reduceEq, reduceIte, reduceCtorEq, and_imp, imp_false, false_or, or_false, true_or, or_true]
        refine lay_i hq hn h9 hm0 hm1 (fun r f hr _ => ?_)
        have hcert : ∀ i, (i = 8 ∨ i < j) → ∀ (post : Int32 → (Nat → Int32) → Prop) (f : Nat → Int32), (∀ r2 f2, (r2 = r ↔ Vz (wtJ m_signs m_weights n j) j n P i = T) → post r2 f2) → P_X11_layJoin post (nI P) (nI i) m_marked m_signs m_weights f := by
          intro i hi post f hpost
          refine layJoin_i (w := wF (wtJ m_signs m_weights n j) P i) (nn := nF P i) hq hn hm0 hm1 h9 (fun p g => by
            unfold wF
            have := wtJ_le m_signs m_weights n j p g
            split <;> omega) (fun p hp => ?_) (fun p g hp hg z => ?_) (fun p g hp hg z => ?_) (fun r2 f2 hr2 _ => hpost r2 f2 ?_)
          · have ep : nI p = nI P ↔ p = P := nI_eq (by omega) (by omega)
            have e8 : (8 : Int32) ≤ nI i ↔ 8 ≤ i := nI_leI (a := 8) (by omega) (by omega)
            rw [ep, e8]
            unfold nF
            by_cases c1 : p = P
            · by_cases c2 : i < 8
              · simp [c1, c2]
              · simp [c1, c2]; omega
            · simp [c1]
          · have ep : nI p = nI P ↔ p = P := nI_eq (by omega) (by omega)
            have eg : nI i = nI g ↔ i = g := nI_eq (by omega) (by omega)
            rw [ep, eg] at z
            unfold wF
            rw [if_neg (fun w => z ⟨w.1, fun e => w.2 e.symm⟩)]
          · have ep : nI p = nI P ↔ p = P := nI_eq (by omega) (by omega)
            have eg : nI i = nI g ↔ i = g := nI_eq (by omega) (by omega)
            rw [ep, eg] at z
            unfold wF
            rw [if_pos ⟨z.1, fun e => z.2 e.symm⟩]
          · rw [fa_eq, hr2, hr, hJ]
            exact (hV i hi).2
        have e8 : (8 : Int32) = nI 8 := rfl
        have last : ∀ f, X34 r (nI (cW (Vz (wtJ m_signs m_weights n j) j n P) T j)) (nI 8) f := by
          intro f
          apply h34
          have c : ¬ (8 : Int32) < nI 8 := by decide
          refine ⟨fun z => absurd z c, fun _ => ⟨fun _ => ?_, fun z => absurd rfl z⟩⟩
          refine hcert 8 (Or.inl rfl) _ f (fun r2 f2 h2 => ?_)
          intro v13 e13 y14 e14 y15 e15
          have e9 : y15 = nI 9 := by rw [e15, nI_1]
          have e14' : y14 = nI (cntV (Vz (wtJ m_signs m_weights n j) j n P) T j) := by
            rw [e14, e13, ← cW_V]
            by_cases cc : Vz (wtJ m_signs m_weights n j) j n P 8 = T
            · rw [if_pos (h2.mpr cc), if_pos cc, nI_1]
            · rw [if_neg (fun z => cc (h2.mp z)), if_neg cc, Int32.add_zero, Nat.add_zero]
          rw [e9, e14']
          apply h34
          have c2 : (8 : Int32) < nI 9 := by decide
          refine ⟨fun _ => ?_, fun z => absurd c2 z⟩
          intro v8 ev8
          rw [ev8]
          exact ⟨fun _ => hC _ _ _, rfl⟩
        have walk : ∀ k i : Nat, i + k = 8 → ∀ f, X34 r (nI (cW (Vz (wtJ m_signs m_weights n j) j n P) T (min i j))) (nI i) f := by
          intro k
          induction k with
          | zero =>
            intro i hi f
            have e : i = 8 := by omega
            subst e
            rw [Nat.min_eq_right (by omega)]
            exact last f
          | succ k ihw =>
            intro i hi f
            have ihw := ihw (i + 1) (by omega)
            apply h34
            have c : ¬ (8 : Int32) < nI i := fun z => by have := (nI_ltI (a := 8) (by omega) (by omega)).mp z; omega
            have c8 : ¬ nI i = (8 : Int32) := fun z => by have := (nI_eq (b := 8) (by omega) (by omega)).mp z; omega
            refine ⟨fun z => absurd z c, fun _ => ⟨fun z => absurd z c8, fun _ => ⟨v12, ?_⟩⟩⟩
            rw [c1, hm1]
            refine ⟨fun z y18 e18 y19 e19 => ?_, fun z => ?_⟩
            · have hj := (nI_leI (by omega) (by omega)).mp z
              rw [nI_1] at e19
              rw [Int32.add_zero] at e18
              rw [e18, e19, Nat.min_eq_right hj]
              have := ihw f
              rw [Nat.min_eq_right (by omega)] at this
              exact this
            · have hj : i < j := by
                by_cases cc : j ≤ i
                · exact absurd ((nI_leI (by omega) (by omega)).mpr cc) z
                · omega
              refine hcert i (Or.inr hj) _ f (fun r2 f2 h2 => ?_)
              intro v23 e23 y24 e24 y25 e25
              rw [nI_1] at e25
              have := ihw f2
              rw [Nat.min_eq_left (by omega), cW] at this
              rw [e25, e24, e23, Nat.min_eq_left (by omega)]
              by_cases cc : Vz (wtJ m_signs m_weights n j) j n P i = T
              · rw [if_pos (h2.mpr cc), nI_1]
                rw [if_pos cc] at this
                exact this
              · rw [if_neg (fun z => cc (h2.mp z)), Int32.add_zero]
                rw [if_neg cc, Nat.add_zero] at this
                exact this
        have := walk 8 0 (by omega) f
        rw [Nat.min_eq_left (by omega), cW] at this
        exact this
      | succ k ih =>
        intro j hj x4 g1 g2 g3
        have ih := ih (j + 1) (by omega)
        have iP : (nI P).toInt = P := nI_toInt (by omega)
        have iJ : (nI j).toInt = j := nI_toInt (by omega)
        apply hX
        have c : ¬ nI q ≤ nI j := fun z => by have := (nI_leI (by omega) (by omega)).mp z; omega
        refine ⟨fun z => absurd z c, fun _ => ?_⟩
        refine price_i (by omega) (by omega) ?_
        have e1' : (nI P).toInt.toNat = P := by omega
        have e2' : (nI j).toInt.toNat = j := by omega
        have hbj : (2 ^ q - 1).testBit j = true := by rw [all_bit]; simp; omega
        have hlt := xorlt (2 ^ q - 1) (by omega) j (by omega) hbj
        have hlt2 : (2 ^ q - 1) ^^^ 2 ^ j < 2 ^ q := Nat.lt_of_lt_of_le hlt (Nat.sub_le _ _)
        have hlt3 : (2 ^ q - 1) ^^^ 2 ^ j < 1000 := Nat.lt_trans hlt (Nat.lt_trans h2q.2 (by decide))
        rw [e1', e2', xor8 (2 ^ q - 1) (by omega) j (by omega), nIc (i := (2 ^ q - 1) ^^^ 2 ^ j) hlt3, dv ((2 ^ q - 1) ^^^ 2 ^ j) hlt2]
        refine ⟨⟨fun _ => trivial, fun _ => ⟨nIv (by omega) (by omega), trivial⟩⟩, ?_⟩
        intro v10 e10
        have ev : v10.toInt = Vz (wtJ m_signs m_weights n q) q n P j := by
          unfold Vz
          rw [if_neg (by omega), e10]
          rcases prc_wt (n := n) (q := q) hP (show j < q by omega) (h9 P j hP (by omega)) with ⟨w1, w2⟩ | ⟨c, hc, w1, w3, w2⟩
          · rw [w1, if_pos rfl, w2, if_neg (by omega)]
            decide
          · rw [w1, if_neg w3, w2, if_pos (by omega)]
            have e1k : (1000 : Int64) = lN 1000 := rfl
            have := dl ((2 ^ q - 1) ^^^ 2 ^ j)
            rw [nI_l (by omega), e1k, lN_add, lN_sub (by omega), pk_lT (by omega)]
            omega
        have cle := cntV_c (V := Vz (wtJ m_signs m_weights n q) q n P) (T := x4.toInt) j
        refine ⟨fun z => ⟨fun z2 y14 e14 y15 e15 => ?_, fun z2 y13 e13 => ?_⟩, fun z y16 e16 => ?_⟩
        · rw [lg_eq0, ev] at z2
          rw [nI_1] at e14 e15
          have := ih x4 (fun i hi => by
            by_cases e : i = j
            · rw [e]; omega
            · exact g1 i (by omega)) g2 (g3.imp id (fun ⟨i, hi, w⟩ => ⟨i, by omega, w⟩))
          rw [cntV, if_pos z2] at this
          rw [e14, e15]
          exact this
        · rw [lg_le0, ev] at z
          rw [lg_eq0, ev] at z2
          rw [nI_1] at e13
          have := ih x4 (fun i hi => by
            by_cases e : i = j
            · rw [e]; omega
            · exact g1 i (by omega)) g2 (g3.imp id (fun ⟨i, hi, w⟩ => ⟨i, by omega, w⟩))
          rw [cntV, if_neg z2, Nat.add_zero] at this
          rw [e13]
          exact this
        · rw [lg_le0, ev] at z
          rw [nI_1] at e16
          have := ih v10 (fun i hi => by
            by_cases e : i = j
            · rw [e]; omega
            · have := g1 i (by omega); omega) (by omega) (Or.inr ⟨j, by omega, ev⟩)
          rw [cntV, if_pos ev.symm, cntV_0 j (by omega) (fun i hi => by have := g1 i hi; omega)] at this
          rw [e16]
          exact this
    have e5v : y5.toInt = Vz (wtJ m_signs m_weights n q) q n P 8 := by
      have := dl (2 ^ q - 1)
      unfold Vz
      rw [if_pos rfl, e5, pk_lT (by omega)]
    have := key q 0 (by omega) y5 (fun i hi => absurd hi (by omega)) (by omega) (Or.inl e5v)
    rw [cntV, if_pos e5v.symm] at this
    exact this
  · simp +decide only [P_X10_certain, P_X10_isPiece, P_X11_certain, v02, c0, hm0, en, h1, within_iff, in_iff, all_eq, bz_0, bz_1, bzT, bzF, nem, bz_or, i64, Int32.reduceToInt, Int64.reduceToInt, and_true, true_and, and_self, not_true_eq_false, not_false_eq_true, false_implies, true_implies, eq_self, implies_true, false_and, and_false, Classical.not_not, Int.reduceLT, Int.reduceLE, Int.reduceEq, reduceIte, reduceCtorEq, and_imp, imp_false, false_or, or_false, true_or, or_true]
    intros
    exact hC _ _ _
end joinE
