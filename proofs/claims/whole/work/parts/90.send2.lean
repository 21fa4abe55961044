theorem enc_s {o : Option Nat} {x : Nat} (h : o = some x) : enc o = nI x := by rw [h]; rfl
theorem enc_n {o : Option Nat} (h : o = none) : enc o = -9 := by rw [h]; rfl
section sd
variable {n : Nat} {pc : Nat → Nat → Int} {sp0 need u w : Nat → Int} {total : Int} {spareZ unmetZ : Nat → Int} {sentZ : Nat → Nat → Int} {sent spare unmet aS aE : Nat → Int32} {aSo aEo : Nat → Option Nat} {K : Nat}
theorem mostAlong_i {post : Int32 → Prop} {to p0 n0 : Nat} (hn : n ≤ 12) (S : Stl (5 + n, n, pc, sentZ, spareZ) K) (A : AP (5 + n, n, pc, sentZ, spareZ) K aEo aSo) (hse : ∀ s j, s < 5 + n → j < n → (sent (12 * s + j)).toInt = sentZ s j) (hsp : ∀ s, s < 5 + n → (spare s).toInt = spareZ s) (hun : ∀ j, j < n → (unmet j).toInt = unmetZ j) (hA1 : ∀ s, s < 5 + n → aS s = enc (aSo s)) (hA2 : ∀ j, j < n → aE j = enc (aEo j)) (hto : to < n) (hw : ew (5 + n, n, pc, sentZ, spareZ) K to < NW) (hu : 0 < unmetZ to) (h0 : aEo to = some p0) (hg0 : Sg aEo aSo p0 n0) (hn0 : n0 < 17)
    (h : ∀ t : Int32, 1 ≤ t.toInt → t.toInt ≤ unmetZ to → (∀ q i, OnP aEo aSo p0 q → aSo q = some i → t.toInt ≤ sentZ q i) → (∀ q, OnP aEo aSo p0 q → aSo q = none → t.toInt ≤ spareZ q) → post t) : P_X2_mostAlong post (nI to) sent spare unmet aS aE := by
  have e12 : (12 : Int32) = nI 12 := rfl
  unfold P_X2_mostAlong
  intro X hX
  have key : ∀ m l : Nat, l + m < 17 → ∀ (j p : Nat) (t : Int32), j < n → ew (5 + n, n, pc, sentZ, spareZ) K j < NW → aEo j = some p → Sg aEo aSo p m → 1 ≤ t.toInt → t.toInt ≤ unmetZ to → (∀ q i, OnP aEo aSo p0 q → aSo q = some i → t.toInt ≤ sentZ q i ∨ OnP aEo aSo p q) → (∀ q, OnP aEo aSo p0 q → aSo q = none → OnP aEo aSo p q) → X t (nI j) (nI l) := by
    intro m
    induction m with
    | zero =>
      intro l hl j p t hj hwj hp hg t1 t2 k1 k2
      obtain ⟨b1, b2, b3, b4, -⟩ := tE S A (show j < Tr.n (5 + n, n, pc, sentZ, spareZ) from hj) hwj hp
      have b1 : p < 5 + n := b1
      have hnone : aSo p = none := hg
      obtain ⟨c1, c2⟩ := tN A (show p < Tr.M (5 + n, n, pc, sentZ, spareZ) from b1) b3 hnone
      have c1 : 0 < spareZ p := c1
      have only : ∀ q, OnP aEo aSo p q → q = p := fun q hq => by
        rcases OnP_cases hq with e | ⟨x, y, e, -⟩
        · exact e
        · rw [hnone] at e; exact absurd e (by simp)
      apply hX
      have c : ¬ (17 : Int32) ≤ nI l := fun z => by have := (nI_leI (a := 17) (by omega) (by omega)).mp z; omega
      refine ⟨fun z => absurd z c, fun _ => ⟨nIv (by omega) (by omega), fun y5 e5 => ?_⟩⟩
      rw [nIc (i := j) (by omega), hA2 j hj, enc_s hp] at e5
      subst e5
      refine ⟨fun z => absurd z (nne9 (by omega)), fun _ => ⟨nIv (by omega) (by omega), fun y8 e8 => ?_⟩⟩
      rw [nIc (i := p) (by omega), hA1 p b1, enc_n hnone] at e8
      subst e8
      refine ⟨fun _ y13 e13 => ?_, fun z => absurd rfl z⟩
      rw [nIc (i := p) (by omega)] at e13
      have ht : y13.toInt ≤ t.toInt ∧ y13.toInt ≤ spareZ p ∧ 1 ≤ y13.toInt := by
        rw [e13]
        have hs := hsp p b1
        by_cases q : spare p < t
        · rw [if_pos q]; rw [fa_lt, hs] at q; rw [hs]; omega
        · rw [if_neg q]; rw [fa_lt, hs] at q; omega
      refine h y13 ht.2.2 (by omega) (fun q i hq hi => ?_) (fun q hq hi => ?_)
      · rcases k1 q i hq hi with w1 | w1
        · omega
        · have := only q w1
          subst this
          rw [hnone] at hi; exact absurd hi (by simp)
      · have := only q (k2 q hq hi)
        subst this
        exact ht.2.1
    | succ m ih =>
      intro l hl j p t hj hwj hp hg t1 t2 k1 k2
      obtain ⟨b1, b2, b3, b4, -⟩ := tE S A (show j < Tr.n (5 + n, n, pc, sentZ, spareZ) from hj) hwj hp
      have b1 : p < 5 + n := b1
      obtain ⟨i, r, g1, g2, g3⟩ := hg
      obtain ⟨c1, c2, c3, c4, -⟩ := tS S A (show p < Tr.M (5 + n, n, pc, sentZ, spareZ) from b1) g1
      have c1 : i < n := c1
      have c2 : 0 < sentZ p i := c2
      apply hX
      have c : ¬ (17 : Int32) ≤ nI l := fun z => by have := (nI_leI (a := 17) (by omega) (by omega)).mp z; omega
      refine ⟨fun z => absurd z c, fun _ => ⟨nIv (by omega) (by omega), fun y5 e5 => ?_⟩⟩
      rw [nIc (i := j) (by omega), hA2 j hj, enc_s hp] at e5
      subst e5
      refine ⟨fun z => absurd z (nne9 (by omega)), fun _ => ⟨nIv (by omega) (by omega), fun y8 e8 => ?_⟩⟩
      rw [nIc (i := p) (by omega), hA1 p b1, enc_s g1] at e8
      subst e8
      refine ⟨fun z => absurd z (nne9 (by omega)), fun _ => ?_⟩
      have ix : nI p * (12 : Int32) + nI i = nI (12 * p + i) := by rw [e12, pk_mul, nI_add, Nat.mul_comm]
      rw [ix, nIc (i := 12 * p + i) (by omega)]
      refine ⟨nIv (by omega) (by omega), fun t3 e3 y ey => ?_⟩
      rw [nI_1] at ey
      subst ey
      have ht : t3.toInt ≤ t.toInt ∧ t3.toInt ≤ sentZ p i ∧ 1 ≤ t3.toInt := by
        rw [e3]
        have hs := hse p i b1 c1
        by_cases q : sent (12 * p + i) < t
        · rw [if_pos q]; rw [fa_lt, hs] at q; rw [hs]; omega
        · rw [if_neg q]; rw [fa_lt, hs] at q; omega
      refine ih (l + 1) (by omega) i r t3 c1 c3 g2 g3 ht.2.2 (by omega) (fun q x hq hx => ?_) (fun q hq hx => ?_)
      · rcases k1 q x hq hx with w1 | w1
        · exact Or.inl (by omega)
        · rcases OnP_cases w1 with e | ⟨y1, y2, e1, e2, e3⟩
          · subst e
            rw [g1] at hx
            have := Option.some.inj hx
            subst this
            exact Or.inl ht.2.1
          · rw [g1] at e1
            have := Option.some.inj e1
            subst this
            rw [g2] at e2
            have := Option.some.inj e2
            subst this
            exact Or.inr e3
      · have w1 := k2 q hq hx
        rcases OnP_cases w1 with e | ⟨y1, y2, e1, e2, e3⟩
        · subst e
          rw [g1] at hx; exact absurd hx (by simp)
        · rw [g1] at e1
          have := Option.some.inj e1
          subst this
          rw [g2] at e2
          have := Option.some.inj e2
          subst this
          exact e3
  refine ⟨nIv (by omega) (by omega), fun y ey => ?_⟩
  rw [nIc (i := to) (by omega)] at ey
  subst ey
  exact key n0 0 (by omega) to p0 (unmet to) hto hw h0 hg0 (by rw [hun to hto]; omega) (by rw [hun to hto]; omega) (fun q i hq _ => Or.inr hq) (fun q hq _ => hq)
theorem send_i {post : Int32 → (Nat → Int32) → (Nat → Int32) → (Nat → Int32) → Prop} {to : Nat} (hn : n ≤ 12) (F : FT (5 + n) n pc sp0 need sentZ spareZ unmetZ total u w) (S : Stl (5 + n, n, pc, sentZ, spareZ) K) (hK : K ≤ 17) (A : AP (5 + n, n, pc, sentZ, spareZ) K aEo aSo) (hs9 : ∀ s, s < 5 + n → sp0 s ≤ 999) (hn9 : ∀ j, j < n → need j ≤ 500) (hse : ∀ s j, s < 5 + n → j < n → (sent (12 * s + j)).toInt = sentZ s j) (hsp : ∀ s, s < 5 + n → (spare s).toInt = spareZ s) (hun : ∀ j, j < n → (unmet j).toInt = unmetZ j) (hA1 : ∀ s, s < 5 + n → aS s = enc (aSo s)) (hA2 : ∀ j, j < n → aE j = enc (aEo j)) (hto : to < n) (hw : ew (5 + n, n, pc, sentZ, spareZ) K to < NW) (hu : 0 < unmetZ to)
    (h : ∀ (t : Int32) (sent2 spare2 unmet2 : Nat → Int32) (sentZ2 : Nat → Nat → Int) (spareZ2 unmetZ2 : Nat → Int) (u2 w2 : Nat → Int), 1 ≤ t.toInt → FT (5 + n) n pc sp0 need sentZ2 spareZ2 unmetZ2 (total + t.toInt * ew (5 + n, n, pc, sentZ, spareZ) K to) u2 w2 → (∀ s j, s < 5 + n → j < n → (sent2 (12 * s + j)).toInt = sentZ2 s j) → (∀ s, s < 5 + n → (spare2 s).toInt = spareZ2 s) → (∀ j, j < n → (unmet2 j).toInt = unmetZ2 j) → (∀ j, unmetZ2 j = if j = to then unmetZ j - t.toInt else unmetZ j) → post t sent2 spare2 unmet2) : P_X2_send post (nI to) sent spare unmet aS aE := by
  have e12 : (12 : Int32) = nI 12 := rfl
  obtain ⟨p0, n0, h0, hg0, hlt⟩ := sg_of S A (show to < Tr.n (5 + n, n, pc, sentZ, spareZ) from hto) hw
  have D2 := du_next F.du S (by omega)
  have wN_is : ∀ j, ew (5 + n, n, pc, sentZ, spareZ) K j < NW → wN (5 + n, n, pc, sentZ, spareZ) w K j = ew (5 + n, n, pc, sentZ, spareZ) K j := fun j hj => by unfold wN; rw [if_pos hj]
  have uN_is : ∀ s, sw (5 + n, n, pc, sentZ, spareZ) K s < NW → uN (5 + n, n, pc, sentZ, spareZ) u K s = sw (5 + n, n, pc, sentZ, spareZ) K s := fun s hs => by unfold uN; rw [if_pos hs]
  unfold P_X2_send
  intro X hX
  refine mostAlong_i hn S A hse hsp hun hA1 hA2 hto hw hu h0 hg0 (by omega) (fun t t1 t2 ts tp => ?_)
  have t500 : t.toInt ≤ 500 := by
    have := F.col to hto
    have nn := sI_nn (5 + n) (fun s hs => F.nn s to hs hto)
    have := hn9 to hto
    omega
  have key : ∀ m l : Nat, l + m < 17 → ∀ (j p : Nat) (sentC : Nat → Nat → Int) (sent2 : Nat → Int32), j < n → ew (5 + n, n, pc, sentZ, spareZ) K j < NW → aEo j = some p → Sg aEo aSo p m → (∀ q, OnP aEo aSo p q → OnP aEo aSo p0 q) → (∀ s j, s < 5 + n → j < n → (sent2 (12 * s + j)).toInt = sentC s j) → SW (5 + n) n pc sp0 need (uN (5 + n, n, pc, sentZ, spareZ) u K) (wN (5 + n, n, pc, sentZ, spareZ) w K) aEo aSo to t.toInt total spareZ unmetZ sentC j p → X t (nI j) (nI l) sent2 spare unmet := by
    intro m
    induction m with
    | zero =>
      intro l hl j p sentC sent2 hj hwj hp hg hon hs2 W
      obtain ⟨b1, b2, b3, b4, -⟩ := tE S A (show j < Tr.n (5 + n, n, pc, sentZ, spareZ) from hj) hwj hp
      have b1 : p < 5 + n := b1
      have b2 : pc p j < NW := b2
      have b4 : ew (5 + n, n, pc, sentZ, spareZ) K j = sw (5 + n, n, pc, sentZ, spareZ) K p + pc p j := b4
      have hnone : aSo p = none := hg
      obtain ⟨c1, c2⟩ := tN A (show p < Tr.M (5 + n, n, pc, sentZ, spareZ) from b1) b3 hnone
      have tsp := tp p (hon p OnP.refl) hnone
      have spn := F.sn p b1
      have rowp := W.row p b1
      have mem := sI_mem (f := fun x => sentC p x) n (fun x hx => W.nn p x b1 hx) hj
      have mem : sentC p j ≤ sI (fun x => sentC p x) n := mem
      have s9 := hs9 p b1
      have sj0 := W.nn p j b1 hj
      apply hX
      have c : ¬ (17 : Int32) ≤ nI l := fun z => by have := (nI_leI (a := 17) (by omega) (by omega)).mp z; omega
      refine ⟨fun z => absurd z c, fun _ => ⟨nIv (by omega) (by omega), fun y6 e6 => ?_⟩⟩
      rw [nIc (i := j) (by omega), hA2 j hj, enc_s hp] at e6
      subst e6
      refine ⟨fun z => absurd z (nne9 (by omega)), fun _ => ?_⟩
      have ix : nI p * (12 : Int32) + nI j = nI (12 * p + j) := by rw [e12, pk_mul, nI_add, Nat.mul_comm]
      rw [ix, nIc (i := 12 * p + j) (by omega), nIc (i := p) (by omega), nIc (i := to) (by omega), hA1 p b1, enc_n hnone]
      refine ⟨nIv (by omega) (by omega), fun sent9 e9 => ⟨nIv (by omega) (by omega), fun y11 e11 => ⟨fun _ spare16 e16 => ⟨nIv (by omega) (by omega), fun unmet18 e18 => ?_⟩, fun z => absurd e11 z⟩⟩⟩
      have FE := snd_end W (by omega) hj b1 hto b2 (by rw [wN_is j hwj, uN_is p b3]; exact b4) tsp (by rw [uN_is p b3]; exact c2) F.sn F.un t2
      rw [wN_is to hw] at FE
      refine h t sent9 spare16 unmet18 _ _ _ _ _ t1 FE (fun s x hs hx => ?_) (fun s hs => ?_) (fun x hx => ?_) (fun x => rfl)
      · rw [e9, upd_at]
        unfold add2
        by_cases q : s = p ∧ x = j
        · rw [if_pos (by omega), if_pos q, q.1, q.2, fb_addI (by rw [hs2 p j b1 hj]; omega) (by rw [hs2 p j b1 hj]; omega), hs2 p j b1 hj]
        · rw [if_neg (by omega), if_neg q]; exact hs2 s x hs hx
      · rw [e16, upd_at]
        show _ = if s = p then spareZ s - t.toInt else spareZ s
        by_cases q : s = p
        · rw [if_pos q, if_pos q, q, fb_subI (by rw [hsp p b1]; omega) (by rw [hsp p b1]; omega), hsp p b1]
        · rw [if_neg q, if_neg q]; exact hsp s hs
      · rw [e18, upd_at]
        show _ = if x = to then unmetZ x - t.toInt else unmetZ x
        have un := F.un to hto
        have hut : unmetZ to ≤ 500 := by
          have := F.col to hto
          have nn := sI_nn (5 + n) (fun s hs => F.nn s to hs hto)
          have := hn9 to hto
          omega
        by_cases q : x = to
        · rw [if_pos q, if_pos q, q, fb_subI (by rw [hun to hto]; omega) (by rw [hun to hto]; omega), hun to hto]
        · rw [if_neg q, if_neg q]; exact hun x hx
    | succ m ih =>
      intro l hl j p sentC sent2 hj hwj hp hg hon hs2 W
      have hg0' := hg
      obtain ⟨b1, b2, b3, b4, -⟩ := tE S A (show j < Tr.n (5 + n, n, pc, sentZ, spareZ) from hj) hwj hp
      have b1 : p < 5 + n := b1
      have b2 : pc p j < NW := b2
      have b4 : ew (5 + n, n, pc, sentZ, spareZ) K j = sw (5 + n, n, pc, sentZ, spareZ) K p + pc p j := b4
      obtain ⟨i, r, g1, g2, g3⟩ := hg
      obtain ⟨c1, c2, c3, c4, -⟩ := tS S A (show p < Tr.M (5 + n, n, pc, sentZ, spareZ) from b1) g1
      have c1 : i < n := c1
      have c2 : 0 < sentZ p i := c2
      have c4 : sw (5 + n, n, pc, sentZ, spareZ) K p = ew (5 + n, n, pc, sentZ, spareZ) K i - pc p i := c4
      have pci : pc p i < NW := (F.du.ti p i b1 c1 c2).1
      have rowp := W.row p b1
      have spn := F.sn p b1
      have s9 := hs9 p b1
      have bound : ∀ x, x < n → 0 ≤ sentC p x ∧ sentC p x ≤ 999 := fun x hx => by
        have mem := sI_mem (f := fun x => sentC p x) n (fun x hx => W.nn p x b1 hx) hx
        have mem : sentC p x ≤ sI (fun x => sentC p x) n := mem
        have := W.nn p x b1 hx
        omega
      have bj := bound j hj
      have bi := bound i c1
      have W2 := snd_step W (by omega) hj c1 b1 b2 pci g1 g2 ⟨m + 1, hg0'⟩ (by rw [wN_is j hwj, uN_is p b3]; exact b4) (by rw [wN_is i c3, uN_is p b3]; omega)
      apply hX
      have c : ¬ (17 : Int32) ≤ nI l := fun z => by have := (nI_leI (a := 17) (by omega) (by omega)).mp z; omega
      refine ⟨fun z => absurd z c, fun _ => ⟨nIv (by omega) (by omega), fun y6 e6 => ?_⟩⟩
      rw [nIc (i := j) (by omega), hA2 j hj, enc_s hp] at e6
      subst e6
      refine ⟨fun z => absurd z (nne9 (by omega)), fun _ => ?_⟩
      have ix : nI p * (12 : Int32) + nI j = nI (12 * p + j) := by rw [e12, pk_mul, nI_add, Nat.mul_comm]
      rw [ix, nIc (i := 12 * p + j) (by omega), nIc (i := p) (by omega), hA1 p b1, enc_s g1]
      refine ⟨nIv (by omega) (by omega), fun sent9 e9 => ⟨nIv (by omega) (by omega), fun y11 e11 => ?_⟩⟩
      subst e11
      refine ⟨fun z => absurd z (nne9 (by omega)), fun _ => ?_⟩
      have ix2 : nI p * (12 : Int32) + nI i = nI (12 * p + i) := by rw [e12, pk_mul, nI_add, Nat.mul_comm]
      rw [ix2, nIc (i := 12 * p + i) (by omega)]
      refine ⟨nIv (by omega) (by omega), fun sent14 e14 y ey => ?_⟩
      rw [nI_1] at ey
      subst ey
      have s9v : ∀ s x, s < 5 + n → x < n → (sent9 (12 * s + x)).toInt = add2 sentC p j t.toInt s x := fun s x hs hx => by
        rw [e9, upd_at]
        unfold add2
        by_cases q : s = p ∧ x = j
        · rw [if_pos (by omega), if_pos q, q.1, q.2, fb_addI (by rw [hs2 p j b1 hj]; omega) (by rw [hs2 p j b1 hj]; omega), hs2 p j b1 hj]
        · rw [if_neg (by omega), if_neg q]; exact hs2 s x hs hx
      have a9 : 0 ≤ add2 sentC p j t.toInt p i ∧ add2 sentC p j t.toInt p i ≤ 1499 := by
        unfold add2
        split <;> omega
      refine ih (l + 1) (by omega) i r _ sent14 c1 c3 g2 g3 (fun q hq => hon q (OnP.step g1 g2 hq)) (fun s x hs hx => ?_) W2
      rw [e14, upd_at]
      show _ = add2 (add2 sentC p j t.toInt) p i (-t.toInt) s x
      have e15 : add2 (add2 sentC p j t.toInt) p i (-t.toInt) s x = if s = p ∧ x = i then add2 sentC p j t.toInt s x + -t.toInt else add2 sentC p j t.toInt s x := rfl
      rw [e15]
      by_cases q : s = p ∧ x = i
      · rw [if_pos (by omega), if_pos q, q.1, q.2, fb_subI (by rw [s9v p i b1 c1]; omega) (by rw [s9v p i b1 c1]; omega), s9v p i b1 c1]
        omega
      · rw [if_neg (by omega), if_neg q]; exact s9v s x hs hx
  exact key n0 0 (by omega) to p0 sentZ sent hto hw h0 hg0 (fun q hq => hq) hse (snd_start F D2 ts)
end sd
