section sal
variable {n : Nat} {fa bk q : Nat → Int} {rk gh : Nat → Nat} {price : Nat → Int32}
theorem sendAll_i {post : Int32 → (Nat → Int32) → (Nat → Int32) → (Nat → Int32) → (Nat → Int32) → (Nat → Int32) → (Nat → Int32) → (Nat → Int32) → Prop} {sent0 spare0 unmet0 wS0 wE0 aS0 aE0 : Nat → Int32} (hn : n ≤ 12) (h : FarOk fa) (hgh : ∀ j, j < n → gh j < 5) (hmono : ∀ i j, i ≤ j → rk i ≤ rk j) (hq : ∀ j, j < n → 0 ≤ q j ∧ q j ≤ 500) (hb : ∀ a, a < 5 → 0 ≤ bk a ∧ bk a ≤ 999) (hd : ∀ to, to < n → sI (fun j => if rk j = rk to then q j else 0) n ≤ sI (fun a => bk a) 5)
    (hpc : ∀ j, j < n → PR fa rk gh n price j) (hs0 : ∀ x, x < 204 → sent0 x = 0) (hp0 : ∀ s, s < 5 + n → (spare0 s).toInt = if s < 5 then bk s else q (s - 5)) (hu0 : ∀ j, j < n → (unmet0 j).toInt = q j)
    (hp : ∀ r a b c d e f g sentZ spareZ unmetZ u w, FT (5 + n) n (pcT fa rk gh) (fun s => if s < 5 then bk s else q (s - 5)) q sentZ spareZ unmetZ r.toInt u w → (∀ j, j < n → unmetZ j = 0) → post r a b c d e f g) : P_X2_sendAll post (nI n) price sent0 spare0 unmet0 wS0 wE0 aS0 aE0 := by
  have z0 : (0 : Int32).toInt = 0 := by decide
  have m6 : (1000000 : Int32).toInt = NW := by decide
  have e6 : (6000 : Int32) = nI 6000 := rfl
  have eN : (6000 : Int32) + nI n = nI (6000 + n) := by rw [e6, nI_add]
  have qs : ∀ m, m ≤ n → 0 ≤ sI (fun j => q j) m ∧ sI (fun j => q j) m ≤ 500 * m := by
    intro m
    induction m with
    | zero => intro _; rw [sI]; decide
    | succ m ih =>
      intro hm
      have := ih (by omega)
      have := hq m (by omega)
      rw [sI]
      omega
  have sp9 : ∀ s, s < 5 + n → (fun s => if s < 5 then bk s else q (s - 5)) s ≤ 999 := fun s hs => by
    show (if s < 5 then bk s else q (s - 5)) ≤ 999
    by_cases c : s < 5
    · rw [if_pos c]; exact (hb s c).2
    · rw [if_neg c]; have := hq (s - 5) (by omega); omega
  have hpc2 : ∀ s j, s < 5 + n → j < n → (price (12 * s + j)).toInt = pcT fa rk gh s j := fun s j hs hj => hpc j hj s hs
  unfold P_X2_sendAll
  rw [eN]
  intro X hX
  have loop : ∀ b : Nat, ∀ (j c : Nat) (x1 : Int32) (sent spare unmet wS wE aS aE : Nat → Int32) (sentZ : Nat → Nat → Int) (spareZ unmetZ u w : Nat → Int), j ≤ n → (n - j) + (sI (fun i => unmetZ i) n).toNat < b → (c : Int) ≤ j + sI (fun i => q i) n - sI (fun i => unmetZ i) n → FT (5 + n) n (pcT fa rk gh) (fun s => if s < 5 then bk s else q (s - 5)) q sentZ spareZ unmetZ x1.toInt u w → (∀ i, i < j → unmetZ i = 0) → (∀ i, j < i → i < n → unmetZ i = q i) → (∀ s i, s < 5 + n → i < n → (sent (12 * s + i)).toInt = sentZ s i) → (∀ s, s < 5 + n → (spare s).toInt = spareZ s) → (∀ i, i < n → (unmet i).toInt = unmetZ i) → X x1 (nI j) (nI c) sent spare unmet wS wE aS aE := by
    intro b
    induction b with
    | zero => intro j c x1 sent spare unmet wS wE aS aE sentZ spareZ unmetZ u w _ hb0; omega
    | succ b ihb =>
      intro j c x1 sent spare unmet wS wE aS aE sentZ spareZ unmetZ u w hj hbm hc F hzero hlat hse hsp hun
      have us : 0 ≤ sI (fun i => unmetZ i) n := sI_nn n (fun i hi => F.un i hi)
      have qn := qs n (Nat.le_refl _)
      have hc6 : c ≤ 6000 + n := by omega
      apply hX
      have c1 : ¬ nI (6000 + n) < nI c := fun z => by have := (nI_ltI (by omega) (by omega)).mp z; omega
      refine ⟨fun z => absurd z c1, fun _ => ⟨fun z => ?_, fun z => ?_⟩⟩
      · have hjn : j < n := (nI_ltI (by omega) (by omega)).mp z
        rw [nIc (i := j) (by omega)]
        have huj := hun j hjn
        have u0 := F.un j hjn
        refine ⟨nIv (by omega) (by omega), fun z2 y1 ey1 y2 ey2 => ?_, fun z2 => ?_⟩
        · rw [nI_1] at ey1 ey2
          subst ey1
          subst ey2
          have zj : unmetZ j = 0 := by rw [← huj, z2, z0]
          refine ihb (j + 1) (c + 1) x1 sent spare unmet wS wE aS aE sentZ spareZ unmetZ u w (by omega) (by omega) (by omega) F (fun i hi => ?_) (fun i h1 h2 => hlat i (by omega) h2) hse hsp hun
          by_cases w1 : i = j
          · subst w1; exact zj
          · exact hzero i (by omega)
        · have uj : 0 < unmetZ j := by
            by_cases w1 : unmetZ j = 0
            · exact absurd (by rw [fa_eq, huj, w1, z0]) z2
            · omega
          refine seekWays_i (T := (5 + n, n, pcT fa rk gh, sentZ, spareZ)) hn rfl rfl F.du hpc2 hse hsp (fun K wS2 wE2 aS2 aE2 aSo aEo S hK hS hE A hA1 hA2 => ?_)
          -- it can be reached
          obtain ⟨s, s1, s2, s3⟩ := feas h hgh hmono (fun i hi => (hq i hi).1) F hjn uj hlat (hd j hjn)
          have rch : ew (5 + n, n, pcT fa rk gh, sentZ, spareZ) K j < NW := by
            have h0 : sw (5 + n, n, pcT fa rk gh, sentZ, spareZ) 0 s = 0 := by rw [sw_0]; exact if_pos s3
            have h1 := ew_rel (T := (5 + n, n, pcT fa rk gh, sentZ, spareZ)) (k := 0) (s := s) (j := j) s1 (by rw [h0]; decide) s2
            have h2 := ew_ge (T := (5 + n, n, pcT fa rk gh, sentZ, spareZ)) (k := 0 + 1) (k2 := K) (by have := S.1; omega) j
            have h1 : ew (5 + n, n, pcT fa rk gh, sentZ, spareZ) (0 + 1) j ≤ sw (5 + n, n, pcT fa rk gh, sentZ, spareZ) 0 s + pcT fa rk gh s j := h1
            omega
          have hEj := hE j hjn
          refine ⟨fun z3 => ?_, fun z3 => ?_⟩
          · refine send_i hn F S hK A sp9 (fun i hi => (hq i hi).2) hse hsp hun hA1 hA2 hjn rch uj (fun t sent3 spare3 unmet3 sentZ3 spareZ3 unmetZ3 u3 w3 t1 F3 k1 k2 k3 k4 => ?_)
            intro y1 ey1 y2 ey2
            rw [nI_1] at ey2
            subst ey2
            have tr1 := tot_rng F
            have tr3 := tot_rng F3
            have mu : (wE2 j * t).toInt = t.toInt * ew (5 + n, n, pcT fa rk gh, sentZ, spareZ) K j := by
              have hh : (wE2 j).toInt * t.toInt = t.toInt * ew (5 + n, n, pcT fa rk gh, sentZ, spareZ) K j := by rw [hEj, Int.mul_comm]
              rw [fb_mulI (by rw [hh]; omega) (by rw [hh]; omega), hh]
            have ev : y1.toInt = x1.toInt + t.toInt * ew (5 + n, n, pcT fa rk gh, sentZ, spareZ) K j := by
              rw [ey1, fb_addI (by rw [mu]; omega) (by rw [mu]; omega), mu]
            have su : sI (fun i => unmetZ3 i) n = sI (fun i => unmetZ i) n - t.toInt := by
              rw [sI_one (f := fun i => unmetZ3 i) (g := fun i => unmetZ i) (c := j) n hjn (fun i _ hi => by rw [k4 i, if_neg hi])]
              rw [k4 j, if_pos rfl]
              omega
            have us3 : 0 ≤ sI (fun i => unmetZ3 i) n := sI_nn n (fun i hi => F3.un i hi)
            refine ihb j (c + 1) y1 sent3 spare3 unmet3 wS2 wE2 aS2 aE2 sentZ3 spareZ3 unmetZ3 u3 w3 hj (by omega) (by omega) (by rw [ev]; exact F3) (fun i hi => ?_) (fun i h1 h2 => ?_) k1 k2 k3
            · rw [k4 i, if_neg (by omega)]; exact hzero i hi
            · rw [k4 i, if_neg (by omega)]; exact hlat i h1 h2
          · rw [fa_lt, hEj, m6] at z3
            exact absurd rch z3
      · have hjn : j = n := by
          by_cases w1 : j < n
          · exact absurd ((nI_ltI (by omega) (by omega)).mpr w1) z
          · omega
        subst hjn
        exact hp x1 _ _ _ _ _ _ _ sentZ spareZ unmetZ u w F hzero
  have F0 : FT (5 + n) n (pcT fa rk gh) (fun s => if s < 5 then bk s else q (s - 5)) q (fun _ _ => 0) (fun s => if s < 5 then bk s else q (s - 5)) (fun j => q j) (0 : Int32).toInt (fun _ => 0) (fun _ => 0) := by
    refine ⟨fun s j _ _ => Int.le_refl _, fun s hs => ?_, fun j hj => (hq j hj).1, fun s hs => ?_, fun j hj => ?_, ?_, fun s j hs hj => pcT_rng h hgh hs hj, fun s j hs hj _ => ?_, fun s j _ _ hlt => absurd hlt (by simp), fun s _ => Int.le_refl _, fun s _ _ => rfl⟩
    · show 0 ≤ if s < 5 then bk s else q (s - 5)
      by_cases c : s < 5
      · rw [if_pos c]; exact (hb s c).1
      · rw [if_neg c]; exact (hq (s - 5) (by omega)).1
    · show (if s < 5 then bk s else q (s - 5)) + sI (fun _ => 0) n = _
      rw [sI_0, Int.add_zero]
    · show q j + sI (fun _ => 0) (5 + n) = q j
      rw [sI_0, Int.add_zero]
    · rw [z0]
      unfold allC
      rw [sI_cong (g := fun _ => 0) (5 + n) (fun s _ => by
        show sI (fun j => 0 * pcT fa rk gh s j) n = 0
        rw [sI_cong (g := fun _ => 0) n (fun j _ => by simp), sI_0]), sI_0]
    · show (0 : Int) ≤ 0 + pcT fa rk gh s j
      have := (pcT_rng (n := n) (r := rk) h hgh hs hj).1
      omega
  exact loop (n + (sI (fun i => q i) n).toNat + 1) 0 0 0 sent0 spare0 unmet0 wS0 wE0 aS0 aE0 _ _ _ _ _ (by omega) (by omega) (by omega) F0 (fun i hi => absurd hi (by omega)) (fun i _ _ => rfl) (fun s i hs hi => by rw [hs0 _ (by omega)]; rfl) hp0 hu0
end sal
