theorem xor1 : ∀ e : Nat, e < 1000 → nI e ^^^ (1 : Int32) = nI (mate e) := by decide +kernel
section flw
variable {D : Nat} {fa bk nd : Nat → Int} {ef et : Nat → Int32} {pc : Nat → Int64}
theorem sum_rng {rm pi : Nat → Int} {val sum : Int} (hD : D ≤ 12) (hf : ∀ i, i < 25 → 0 ≤ fa i ∧ fa i ≤ 99) (hcp : ∀ i, i < 10 + 35 * D → cpP D bk nd i ≤ 1000000) (F : FI (dNet D fa) (cpP D bk nd) rm val sum pi) : -5000000000000000 ≤ sum ∧ sum ≤ 5000000000000000 := by
  have t : ∀ i, i < 10 + 35 * D → -10000000000000 ≤ rm (2 * i + 1) * prP D fa i ∧ rm (2 * i + 1) * prP D fa i ≤ 10000000000000 := by
    intro i hi
    obtain ⟨x0, x1, -⟩ := d_x F hi
    have c := hcp i hi
    obtain ⟨-, -, p1, p2⟩ := p_rng hf hi
    have h1 : rm (2 * i + 1) * (-10000000) ≤ rm (2 * i + 1) * prP D fa i := Int.mul_le_mul_of_nonneg_left p1 x0
    have h2 : rm (2 * i + 1) * prP D fa i ≤ rm (2 * i + 1) * 99 := Int.mul_le_mul_of_nonneg_left p2 x0
    omega
  have e := d_cost F
  have up : sI (fun i => rm (2 * i + 1) * prP D fa i) (10 + 35 * D) ≤ sI (fun _ => 10000000000000) (10 + 35 * D) := sI_le _ (fun i hi => (t i hi).2)
  have lo : sI (fun _ => -10000000000000) (10 + 35 * D) ≤ sI (fun i => rm (2 * i + 1) * prP D fa i) (10 + 35 * D) := sI_le _ (fun i hi => (t i hi).1)
  rw [sI_c, e] at up
  rw [sI_c, e] at lo
  omega
/-- where the sink is out of reach, all pieces are on their way -/
theorem full_src {rm pi far : Nat → Int} {cm : Nat → Nat} {val sum : Int} (hD : D ≤ 12) (ok : NetOk (dNet D fa)) (F : FI (dNet D fa) (cpP D bk nd) rm val sum pi) (hv : val < 1000000) (B : BF (dNet D fa) rm pi far cm) (S : Still (dNet D fa) rm far) (h1 : ¬ far 1 < EN) {a : Nat} (ha : a < 5) : rm (2 * a + 1) = bk a := by
  obtain ⟨-, -, reach⟩ := still_pot ok F.pot B S
  have go : ∀ i, i < 10 + 35 * D → rm (2 * i + 1) < cpP D bk nd i → far (frP D i) < EN → far (toP D i) < EN := fun i hi hl hf => by
    have := reach (2 * i) (by show 2 * i < 2 * (10 + 35 * D); omega) (by have := (d_x F hi).2.2; omega)
    rw [(d_fr i).1, (d_to i).1] at this
    exact this hf
  obtain ⟨s1, s2, s3, s4⟩ := k_src D fa bk nd ha
  have xa := d_x F (i := a) (by omega)
  rw [s4] at xa
  by_cases c : rm (2 * a + 1) = bk a
  · exact c
  · exfalso
    have r0 : far (pv 0 a) < EN := by
      have := go a (by omega) (by rw [s4]; omega)
      rw [s1, s2] at this
      exact this (by rw [B.z]; decide)
    have all : ∀ d, d ≤ D → far (pv d a) < EN := by
      intro d
      induction d with
      | zero => intro _; exact r0
      | succ d ih =>
        intro hd
        have h0 := ih (by omega)
        obtain ⟨t1, t2, t3, t4⟩ := k_mov D fa bk nd (show d < D by omega) ha ha
        have g1 := go (5 + 35 * d + (5 * a + a)) (by omega) (by rw [t4]; have := x_le_all F (i := 5 + 35 * d + (5 * a + a)) (by omega); omega)
        rw [t1, t2] at g1
        obtain ⟨u1, u2, u3, u4⟩ := k_idle D fa bk nd (show d < D by omega) ha
        have g2 := go (5 + 35 * d + (25 + (2 * a + 1))) (by omega) (by rw [u4]; have := x_le_all F (i := 5 + 35 * d + (25 + (2 * a + 1))) (by omega); omega)
        rw [u1, u2] at g2
        exact g2 (g1 h0)
    obtain ⟨t1, t2, t3, t4⟩ := k_sink D fa bk nd ha
    have g := go (5 + 35 * D + a) (by omega) (by rw [t4]; have := x_le_all F (i := 5 + 35 * D + a) (by omega); omega)
    rw [t1, t2] at g
    exact h1 (g (all D (Nat.le_refl _)))
theorem flow_i {post : Int64 → (Nat → Int32) → (Nat → Int64) → (Nat → Int32) → Prop} {room0 : Nat → Int32} {far0 : Nat → Int64} {came0 : Nat → Int32} (hD : D ≤ 12) (hf : ∀ i, i < 25 → 0 ≤ fa i ∧ fa i ≤ 99) (hb : ∀ a, a < 5 → 0 ≤ bk a ∧ bk a ≤ 999) (hnd : ∀ i, i < 5 * D → 0 ≤ nd i ∧ nd i ≤ 1000000) (L : LN D fa bk nd (10 + 35 * D) ef et room0 pc)
    (h : ∀ s room far came rm val sum pi, s.toInt = sum → FI (dNet D fa) (cpP D bk nd) rm val sum pi → (∀ a, a < 5 → rm (2 * a + 1) = bk a) → post s room far came) : P_X11_flow post (nI D) (nI (2 * (10 + 35 * D))) ef et room0 pc far0 came0 := by
  have ok := d_ok (D := D) (fa := fa) hD hf
  have hNd : (dNet D fa).N = 7 + 10 * D := rfl
  have hmd : (dNet D fa).m = 10 + 35 * D := rfl
  have par : ∀ e, e < 2 * (10 + 35 * D) → (∃ i, i < 10 + 35 * D ∧ e = 2 * i) ∨ ∃ i, i < 10 + 35 * D ∧ e = 2 * i + 1 := fun e he => by
    by_cases c : e % 2 = 0
    · exact Or.inl ⟨e / 2, by omega, by omega⟩
    · exact Or.inr ⟨e / 2, by omega, by omega⟩
  have M : MN (dNet D fa) ef et pc := by
    intro e he
    rcases par e he with ⟨i, hi, rfl⟩ | ⟨i, hi, rfl⟩
    · obtain ⟨a, b, -, d⟩ := L i hi
      rw [(d_fr i).1, (d_to i).1, (d_pr i).1]
      exact ⟨a.1, b.1, d.1⟩
    · obtain ⟨a, b, -, d⟩ := L i hi
      rw [(d_fr i).2, (d_to i).2, (d_pr i).2]
      exact ⟨a.2, b.2, d.2⟩
  have hcp : ∀ i, i < 10 + 35 * D → cpP D bk nd i ≤ 1000000 := fun i hi => by
    rcases kinds D hi with w | ⟨d, a, b, hd, ha, hb2, rfl⟩ | ⟨d, a, hd, hh, rfl⟩ | ⟨d, a, hd, hh, rfl⟩ | ⟨a, hh, rfl⟩
    · rw [(k_src D fa bk nd w).2.2.2]; have := hb i w; omega
    · rw [(k_mov D fa bk nd hd ha hb2).2.2.2]; omega
    · rw [(k_need D fa bk nd hd hh).2.2.2]; exact (hnd _ (by omega)).2
    · rw [(k_idle D fa bk nd hd hh).2.2.2]; omega
    · rw [(k_sink D fa bk nd hh).2.2.2]; omega
  have valle : ∀ rm val sum pi, FI (dNet D fa) (cpP D bk nd) rm val sum pi → val ≤ 4995 := fun rm val sum pi F => by
    rw [val_src F]
    have : sI (fun a => rm (2 * a + 1)) 5 ≤ sI (fun _ => 999) 5 := sI_le 5 (fun a ha => by
      have h1 := (d_x F (i := a) (by omega)).2.1
      rw [(k_src D fa bk nd ha).2.2.2] at h1
      have := hb a ha
      show rm (2 * a + 1) ≤ 999
      omega)
    have e : sI (fun _ => (999 : Int)) 5 = 4995 := by decide
    omega
  have rmle : ∀ rm : Nat → Int, (∀ e, e < 2 * (dNet D fa).m → 0 ≤ rm e) → (∀ i, i < (dNet D fa).m → rm (2 * i) + rm (2 * i + 1) = cpP D bk nd i) → ∀ e, e < 2 * (10 + 35 * D) → 0 ≤ rm e ∧ rm e ≤ 1000000 := fun rm hnn hcq e he => by
    rcases par e he with ⟨i, hi, rfl⟩ | ⟨i, hi, rfl⟩
    · have a1 := hnn (2 * i) he
      have a2 := hnn (2 * i + 1) (by rw [hmd]; omega)
      have a3 := hcq i hi
      have a4 := hcp i hi
      omega
    · have a1 := hnn (2 * i) (by rw [hmd]; omega)
      have a2 := hnn (2 * i + 1) he
      have a3 := hcq i hi
      have a4 := hcp i hi
      omega
  have c1 : (1 : Int32).toNatClampNeg = 1 := rfl
  have v1 : vp_in (1 : Int32) 130 := vp_in_iff.mpr (by decide)
  have hE : EN = 1000000000000000 := rfl
  unfold P_X11_flow
  intro X2 X15 X73 h2 h15 h73
  have loop : ∀ b : Nat, ∀ (rm pi : Nat → Int) (val sum : Int) (s : Int64) (room : Nat → Int32) (far : Nat → Int64) (came : Nat → Int32), (4995 - val).toNat < b → FI (dNet D fa) (cpP D bk nd) rm val sum pi → (∀ e, e < 2 * (10 + 35 * D) → (room e).toInt = rm e) → s.toInt = sum → X2 s room far came := by
    intro b
    induction b with
    | zero => intro rm pi val sum s room far came hb2; omega
    | succ b ihb =>
      intro rm pi val sum s room far came hbv F hr hs
      have hval := valle rm val sum pi F
      apply h2
      refine layFar_i (T := dNet D fa) ok hNd hD (by rw [hmd]; omega) M hr F.pot (fun r far2 came2 cm B S hc hr1 => ?_)
      refine ⟨fun z => ?_, fun z => ?_⟩
      · exact h s room far2 came2 rm val sum pi hs F (fun a ha => full_src hD ok F (by omega) B S (hr1.mp z) ha)
      · have f1 : (far2 1).toInt < EN := by
          by_cases q : (far2 1).toInt < EN
          · exact q
          · exact absurd (hr1.mpr q) z
        obtain ⟨P2, -, -⟩ := still_pot ok F.pot B S
        have node : ∀ v, v < 7 + 10 * D → v ≠ 0 → (far2 v).toInt < EN → cm v < 2 * (10 + 35 * D) ∧ 0 < rm (cm v) ∧ (dNet D fa).to (cm v) = v ∧ (far2 ((dNet D fa).fr (cm v))).toInt < EN ∧ (dNet D fa).fr (cm v) < 7 + 10 * D ∧ came2 v = nI (cm v) ∧ (far2 v).toInt = (far2 ((dNet D fa).fr (cm v))).toInt + (dNet D fa).pr (cm v) := fun v hv v0 hfv => by
          obtain ⟨a1, a2, a3, a4, a5⟩ := B.cm v hv v0 hfv
          exact ⟨a1, a2, a3, a4, ok.frN _ a1, hc v hv v0 hfv, tight ok B S hv v0 hfv⟩
        have onok : ∀ n v u, Dp (dNet D fa) cm v n → v < 7 + 10 * D → (far2 v).toInt < EN → On (dNet D fa) cm v u → u < 7 + 10 * D ∧ (far2 u).toInt < EN := by
          intro n
          induction n with
          | zero =>
            intro v u hdp hv hfv hon
            have v0 : v = 0 := hdp
            subst v0
            rw [On_0 hon]
            exact ⟨hv, hfv⟩
          | succ n ih =>
            intro v u hdp hv hfv hon
            rcases On_cases hon with e | ⟨-, e⟩
            · rw [e]; exact ⟨hv, hfv⟩
            · obtain ⟨-, -, -, b4, b5, -⟩ := node v hv hdp.1 hfv
              exact ih _ u hdp.2 b5 b4 e
        obtain ⟨n1, hn1⟩ := B.ch 1 (by rw [hNd]; omega) f1
        -- the second walk
        have walk : ∀ t : Int32, 1 ≤ t.toInt → t.toInt ≤ 1000000 → ∀ n v, Dp (dNet D fa) cm v n → v < 7 + 10 * D → (far2 v).toInt < EN → ∀ (rm2 : Nat → Int) (room2 : Nat → Int32), (∀ e, e < 2 * (10 + 35 * D) → (room2 e).toInt = rm2 e) → AW (dNet D fa) (cpP D bk nd) cm (fun v => (far2 v).toInt) (piN pi (fun v => (far2 v).toInt)) val sum t.toInt rm2 v → X73 s t (nI v) room2 far2 came2 := by
          intro t t1 t2 n
          induction n with
          | zero =>
            intro v hdp hv hfv rm2 room2 hr2 A
            have v0 : v = 0 := hdp
            subst v0
            have F2 := aug_end A B.z
            have g1 := sum_rng hD hf hcp F
            have g2 := sum_rng hD hf hcp F2
            have hv2 := valle _ _ _ _ F2
            apply h73
            refine ⟨fun _ => ⟨v1, fun y ey => ?_⟩, fun z => absurd rfl z⟩
            rw [c1] at ey
            have ht : t.toInt64.toInt = t.toInt := i64 t
            have mu : (t.toInt64 * far2 1).toInt = t.toInt * (far2 1).toInt := by
              rw [fb_mulL (by rw [ht]; omega) (by rw [ht]; omega), ht]
            refine ihb rm2 _ (val + t.toInt) (sum + t.toInt * (far2 1).toInt) y room2 far2 came2 (by omega) F2 hr2 ?_
            rw [ey, fb_addL (by rw [mu, hs]; omega) (by rw [mu, hs]; omega), mu, hs]
          | succ n ih =>
            intro v hdp hv hfv rm2 room2 hr2 A
            obtain ⟨v0, hdp2⟩ := hdp
            obtain ⟨b1, b2, b3, b4, b5, b6, b7⟩ := node v hv v0 hfv
            have kp := A.keep v On.refl v0
            have A2 := aug_step ok A (by omega) v0 b1 b3 b7 (by
              unfold piN
              rw [if_pos hfv, if_pos b4]
              exact b7) (fun u hu u0 => by
              obtain ⟨w1, w2⟩ := onok n _ u hdp2 b5 b4 hu
              exact (node u w1 u0 w2).2.2.1) ⟨n + 1, v0, hdp2⟩
            have mt := mate_lt (m := 10 + 35 * D) b1
            have r1 := rmle rm2 A.nn A.cp (cm v) b1
            have r2 := rmle rm2 A.nn A.cp (mate (cm v)) mt
            have mne : mate (cm v) ≠ cm v := by unfold mate; split <;> omega
            apply h73
            refine ⟨fun z => absurd ((nI_eq (b := 0) (by omega) (by omega)).mp z) v0, fun _ => ?_⟩
            rw [nIc (i := v) (by omega), b6, nIc (i := cm v) (by omega), xor1 (cm v) (by omega), nIc (i := mate (cm v)) (by omega)]
            refine ⟨nIv (by omega) (by omega), nIv (by omega) (by omega), fun rm3 e3 => ⟨nIv (by omega) (by omega), fun rm4 e4 y ey => ?_⟩⟩
            rw [(M (cm v) b1).1] at ey
            subst ey
            refine ih _ hdp2 b5 b4 (push rm2 (cm v) t.toInt) rm4 (fun e he => ?_) A2
            rw [e4, e3, upd_at]
            unfold push
            by_cases q : e = mate (cm v)
            · rw [if_pos q, if_neg (by rw [q]; exact mne), if_pos q, upd_at, if_neg mne, fb_addI (by rw [hr2 _ mt]; omega) (by rw [hr2 _ mt]; omega), hr2 _ mt, q]
            · rw [if_neg q, upd_at]
              by_cases q2 : e = cm v
              · rw [if_pos q2, if_pos q2, fb_subI (by rw [hr2 _ b1]; omega) (by rw [hr2 _ b1]; omega), hr2 _ b1, q2]
              · rw [if_neg q2, if_neg q2, if_neg q]; exact hr2 e he
        -- the first walk
        have most : ∀ n v, Dp (dNet D fa) cm v n → v < 7 + 10 * D → (far2 v).toInt < EN → ∀ t : Int32, 1 ≤ t.toInt → t.toInt ≤ 1000000 → (∀ u, On (dNet D fa) cm 1 u → u ≠ 0 → t.toInt ≤ rm (cm u) ∨ On (dNet D fa) cm v u) → X15 s t (nI v) room far2 came2 := by
          intro n
          induction n with
          | zero =>
            intro v hdp hv hfv t t1 t2 hall
            have v0 : v = 0 := hdp
            subst v0
            apply h15
            refine ⟨fun _ => ?_, fun z => absurd rfl z⟩
            have := walk t t1 t2 n1 1 hn1 (by omega) f1 rm room hr (aug_start F (fun u hu u0 => by
              rcases hall u hu u0 with w | w
              · exact w
              · exact absurd (On_0 w) u0) P2)
            exact this
          | succ n ih =>
            intro v hdp hv hfv t t1 t2 hall
            obtain ⟨v0, hdp2⟩ := hdp
            obtain ⟨b1, b2, b3, b4, b5, b6, b7⟩ := node v hv v0 hfv
            have r1 := rmle rm F.nn F.cp (cm v) b1
            apply h15
            refine ⟨fun z => absurd ((nI_eq (b := 0) (by omega) (by omega)).mp z) v0, fun _ => ?_⟩
            rw [nIc (i := v) (by omega), b6, nIc (i := cm v) (by omega)]
            refine ⟨nIv (by omega) (by omega), nIv (by omega) (by omega), fun t3 e3 y ey => ?_⟩
            rw [(M (cm v) b1).1] at ey
            subst ey
            have ht3 : t3.toInt ≤ t.toInt ∧ t3.toInt ≤ rm (cm v) ∧ 1 ≤ t3.toInt := by
              rw [e3]
              by_cases q : t ≤ room (cm v)
              · rw [if_pos q]; rw [fa_le, hr _ b1] at q; omega
              · rw [if_neg q]; rw [fa_le, hr _ b1] at q; rw [hr _ b1]; omega
            refine ih _ hdp2 b5 b4 t3 ht3.2.2 (by omega) (fun u hu u0 => ?_)
            rcases hall u hu u0 with w | w
            · exact Or.inl (by omega)
            · rcases On_cases w with e | ⟨-, e⟩
              · rw [e]; exact Or.inl ht3.2.1
              · exact Or.inr e
        exact most n1 1 hn1 (by omega) f1 1000000 (by decide) (by decide) (fun u hu u0 => Or.inr hu)
  have z64 : (0 : Int64).toInt = 0 := by decide
  have F0 := fi_0 (D := D) (fa := fa) (bk := bk) (nd := nd) (rm := fun e => (room0 e).toInt) hD hf (fun i hi => by
    obtain ⟨-, -, c, -⟩ := L i hi
    refine ⟨c.1, ?_⟩
    show (room0 (2 * i + 1)).toInt = 0
    rw [c.2]; rfl) (fun a ha => (hb a ha).1) (fun i hi => (hnd i hi).1)
  exact loop 5000 _ (pi0 D) 0 0 0 room0 far0 came0 (by decide) F0 (fun e _ => rfl) z64
end flw
