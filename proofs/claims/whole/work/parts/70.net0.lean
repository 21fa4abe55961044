/-- the sum of f j, j < k -/
def sI (f : Nat → Int) : Nat → Int
  | 0 => 0
  | k + 1 => sI f k + f k
theorem sI_cong {f g : Nat → Int} : ∀ k : Nat, (∀ j, j < k → f j = g j) → sI f k = sI g k
  | 0, _ => rfl
  | k + 1, h => by rw [sI, sI, sI_cong k (fun j hj => h j (by omega)), h k (by omega)]
theorem sI_le {f g : Nat → Int} : ∀ k : Nat, (∀ j, j < k → f j ≤ g j) → sI f k ≤ sI g k
  | 0, _ => Int.le_refl _
  | k + 1, h => by
    have h1 := sI_le k (fun j hj => h j (by omega))
    have h2 := h k (by omega)
    rw [sI, sI]; omega
theorem sI_nn {f : Nat → Int} : ∀ k : Nat, (∀ j, j < k → 0 ≤ f j) → 0 ≤ sI f k
  | 0, _ => Int.le_refl _
  | k + 1, h => by
    have h1 := sI_nn k (fun j hj => h j (by omega))
    have h2 := h k (by omega)
    rw [sI]; omega
theorem sI_add (f g : Nat → Int) : ∀ k, sI (fun j => f j + g j) k = sI f k + sI g k
  | 0 => rfl
  | k + 1 => by rw [sI, sI, sI, sI_add f g k]; omega
theorem sI_sub (f g : Nat → Int) : ∀ k, sI (fun j => f j - g j) k = sI f k - sI g k
  | 0 => rfl
  | k + 1 => by rw [sI, sI, sI, sI_sub f g k]; omega
theorem sI_mulr (f : Nat → Int) (c : Int) : ∀ k, sI (fun j => f j * c) k = sI f k * c
  | 0 => by rw [sI, sI, Int.zero_mul]
  | k + 1 => by rw [sI, sI, sI_mulr f c k, Int.add_mul]
theorem sI_mull (f : Nat → Int) (c : Int) : ∀ k, sI (fun j => c * f j) k = c * sI f k
  | 0 => by rw [sI, sI, Int.mul_zero]
  | k + 1 => by rw [sI, sI, sI_mull f c k, Int.mul_add]
theorem sI_0 : ∀ k, sI (fun _ => 0) k = 0
  | 0 => rfl
  | k + 1 => by rw [sI, sI_0 k]; rfl
theorem sI_c (c : Int) : ∀ k : Nat, sI (fun _ => c) k = c * k
  | 0 => by rw [sI]; simp
  | k + 1 => by rw [sI, sI_c c k, Int.natCast_succ, Int.mul_add, Int.mul_one]
theorem sI_split (f : Nat → Int) (i : Nat) : ∀ j, sI f (i + j) = sI f i + sI (fun t => f (i + t)) j
  | 0 => by rw [Nat.add_zero, sI, Int.add_zero]
  | j + 1 => by
    have e : i + (j + 1) = (i + j) + 1 := by omega
    rw [e, sI, sI_split f i j, sI]; omega
theorem sI_swap (f : Nat → Nat → Int) (n : Nat) : ∀ m, sI (fun i => sI (fun j => f i j) n) m = sI (fun j => sI (fun i => f i j) m) n
  | 0 => by
    have : (fun j => sI (fun i => f i j) 0) = fun _ => (0 : Int) := by funext j; rfl
    rw [this, sI_0]; rfl
  | m + 1 => by
    rw [sI, sI_swap f n m, ← sI_add]
    exact sI_cong n (fun j _ => rfl)
/-- a sum where one place has changed -/
theorem sI_one {f g : Nat → Int} {c : Nat} : ∀ k, c < k → (∀ j, j < k → j ≠ c → f j = g j) → sI f k = sI g k + (f c - g c)
  | 0, h, _ => absurd h (by omega)
  | k + 1, h, e => by
    rw [sI, sI]
    by_cases q : c = k
    · subst q
      rw [sI_cong c (fun j hj => e j (by omega) (by omega))]
      omega
    · rw [sI_one k (by omega) (fun j hj => e j (by omega)), e k (by omega) (fun z => q z.symm)]
      omega
/-- how many v < k are below top -/
def cN (far : Nat → Int) (top : Int) : Nat → Nat
  | 0 => 0
  | k + 1 => cN far top k + if far k < top then 1 else 0
theorem cN_le (far : Nat → Int) (top : Int) : ∀ k, cN far top k ≤ k
  | 0 => by rw [cN]; omega
  | k + 1 => by have := cN_le far top k; rw [cN]; split <;> omega
theorem cN_cong {far far2 : Nat → Int} {top : Int} : ∀ k, (∀ j, j < k → (far j < top ↔ far2 j < top)) → cN far top k = cN far2 top k
  | 0, _ => rfl
  | k + 1, h => by
    rw [cN, cN, cN_cong k (fun j hj => h j (by omega))]
    have := h k (by omega)
    by_cases q : far k < top
    · rw [if_pos q, if_pos (this.mp q)]
    · rw [if_neg q, if_neg (fun z => q (this.mpr z))]
theorem cN_new {far far2 : Nat → Int} {top : Int} {c : Nat} : ∀ k, c < k → ¬ far c < top → far2 c < top → (∀ j, j ≠ c → far j = far2 j) → cN far2 top k = cN far top k + 1
  | 0, h, _, _, _ => absurd h (by omega)
  | k + 1, h, h1, h2, e => by
    rw [cN, cN]
    by_cases q : c = k
    · subst q
      rw [if_neg h1, if_pos h2, cN_cong (far := far2) (far2 := far) c (fun j hj => by rw [e j (by omega)])]
    · rw [cN_new k (by omega) h1 h2 e, e k (fun z => q z.symm)]
      omega
/-- a net: edges in pairs, 2 i there, 2 i + 1 back -/
abbrev Net := Nat × Nat × (Nat → Nat) × (Nat → Nat) × (Nat → Int)
abbrev Net.m (T : Net) : Nat := T.1
abbrev Net.N (T : Net) : Nat := T.2.1
abbrev Net.fr (T : Net) : Nat → Nat := T.2.2.1
abbrev Net.to (T : Net) : Nat → Nat := T.2.2.2.1
abbrev Net.pr (T : Net) : Nat → Int := T.2.2.2.2
abbrev NetOk (T : Net) : Prop :=
  (∀ i, i < T.m → T.fr (2 * i + 1) = T.to (2 * i)) ∧
  (∀ i, i < T.m → T.to (2 * i + 1) = T.fr (2 * i)) ∧
  (∀ i, i < T.m → T.pr (2 * i + 1) = - T.pr (2 * i)) ∧
  (∀ e, e < 2 * T.m → T.fr e < T.N) ∧
  (∀ e, e < 2 * T.m → T.to e < T.N) ∧
  (1 < T.N ∧ T.N ≤ 127) ∧
  (∀ e, e < 2 * T.m → -10000000 ≤ T.pr e ∧ T.pr e ≤ 10000000)
theorem NetOk.frto {T : Net} (h : NetOk T) : ∀ i, i < T.m → T.fr (2 * i + 1) = T.to (2 * i) := h.1
theorem NetOk.tofr {T : Net} (h : NetOk T) : ∀ i, i < T.m → T.to (2 * i + 1) = T.fr (2 * i) := h.2.1
theorem NetOk.back {T : Net} (h : NetOk T) : ∀ i, i < T.m → T.pr (2 * i + 1) = - T.pr (2 * i) := h.2.2.1
theorem NetOk.frN {T : Net} (h : NetOk T) : ∀ e, e < 2 * T.m → T.fr e < T.N := h.2.2.2.1
theorem NetOk.toN {T : Net} (h : NetOk T) : ∀ e, e < 2 * T.m → T.to e < T.N := h.2.2.2.2.1
theorem NetOk.pos {T : Net} (h : NetOk T) : 1 < T.N ∧ T.N ≤ 127 := h.2.2.2.2.2.1
theorem NetOk.low {T : Net} (h : NetOk T) : ∀ e, e < 2 * T.m → -10000000 ≤ T.pr e ∧ T.pr e ≤ 10000000 := h.2.2.2.2.2.2
def mate (e : Nat) : Nat := if e % 2 = 0 then e + 1 else e - 1
theorem mate_lt {e m : Nat} (h : e < 2 * m) : mate e < 2 * m := by unfold mate; split <;> omega
section netM
variable {T : Net}
theorem fr_mate (ok : NetOk T) {e : Nat} (h : e < 2 * T.m) : T.fr (mate e) = T.to e := by
  unfold mate
  by_cases q : e % 2 = 0
  · have := ok.frto (e / 2) (by omega)
    have e2 : 2 * (e / 2) = e := by omega
    rw [if_pos q]; rw [e2] at this; exact this
  · have := ok.tofr (e / 2) (by omega)
    have e2 : 2 * (e / 2) = e - 1 := by omega
    have e3 : e - 1 + 1 = e := by omega
    rw [if_neg q]; rw [e2, e3] at this; exact this.symm
theorem to_mate (ok : NetOk T) {e : Nat} (h : e < 2 * T.m) : T.to (mate e) = T.fr e := by
  unfold mate
  by_cases q : e % 2 = 0
  · have := ok.tofr (e / 2) (by omega)
    have e2 : 2 * (e / 2) = e := by omega
    rw [if_pos q]; rw [e2] at this; exact this
  · have := ok.frto (e / 2) (by omega)
    have e2 : 2 * (e / 2) = e - 1 := by omega
    have e3 : e - 1 + 1 = e := by omega
    rw [if_neg q]; rw [e2, e3] at this; exact this.symm
theorem pr_mate (ok : NetOk T) {e : Nat} (h : e < 2 * T.m) : T.pr (mate e) = - T.pr e := by
  unfold mate
  by_cases q : e % 2 = 0
  · have := ok.back (e / 2) (by omega)
    have e2 : 2 * (e / 2) = e := by omega
    rw [if_pos q]; rw [e2] at this; exact this
  · have := ok.back (e / 2) (by omega)
    have e2 : 2 * (e / 2) = e - 1 := by omega
    have e3 : e - 1 + 1 = e := by omega
    rw [if_neg q]; rw [e2, e3] at this; omega
end netM
/-- what flows, weighed by w -/
def Lw (T : Net) (w : Nat → Int) (rm : Nat → Int) : Int := sI (fun i => rm (2 * i + 1) * w (2 * i)) T.m
def push (rm : Nat → Int) (e : Nat) (t : Int) : Nat → Int := fun j => if j = e then rm j - t else if j = mate e then rm j + t else rm j
theorem Lw_push {T : Net} {w rm : Nat → Int} {e : Nat} {t : Int} (h : e < 2 * T.m) (hw : ∀ i, i < T.m → w (2 * i + 1) = - w (2 * i)) : Lw T w (push rm e t) = Lw T w rm + t * w e := by
  unfold Lw
  have hi : e / 2 < T.m := by omega
  have far : ∀ j, j < T.m → j ≠ e / 2 → push rm e t (2 * j + 1) * w (2 * j) = rm (2 * j + 1) * w (2 * j) := fun j _ hj => by
    unfold push mate
    rw [if_neg (by omega), if_neg (by split <;> omega)]
  rw [sI_one (c := e / 2) T.m hi far]
  have hw2 := hw (e / 2) hi
  unfold push mate
  by_cases q : e % 2 = 0
  · have e2 : 2 * (e / 2) = e := by omega
    rw [e2] at hw2 ⊢
    rw [if_pos q, if_neg (by omega), if_pos rfl, Int.add_mul]
    omega
  · have e2 : 2 * (e / 2) + 1 = e := by omega
    rw [e2] at hw2 ⊢
    rw [if_pos rfl, hw2, Int.sub_mul, Int.mul_neg]
    omega
/-- the walk back to node 0 -/
def Dp (T : Net) (came : Nat → Nat) : Nat → Nat → Prop
  | v, 0 => v = 0
  | v, n + 1 => v ≠ 0 ∧ Dp T came (T.fr (came v)) n
theorem Dp.zero {T : Net} {came : Nat → Nat} : Dp T came 0 0 := rfl
theorem Dp.step {T : Net} {came : Nat → Nat} {v n : Nat} (h0 : v ≠ 0) (h : Dp T came (T.fr (came v)) n) : Dp T came v (n + 1) := ⟨h0, h⟩
theorem Dp_fun {T : Net} {came : Nat → Nat} : ∀ {v n : Nat}, Dp T came v n → ∀ k, Dp T came v k → k = n
  | v, 0, h, 0, _ => rfl
  | v, 0, h, k + 1, hk => absurd h hk.1
  | v, n + 1, h, 0, hk => absurd hk h.1
  | v, n + 1, h, k + 1, hk => by rw [Dp_fun h.2 k hk.2]
/-- ENDLESS -/
abbrev EN : Int := 1000000000000000
abbrev BF (T : Net) (rm pi : Nat → Int) (far : Nat → Int) (came : Nat → Nat) : Prop :=
  (far 0 = 0) ∧
  (∀ v, v < T.N → far v < EN → pi v ≤ far v) ∧
  (∀ v, v < T.N → far v ≤ EN) ∧
  (∀ v, v < T.N → far v < EN → far v ≤ cN far EN T.N * 10000000) ∧
  (∀ v, v < T.N → v ≠ 0 → far v < EN → came v < 2 * T.m ∧ 0 < rm (came v) ∧ T.to (came v) = v ∧ far (T.fr (came v)) < EN ∧ far (T.fr (came v)) + T.pr (came v) ≤ far v) ∧
  (∀ v, v < T.N → far v < EN → ∃ n, Dp T came v n)
theorem BF.z {T : Net} {rm pi : Nat → Int} {far : Nat → Int} {came : Nat → Nat} (h : BF T rm pi far came) : far 0 = 0 := h.1
theorem BF.lo {T : Net} {rm pi : Nat → Int} {far : Nat → Int} {came : Nat → Nat} (h : BF T rm pi far came) : ∀ v, v < T.N → far v < EN → pi v ≤ far v := h.2.1
theorem BF.top {T : Net} {rm pi : Nat → Int} {far : Nat → Int} {came : Nat → Nat} (h : BF T rm pi far came) : ∀ v, v < T.N → far v ≤ EN := h.2.2.1
theorem BF.up {T : Net} {rm pi : Nat → Int} {far : Nat → Int} {came : Nat → Nat} (h : BF T rm pi far came) : ∀ v, v < T.N → far v < EN → far v ≤ cN far EN T.N * 10000000 := h.2.2.2.1
theorem BF.cm {T : Net} {rm pi : Nat → Int} {far : Nat → Int} {came : Nat → Nat} (h : BF T rm pi far came) : ∀ v, v < T.N → v ≠ 0 → far v < EN → came v < 2 * T.m ∧ 0 < rm (came v) ∧ T.to (came v) = v ∧ far (T.fr (came v)) < EN ∧ far (T.fr (came v)) + T.pr (came v) ≤ far v := h.2.2.2.2.1
theorem BF.ch {T : Net} {rm pi : Nat → Int} {far : Nat → Int} {came : Nat → Nat} (h : BF T rm pi far came) : ∀ v, v < T.N → far v < EN → ∃ n, Dp T came v n := h.2.2.2.2.2
/-- prices and what they lead to -/
abbrev Pot (T : Net) (rm pi : Nat → Int) : Prop :=
  (pi 0 = 0) ∧
  (∀ v, v < T.N → -200000000 ≤ pi v) ∧
  (∀ e, e < 2 * T.m → 0 < rm e → 0 ≤ T.pr e + pi (T.fr e) - pi (T.to e))
theorem Pot.z {T : Net} {rm pi : Nat → Int} (h : Pot T rm pi) : pi 0 = 0 := h.1
theorem Pot.lo {T : Net} {rm pi : Nat → Int} (h : Pot T rm pi) : ∀ v, v < T.N → -200000000 ≤ pi v := h.2.1
theorem Pot.ok {T : Net} {rm pi : Nat → Int} (h : Pot T rm pi) : ∀ e, e < 2 * T.m → 0 < rm e → 0 ≤ T.pr e + pi (T.fr e) - pi (T.to e) := h.2.2
def measF (T : Net) (far : Nat → Int) : Int := sI (fun v => far v + 200000000) T.N
section bf
variable {T : Net} {rm pi far : Nat → Int} {came : Nat → Nat}
theorem relax (ok : NetOk T) (P : Pot T rm pi) (B : BF T rm pi far came) {e : Nat} (he : e < 2 * T.m) (hr : 0 < rm e) (hf : far (T.fr e) < EN) (hl : far (T.fr e) + T.pr e < far (T.to e)) :
    BF T rm pi (fun v => if v = T.to e then far (T.fr e) + T.pr e else far v) (fun v => if v = T.to e then e else came v) ∧ measF T (fun v => if v = T.to e then far (T.fr e) + T.pr e else far v) < measF T far := by
  have hfr := ok.frN e he
  have hto := ok.toN e he
  have hpe := P.ok e he hr
  have hlo := B.lo _ hfr hf
  have to0 : T.to e ≠ 0 := fun z => by
    rw [z, B.z] at hl
    rw [z, P.z] at hpe
    omega
  have tole := B.top _ hto
  have hnf : T.fr e ≠ T.to e := fun z => by rw [z] at hl hpe; omega
  generalize hx : far (T.fr e) + T.pr e = x at *
  have hxlt : x < EN := by omega
  -- the count
  have cnt : ((cN (fun v => if v = T.to e then x else far v) EN T.N : Nat) : Int) = cN far EN T.N ∧ far (T.to e) < EN ∨ ((cN (fun v => if v = T.to e then x else far v) EN T.N : Nat) : Int) = cN far EN T.N + 1 := by
    by_cases q : far (T.to e) < EN
    · left
      refine ⟨?_, q⟩
      rw [cN_cong (far := fun v => if v = T.to e then x else far v) (far2 := far) T.N (fun j hj => ?_)]
      by_cases c : j = T.to e
      · rw [if_pos c, c]; exact ⟨fun _ => q, fun _ => hxlt⟩
      · rw [if_neg c]
    · right
      rw [cN_new (far := far) (far2 := fun v => if v = T.to e then x else far v) (c := T.to e) T.N hto q (by simp; exact hxlt) (fun j hj => by simp [hj])]
      omega
  have hpr := ok.low e he
  refine ⟨⟨?_, ?_, ?_, ?_, ?_, ?_⟩, ?_⟩
  · show (if 0 = T.to e then x else far 0) = 0
    rw [if_neg (fun z => to0 z.symm)]; exact B.z
  · intro v hv
    show (if v = T.to e then x else far v) < EN → pi v ≤ if v = T.to e then x else far v
    by_cases c : v = T.to e
    · rw [if_pos c, c]; intro _; omega
    · rw [if_neg c]; exact B.lo v hv
  · intro v hv
    show (if v = T.to e then x else far v) ≤ EN
    by_cases c : v = T.to e
    · rw [if_pos c]; omega
    · rw [if_neg c]; exact B.top v hv
  · intro v hv
    show (if v = T.to e then x else far v) < EN → (if v = T.to e then x else far v) ≤ _
    have hu := B.up (T.fr e) hfr hf
    by_cases c : v = T.to e
    · rw [if_pos c]
      intro _
      rcases cnt with ⟨e1, e2⟩ | e1
      · have := B.up (T.to e) hto e2
        rw [e1]; omega
      · rw [e1]; omega
    · rw [if_neg c]
      intro h
      have := B.up v hv h
      rcases cnt with ⟨e1, e2⟩ | e1 <;> rw [e1] <;> omega
  · intro v hv v0
    show (if v = T.to e then x else far v) < EN → _
    by_cases c : v = T.to e
    · simp only [if_pos c]
      intro _
      refine ⟨he, hr, c.symm, ?_, ?_⟩
      · rw [if_neg hnf]; exact hf
      · rw [if_neg hnf]; omega
    · simp only [if_neg c]
      intro h
      obtain ⟨h1, h2, h3, h4, h5⟩ := B.cm v hv v0 h
      refine ⟨h1, h2, h3, ?_, ?_⟩
      · by_cases c2 : T.fr (came v) = T.to e
        · rw [if_pos c2]; exact hxlt
        · rw [if_neg c2]; exact h4
      · by_cases c2 : T.fr (came v) = T.to e
        · rw [if_pos c2]; rw [c2] at h5; omega
        · rw [if_neg c2]; exact h5
  · -- chains: first those that are nearer (less prices) than the node that has changed
    have near : ∀ v n, Dp T came v n → v < T.N → far v < EN → far v - pi v < far (T.to e) - pi (T.to e) → Dp T (fun v => if v = T.to e then e else came v) v n := by
      intro v n
      induction n generalizing v with
      | zero => intro h _ _ _; exact h
      | succ n ih =>
        intro h hv hfv hlt
        obtain ⟨v0, h⟩ := h
        obtain ⟨h1, h2, h3, h4, h5⟩ := B.cm v hv v0 hfv
        have p1 := P.ok (came v) h1 h2
        rw [h3] at p1
        have c : v ≠ T.to e := fun z => by rw [z] at hlt; omega
        refine Dp.step v0 ?_
        simp only [if_neg c]
        exact ih _ h (ok.frN _ h1) h4 (by omega)
    have head : ∃ n, Dp T (fun v => if v = T.to e then e else came v) (T.to e) n := by
      obtain ⟨n, hn⟩ := B.ch _ hfr hf
      have := near _ _ hn hfr hf (by omega)
      refine ⟨n + 1, Dp.step to0 ?_⟩
      simp only [if_true]
      exact this
    have all : ∀ v n, Dp T came v n → v < T.N → far v < EN → ∃ n, Dp T (fun v => if v = T.to e then e else came v) v n := by
      intro v n
      induction n generalizing v with
      | zero => intro h _ _; exact ⟨0, h⟩
      | succ n ih =>
        intro h hv hfv
        obtain ⟨v0, h⟩ := h
        by_cases c : v = T.to e
        · rw [c]; exact head
        · obtain ⟨h1, h2, h3, h4, h5⟩ := B.cm v hv v0 hfv
          obtain ⟨k, hk⟩ := ih _ h (ok.frN _ h1) h4
          refine ⟨k + 1, Dp.step v0 ?_⟩
          simp only [if_neg c]
          exact hk
    intro v hv
    show (if v = T.to e then x else far v) < EN → _
    by_cases c : v = T.to e
    · intro _; rw [c]; exact head
    · rw [if_neg c]
      intro h
      obtain ⟨n, hn⟩ := B.ch v hv h
      exact all v n hn hv h
  · unfold measF
    rw [sI_one (f := fun v => (if v = T.to e then x else far v) + 200000000) (g := fun v => far v + 200000000) (c := T.to e) T.N hto (fun j _ hj => by simp [hj])]
    simp only [if_true]
    omega
theorem meas_nn (P : Pot T rm pi) (B : BF T rm pi far came) : 0 ≤ measF T far := by
  unfold measF
  refine sI_nn T.N (fun v hv => ?_)
  have h1 := P.lo v hv
  have hE : EN = 1000000000000000 := rfl
  by_cases c : far v < EN
  · have := B.lo v hv c; omega
  · omega
/-- nothing gets nearer -/
def Still (T : Net) (rm far : Nat → Int) : Prop := ∀ e, e < 2 * T.m → 0 < rm e → far (T.fr e) < EN → far (T.to e) ≤ far (T.fr e) + T.pr e
/-- the next prices -/
def piN (pi far : Nat → Int) (v : Nat) : Int := if far v < EN then far v else pi v + 1000000300000000
theorem still_pot (ok : NetOk T) (P : Pot T rm pi) (B : BF T rm pi far came) (S : Still T rm far) : Pot T rm (piN pi far) ∧ (∀ v, v < T.N → pi v ≤ piN pi far v) ∧ ∀ e, e < 2 * T.m → 0 < rm e → far (T.fr e) < EN → far (T.to e) < EN := by
  have reach : ∀ e, e < 2 * T.m → 0 < rm e → far (T.fr e) < EN → far (T.to e) < EN := by
    intro e he hr hf
    have h1 := S e he hr hf
    have h2 := B.up _ (ok.frN e he) hf
    have h3 := cN_le far EN T.N
    have h4 := ok.pos.2
    have h5 := (ok.low e he).2
    have hE : EN = 1000000000000000 := rfl
    omega
  have mono : ∀ v, v < T.N → pi v ≤ piN pi far v := by
    intro v hv
    unfold piN
    by_cases c : far v < EN
    · rw [if_pos c]; exact B.lo v hv c
    · rw [if_neg c]; omega
  refine ⟨⟨?_, fun v hv => ?_, fun e he hr => ?_⟩, mono, reach⟩
  · unfold piN
    rw [B.z, if_pos (by decide)]
  · have := P.lo v hv
    have := mono v hv
    omega
  · have h0 := P.ok e he hr
    have hl := ok.low e he
    have pl := P.lo _ (ok.frN e he)
    have hE : EN = 1000000000000000 := rfl
    have ht := B.top _ (ok.toN e he)
    unfold piN
    by_cases c1 : far (T.fr e) < EN
    · have := S e he hr c1
      rw [if_pos c1, if_pos (reach e he hr c1)]
      omega
    · rw [if_neg c1]
      by_cases c2 : far (T.to e) < EN
      · rw [if_pos c2]; omega
      · rw [if_neg c2]; omega
/-- on the way back each edge is just as long -/
theorem tight (ok : NetOk T) (B : BF T rm pi far came) (S : Still T rm far) {v : Nat} (hv : v < T.N) (v0 : v ≠ 0) (hf : far v < EN) : far v = far (T.fr (came v)) + T.pr (came v) := by
  obtain ⟨h1, h2, h3, h4, h5⟩ := B.cm v hv v0 hf
  have := S _ h1 h2 h4
  rw [h3] at this
  omega
end bf
