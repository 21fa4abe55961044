/-- u lies on the way back from v -/
def OnK (T : Net) (came : Nat → Nat) : Nat → Nat → Nat → Prop
  | 0, v, u => v = u
  | k + 1, v, u => v ≠ 0 ∧ OnK T came k (T.fr (came v)) u
def On (T : Net) (came : Nat → Nat) (v u : Nat) : Prop := ∃ k, OnK T came k v u
theorem On.refl {T : Net} {came : Nat → Nat} {v : Nat} : On T came v v := ⟨0, rfl⟩
theorem On.step {T : Net} {came : Nat → Nat} {v u : Nat} (h0 : v ≠ 0) (h : On T came (T.fr (came v)) u) : On T came v u := by
  obtain ⟨k, hk⟩ := h
  exact ⟨k + 1, h0, hk⟩
theorem On_cases {T : Net} {came : Nat → Nat} {v u : Nat} (h : On T came v u) : u = v ∨ (v ≠ 0 ∧ On T came (T.fr (came v)) u) := by
  obtain ⟨k, hk⟩ := h
  cases k with
  | zero => exact Or.inl (Eq.symm hk)
  | succ k => exact Or.inr ⟨hk.1, k, hk.2⟩
theorem On_dp {T : Net} {came : Nat → Nat} {v u : Nat} (h : On T came v u) : ∀ n, Dp T came v n → ∃ k, k ≤ n ∧ Dp T came u k := by
  obtain ⟨i, hi⟩ := h
  induction i generalizing v with
  | zero => intro n hn; have e : v = u := hi; subst e; exact ⟨n, Nat.le_refl _, hn⟩
  | succ i ih =>
    intro n hn
    cases n with
    | zero => exact absurd hn hi.1
    | succ n =>
      obtain ⟨j, hj, hd⟩ := ih hi.2 n hn.2
      exact ⟨j, by omega, hd⟩
theorem On_0 {T : Net} {came : Nat → Nat} {u : Nat} (h : On T came 0 u) : u = 0 := by
  rcases On_cases h with e | e
  · exact e
  · exact absurd rfl e.1
abbrev FI (T : Net) (cap rm : Nat → Int) (val sum : Int) (pi : Nat → Int) : Prop :=
  (∀ e, e < 2 * T.m → 0 ≤ rm e) ∧
  (∀ i, i < T.m → rm (2 * i) + rm (2 * i + 1) = cap i) ∧
  (∀ ph : Nat → Int, Lw T (fun e => ph (T.to e) - ph (T.fr e)) rm = val * (ph 1 - ph 0)) ∧
  (Lw T T.pr rm = sum) ∧
  (Pot T rm pi)
theorem FI.nn {T : Net} {cap rm : Nat → Int} {val sum : Int} {pi : Nat → Int} (h : FI T cap rm val sum pi) : ∀ e, e < 2 * T.m → 0 ≤ rm e := h.1
theorem FI.cp {T : Net} {cap rm : Nat → Int} {val sum : Int} {pi : Nat → Int} (h : FI T cap rm val sum pi) : ∀ i, i < T.m → rm (2 * i) + rm (2 * i + 1) = cap i := h.2.1
theorem FI.cons {T : Net} {cap rm : Nat → Int} {val sum : Int} {pi : Nat → Int} (h : FI T cap rm val sum pi) : ∀ ph : Nat → Int, Lw T (fun e => ph (T.to e) - ph (T.fr e)) rm = val * (ph 1 - ph 0) := h.2.2.1
theorem FI.cost {T : Net} {cap rm : Nat → Int} {val sum : Int} {pi : Nat → Int} (h : FI T cap rm val sum pi) : Lw T T.pr rm = sum := h.2.2.2.1
theorem FI.pot {T : Net} {cap rm : Nat → Int} {val sum : Int} {pi : Nat → Int} (h : FI T cap rm val sum pi) : Pot T rm pi := h.2.2.2.2
/-- half way through sending t back from v -/
abbrev AW (T : Net) (cap : Nat → Int) (came : Nat → Nat) (far : Nat → Int) (pi : Nat → Int) (val sum t : Int) (rm : Nat → Int) (v : Nat) : Prop :=
  (∀ e, e < 2 * T.m → 0 ≤ rm e) ∧
  (∀ i, i < T.m → rm (2 * i) + rm (2 * i + 1) = cap i) ∧
  (∀ u, On T came v u → u ≠ 0 → t ≤ rm (came u)) ∧
  (∀ ph : Nat → Int, Lw T (fun e => ph (T.to e) - ph (T.fr e)) rm + t * (ph v - ph 0) = (val + t) * (ph 1 - ph 0)) ∧
  (Lw T T.pr rm + t * far v = sum + t * far 1) ∧
  (Pot T rm pi)
theorem AW.nn {T : Net} {cap : Nat → Int} {came : Nat → Nat} {far : Nat → Int} {pi : Nat → Int} {val sum t : Int} {rm : Nat → Int} {v : Nat} (h : AW T cap came far pi val sum t rm v) : ∀ e, e < 2 * T.m → 0 ≤ rm e := h.1
theorem AW.cp {T : Net} {cap : Nat → Int} {came : Nat → Nat} {far : Nat → Int} {pi : Nat → Int} {val sum t : Int} {rm : Nat → Int} {v : Nat} (h : AW T cap came far pi val sum t rm v) : ∀ i, i < T.m → rm (2 * i) + rm (2 * i + 1) = cap i := h.2.1
theorem AW.keep {T : Net} {cap : Nat → Int} {came : Nat → Nat} {far : Nat → Int} {pi : Nat → Int} {val sum t : Int} {rm : Nat → Int} {v : Nat} (h : AW T cap came far pi val sum t rm v) : ∀ u, On T came v u → u ≠ 0 → t ≤ rm (came u) := h.2.2.1
theorem AW.cons {T : Net} {cap : Nat → Int} {came : Nat → Nat} {far : Nat → Int} {pi : Nat → Int} {val sum t : Int} {rm : Nat → Int} {v : Nat} (h : AW T cap came far pi val sum t rm v) : ∀ ph : Nat → Int, Lw T (fun e => ph (T.to e) - ph (T.fr e)) rm + t * (ph v - ph 0) = (val + t) * (ph 1 - ph 0) := h.2.2.2.1
theorem AW.cost {T : Net} {cap : Nat → Int} {came : Nat → Nat} {far : Nat → Int} {pi : Nat → Int} {val sum t : Int} {rm : Nat → Int} {v : Nat} (h : AW T cap came far pi val sum t rm v) : Lw T T.pr rm + t * far v = sum + t * far 1 := h.2.2.2.2.1
theorem AW.pot {T : Net} {cap : Nat → Int} {came : Nat → Nat} {far : Nat → Int} {pi : Nat → Int} {val sum t : Int} {rm : Nat → Int} {v : Nat} (h : AW T cap came far pi val sum t rm v) : Pot T rm pi := h.2.2.2.2.2
section aug
variable {T : Net} {cap rm rm0 pi far : Nat → Int} {came : Nat → Nat} {val sum t : Int}
theorem aug_start (F : FI T cap rm val sum pi) (hk : ∀ u, On T came 1 u → u ≠ 0 → t ≤ rm (came u)) {pi2 : Nat → Int} (P : Pot T rm pi2) : AW T cap came far pi2 val sum t rm 1 := by
  refine ⟨F.nn, F.cp, hk, fun ph => ?_, by rw [F.cost], P⟩
  rw [F.cons ph, Int.add_mul]
theorem aug_step (ok : NetOk T) {v : Nat} (A : AW T cap came far pi val sum t rm v) (ht : 0 ≤ t) (v0 : v ≠ 0) (hc : came v < 2 * T.m) (hto : T.to (came v) = v) (hti : far v = far (T.fr (came v)) + T.pr (came v)) (hpi : pi v = pi (T.fr (came v)) + T.pr (came v))
    (hcame : ∀ u, On T came (T.fr (came v)) u → u ≠ 0 → T.to (came u) = u) (hd : ∃ n, Dp T came v n) : AW T cap came far pi val sum t (push rm (came v) t) (T.fr (came v)) := by
  have hk := A.keep v On.refl v0
  have mne : mate (came v) ≠ came v := by unfold mate; split <;> omega
  have pn : ∀ j, 0 ≤ rm j → j < 2 * T.m → 0 ≤ push rm (came v) t j := fun j h0 hj => by
    unfold push
    by_cases c : j = came v
    · rw [if_pos c, c]; omega
    · rw [if_neg c]; split <;> omega
  refine ⟨fun e he => pn e (A.nn e he) he, fun i hi => ?_, fun u hu u0 => ?_, fun ph => ?_, ?_, ?_⟩
  · have h := A.cp i hi
    unfold push mate
    by_cases c : 2 * i = came v
    · rw [if_pos c, if_neg (by omega), if_pos (by rw [if_pos (by omega)]; omega)]; omega
    · rw [if_neg c]
      by_cases c2 : 2 * i + 1 = came v
      · rw [if_pos c2, if_pos (by rw [if_neg (by omega)]; omega)]; omega
      · rw [if_neg c2, if_neg (by split <;> omega), if_neg (by split <;> omega)]; exact h
  · have h1 := A.keep u (On.step v0 hu) u0
    have ne : came u ≠ came v := fun z => by
      have e1 := hcame u hu u0
      rw [z, hto] at e1
      obtain ⟨n, hn⟩ := hd
      cases n with
      | zero => exact v0 hn
      | succ k =>
        have h2 := hn.2
        obtain ⟨j, hj, hdj⟩ := On_dp hu k h2
        rw [← e1] at hdj
        have := Dp_fun (Dp.step v0 h2) j hdj
        omega
    unfold push
    rw [if_neg ne]
    split <;> omega
  · have := A.cons ph
    rw [Lw_push hc (fun i hi => by rw [ok.frto i hi, ok.tofr i hi]; omega), hto]
    rw [← this, Int.add_assoc, ← Int.mul_add]
    congr 2
    omega
  · have := A.cost
    rw [Lw_push hc (fun i hi => ok.back i hi), Int.add_assoc, ← Int.mul_add]
    rw [← this, hti]
    congr 2
    omega
  · refine ⟨A.pot.z, A.pot.lo, fun e he hr => ?_⟩
    by_cases c : e = mate (came v)
    · rw [c, fr_mate ok hc, to_mate ok hc, pr_mate ok hc, hto]
      omega
    · by_cases c2 : e = came v
      · rw [c2, hto]; omega
      · refine A.pot.ok e he ?_
        unfold push at hr
        rw [if_neg c2, if_neg c] at hr
        exact hr
theorem aug_end (A : AW T cap came far pi val sum t rm 0) (hz : far 0 = 0) : FI T cap rm (val + t) (sum + t * far 1) pi := by
  refine ⟨A.nn, A.cp, fun ph => ?_, ?_, A.pot⟩
  · have := A.cons ph
    rw [Int.sub_self, Int.mul_zero, Int.add_zero] at this
    exact this
  · have := A.cost
    rw [hz, Int.mul_zero, Int.add_zero] at this
    exact this
end aug
