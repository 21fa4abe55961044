/-- where the ways came from, after pass k -/
abbrev AP (T : Tr) (k : Nat) (aE aS : Nat → Option Nat) : Prop :=
  (∀ j, j < T.n → ew T k j < NW → ∃ t p, 1 ≤ t ∧ t ≤ k ∧ aE j = some p ∧ p < T.M ∧ sw T (t - 1) p < NW ∧ T.pc p j < NW ∧ ew T t j = sw T (t - 1) p + T.pc p j ∧ ew T k j = ew T t j ∧ ew T t j < ew T (t - 1) j) ∧
  (∀ j, j < T.n → ¬ ew T k j < NW → aE j = none) ∧
  (∀ s, s < T.M → (sw T k s = sw T 0 s ∧ aS s = none) ∨ ∃ t j, 1 ≤ t ∧ t ≤ k ∧ aS s = some j ∧ j < T.n ∧ ew T t j < NW ∧ 0 < T.sent s j ∧ sw T t s = ew T t j - T.pc s j ∧ sw T k s = sw T t s ∧ sw T t s < sw T (t - 1) s)
theorem AP.e {T : Tr} {k : Nat} {aE aS : Nat → Option Nat} (h : AP T k aE aS) : ∀ j, j < T.n → ew T k j < NW → ∃ t p, 1 ≤ t ∧ t ≤ k ∧ aE j = some p ∧ p < T.M ∧ sw T (t - 1) p < NW ∧ T.pc p j < NW ∧ ew T t j = sw T (t - 1) p + T.pc p j ∧ ew T k j = ew T t j ∧ ew T t j < ew T (t - 1) j := h.1
theorem AP.e0 {T : Tr} {k : Nat} {aE aS : Nat → Option Nat} (h : AP T k aE aS) : ∀ j, j < T.n → ¬ ew T k j < NW → aE j = none := h.2.1
theorem AP.s {T : Tr} {k : Nat} {aE aS : Nat → Option Nat} (h : AP T k aE aS) : ∀ s, s < T.M → (sw T k s = sw T 0 s ∧ aS s = none) ∨ ∃ t j, 1 ≤ t ∧ t ≤ k ∧ aS s = some j ∧ j < T.n ∧ ew T t j < NW ∧ 0 < T.sent s j ∧ sw T t s = ew T t j - T.pc s j ∧ sw T k s = sw T t s ∧ sw T t s < sw T (t - 1) s := h.2.2
section ptr
variable {T : Tr} {u w : Nat → Int} {aE aS : Nat → Option Nat} {K : Nat}
theorem AP_0 (h1 : ∀ j, aE j = none) (h2 : ∀ s, aS s = none) : AP T 0 aE aS :=
  ⟨fun j _ h => absurd h (by rw [ew_0]; omega), fun j _ _ => h1 j, fun s _ => Or.inl ⟨rfl, h2 s⟩⟩
theorem AP_next {k : Nat} {aE2 aS2 : Nat → Option Nat} (A : AP T k aE aS)
    (hE : ∀ j, j < T.n → (ew T (k + 1) j = ew T k j ∧ aE2 j = aE j) ∨ ∃ p, aE2 j = some p ∧ p < T.M ∧ sw T k p < NW ∧ T.pc p j < NW ∧ ew T (k + 1) j = sw T k p + T.pc p j ∧ ew T (k + 1) j < ew T k j)
    (hS : ∀ s, s < T.M → (sw T (k + 1) s = sw T k s ∧ aS2 s = aS s) ∨ ∃ j, aS2 s = some j ∧ j < T.n ∧ ew T (k + 1) j < NW ∧ 0 < T.sent s j ∧ sw T (k + 1) s = ew T (k + 1) j - T.pc s j ∧ sw T (k + 1) s < sw T k s) : AP T (k + 1) aE2 aS2 := by
  refine ⟨fun j hj h => ?_, fun j hj h => ?_, fun s hs => ?_⟩
  · rcases hE j hj with ⟨e1, e2⟩ | ⟨p, h1, h2, h3, h4, h5, h6⟩
    · obtain ⟨t, p, g1, g2, g3, g4⟩ := A.e j hj (by omega)
      refine ⟨t, p, g1, by omega, by rw [e2]; exact g3, ?_⟩
      rw [e1]; exact g4
    · exact ⟨k + 1, p, by omega, by omega, h1, h2, h3, h4, h5, rfl, h6⟩
  · rcases hE j hj with ⟨e1, e2⟩ | ⟨p, h1, h2, h3, h4, h5, h6⟩
    · rw [e2]; exact A.e0 j hj (by omega)
    · have := ew_top (T := T) k j
      omega
  · rcases hS s hs with ⟨e1, e2⟩ | ⟨j, h1, h2, h3, h4, h5, h6⟩
    · rcases A.s s hs with ⟨a, b⟩ | ⟨t, j, g1, g2, g3, g4⟩
      · exact Or.inl ⟨by omega, by rw [e2]; exact b⟩
      · refine Or.inr ⟨t, j, g1, by omega, by rw [e2]; exact g3, ?_⟩
        rw [e1]; exact g4
    · exact Or.inr ⟨k + 1, j, by omega, by omega, h1, h2, h3, h4, h5, rfl, h6⟩
theorem tE (S : Stl T K) (A : AP T K aE aS) {j p : Nat} (hj : j < T.n) (h : ew T K j < NW) (hp : aE j = some p) : p < T.M ∧ T.pc p j < NW ∧ sw T K p < NW ∧ ew T K j = sw T K p + T.pc p j ∧ ∃ t, 1 ≤ t ∧ t ≤ K ∧ ew T K j = ew T t j ∧ ew T t j < ew T (t - 1) j ∧ sw T K p = sw T (t - 1) p := by
  obtain ⟨t, p2, g1, g2, g3, g4, g5, g6, g7, g8, g9⟩ := A.e j hj h
  rw [hp] at g3
  have e : p = p2 := Option.some.inj g3
  subst e
  have a1 := sw_ge (T := T) (k := t - 1) (k2 := K) (by omega) p
  have a2 := stl_ew S (s := p) (j := j) g4 (by omega) g6
  exact ⟨g4, g6, by omega, by omega, t, g1, g2, g8, g9, by omega⟩
theorem tS (S : Stl T K) (A : AP T K aE aS) {s j : Nat} (hs : s < T.M) (hp : aS s = some j) : j < T.n ∧ 0 < T.sent s j ∧ ew T K j < NW ∧ sw T K s = ew T K j - T.pc s j ∧ ∃ t, 1 ≤ t ∧ t ≤ K ∧ sw T K s = sw T t s ∧ sw T t s < sw T (t - 1) s ∧ ew T K j = ew T t j := by
  rcases A.s s hs with ⟨-, b⟩ | ⟨t, j2, g1, g2, g3, g4, g5, g6, g7, g8, g9⟩
  · rw [hp] at b; exact absurd b (by simp)
  · rw [hp] at g3
    have e : j = j2 := Option.some.inj g3
    subst e
    have a1 := ew_ge (T := T) (k := t) (k2 := K) g2 j
    have a2 := stl_sw S (s := s) (j := j) g4 (by omega) g6
    exact ⟨g4, g6, by omega, by omega, t, g1, g2, g8, g9, by omega⟩
theorem tN (A : AP T K aE aS) {s : Nat} (hs : s < T.M) (h : sw T K s < NW) (hp : aS s = none) : 0 < T.spare s ∧ sw T K s = 0 := by
  rcases A.s s hs with ⟨a, b⟩ | ⟨t, j2, g1, g2, g3, g4⟩
  · rw [sw_0] at a
    by_cases c : 0 < T.spare s
    · rw [if_pos c] at a; exact ⟨c, a⟩
    · rw [if_neg c] at a; omega
  · rw [hp] at g3; exact absurd g3 (by simp)
/-- so many sources stand behind source p -/
def Sg (aE aS : Nat → Option Nat) : Nat → Nat → Prop
  | p, 0 => aS p = none
  | p, n + 1 => ∃ j q, aS p = some j ∧ aE j = some q ∧ Sg aE aS q n
theorem Sg.zero {p : Nat} (h : aS p = none) : Sg aE aS p 0 := h
theorem Sg.succ {p j q n : Nat} (h1 : aS p = some j) (h2 : aE j = some q) (h3 : Sg aE aS q n) : Sg aE aS p (n + 1) := ⟨j, q, h1, h2, h3⟩
def OnPK (aE aS : Nat → Option Nat) : Nat → Nat → Nat → Prop
  | 0, p, r => p = r
  | k + 1, p, r => ∃ j q, aS p = some j ∧ aE j = some q ∧ OnPK aE aS k q r
def OnP (aE aS : Nat → Option Nat) (p r : Nat) : Prop := ∃ k, OnPK aE aS k p r
theorem OnP.refl {p : Nat} : OnP aE aS p p := ⟨0, rfl⟩
theorem OnP.step {p j q r : Nat} (h1 : aS p = some j) (h2 : aE j = some q) (h : OnP aE aS q r) : OnP aE aS p r := by
  obtain ⟨k, hk⟩ := h
  exact ⟨k + 1, j, q, h1, h2, hk⟩
theorem OnP_cases {p r : Nat} (h : OnP aE aS p r) : r = p ∨ ∃ j q, aS p = some j ∧ aE j = some q ∧ OnP aE aS q r := by
  obtain ⟨k, hk⟩ := h
  cases k with
  | zero => exact Or.inl (Eq.symm hk)
  | succ k =>
    obtain ⟨j, q, h1, h2, h3⟩ := hk
    exact Or.inr ⟨j, q, h1, h2, k, h3⟩
theorem Sg_in {p n j q : Nat} (h1 : aS p = some j) (h2 : aE j = some q) (h : Sg aE aS p n) : ∃ k, n = k + 1 ∧ Sg aE aS q k := by
  cases n with
  | zero =>
    have h0 : aS p = none := h
    rw [h0] at h1; exact absurd h1 (by simp)
  | succ n =>
    obtain ⟨j2, q2, g1, g2, g3⟩ := h
    rw [h1] at g1
    have e := Option.some.inj g1
    subst e
    rw [h2] at g2
    have e := Option.some.inj g2
    subst e
    exact ⟨n, rfl, g3⟩
theorem Sg_fun : ∀ {p n : Nat}, Sg aE aS p n → ∀ k, Sg aE aS p k → k = n
  | p, 0, h, 0, _ => rfl
  | p, 0, h, k + 1, ⟨j, q, h1, _, _⟩ => by
    have h0 : aS p = none := h
    rw [h0] at h1; exact absurd h1 (by simp)
  | p, n + 1, ⟨j, q, h1, h2, h3⟩, k, hk => by
    obtain ⟨i, e, hi⟩ := Sg_in h1 h2 hk
    rw [e, Sg_fun h3 i hi]
theorem On_sg {p r : Nat} (h : OnP aE aS p r) : ∀ n, Sg aE aS p n → ∃ k, k ≤ n ∧ Sg aE aS r k := by
  obtain ⟨i, hi⟩ := h
  induction i generalizing p with
  | zero => intro n hn; have e : p = r := hi; subst e; exact ⟨n, Nat.le_refl _, hn⟩
  | succ i ih =>
    intro n hn
    obtain ⟨j, q, h1, h2, h3⟩ := hi
    obtain ⟨m, e, hm⟩ := Sg_in h1 h2 hn
    obtain ⟨k, hk, hd⟩ := ih h3 m hm
    exact ⟨k, by omega, hd⟩
theorem sg_ex (S : Stl T K) (A : AP T K aE aS) : ∀ t j, j < T.n → ew T K j < NW → (∃ t2, t2 ≤ t ∧ 1 ≤ t2 ∧ t2 ≤ K ∧ ew T K j = ew T t2 j ∧ ew T t2 j < ew T (t2 - 1) j) → ∃ p n, aE j = some p ∧ Sg aE aS p n ∧ n < t
  | 0, j, _, _, ⟨t2, h1, h2, _⟩ => absurd h1 (by omega)
  | t + 1, j, hj, h, ⟨t2, a1, a2, a3, a4, a5⟩ => by
    obtain ⟨t3, p, g1, g2, g3, -⟩ := A.e j hj h
    obtain ⟨b1, b2, b3, b4, t4, c1, c2, c3, c4, c5⟩ := tE S A hj h g3
    -- the stamp is the only one
    have e24 : t4 = t2 := by
      rcases Nat.lt_trichotomy t4 t2 with z | z | z
      · have := ew_ge (T := T) (k := t4) (k2 := t2 - 1) (by omega) j
        omega
      · exact z
      · have := ew_ge (T := T) (k := t2) (k2 := t4 - 1) (by omega) j
        omega
    subst e24
    cases hs : aS p with
    | none => exact ⟨p, 0, g3, Sg.zero hs, by omega⟩
    | some j2 =>
      obtain ⟨d1, d2, d3, d4, t5, f1, f2, f3, f4, f5⟩ := tS S A b1 hs
      have l5 : t5 ≤ t4 - 1 := by
        by_cases z : t5 ≤ t4 - 1
        · exact z
        · have := sw_ge (T := T) (k := t4 - 1) (k2 := t5 - 1) (by omega) p
          omega
      obtain ⟨t6, p2, k1, k2, k3, k4, k5, k6, k7, k8, k9⟩ := A.e j2 d1 d3
      have l6 : t6 ≤ t5 := by
        by_cases z : t6 ≤ t5
        · exact z
        · have := ew_ge (T := T) (k := t5) (k2 := t6 - 1) (by omega) j2
          omega
      obtain ⟨p3, n, q1, q2, q3⟩ := sg_ex S A t j2 d1 d3 ⟨t6, by omega, k1, k2, k8, k9⟩
      exact ⟨p, n + 1, g3, Sg.succ hs q1 q2, by omega⟩
theorem sg_of (S : Stl T K) (A : AP T K aE aS) {j : Nat} (hj : j < T.n) (h : ew T K j < NW) : ∃ p n, aE j = some p ∧ Sg aE aS p n ∧ n < K := by
  obtain ⟨t, p, g1, g2, g3, g4, g5, g6, g7, g8, g9⟩ := A.e j hj h
  exact sg_ex S A K j hj h ⟨t, g2, g1, g2, g8, g9⟩
end ptr
def add2 (f : Nat → Nat → Int) (p j : Nat) (t : Int) : Nat → Nat → Int := fun s i => if s = p ∧ i = j then f s i + t else f s i
theorem row_add (f : Nat → Nat → Int) {p j n : Nat} (t : Int) (hj : j < n) (s : Nat) : sI (fun i => add2 f p j t s i) n = sI (fun i => f s i) n + if s = p then t else 0 := by
  by_cases c : s = p
  · rw [if_pos c, sI_one (f := fun i => add2 f p j t s i) (g := fun i => f s i) (c := j) n hj (fun i _ hi => by
      show (if s = p ∧ i = j then f s i + t else f s i) = f s i
      rw [if_neg (fun z => hi z.2)])]
    show sI (fun i => f s i) n + ((if s = p ∧ j = j then f s j + t else f s j) - f s j) = _
    rw [if_pos ⟨c, rfl⟩]
    omega
  · rw [if_neg c, Int.add_zero]
    exact sI_cong n (fun i _ => by
      show (if s = p ∧ i = j then f s i + t else f s i) = f s i
      rw [if_neg (fun z => c z.1)])
theorem col_add (f : Nat → Nat → Int) {p j M : Nat} (t : Int) (hp : p < M) (i : Nat) : sI (fun s => add2 f p j t s i) M = sI (fun s => f s i) M + if i = j then t else 0 := by
  by_cases c : i = j
  · rw [if_pos c, sI_one (f := fun s => add2 f p j t s i) (g := fun s => f s i) (c := p) M hp (fun s _ hs => by
      show (if s = p ∧ i = j then f s i + t else f s i) = f s i
      rw [if_neg (fun z => hs z.1)])]
    show sI (fun s => f s i) M + ((if p = p ∧ i = j then f p i + t else f p i) - f p i) = _
    rw [if_pos ⟨rfl, c⟩]
    omega
  · rw [if_neg c, Int.add_zero]
    exact sI_cong M (fun s _ => by
      show (if s = p ∧ i = j then f s i + t else f s i) = f s i
      rw [if_neg (fun z => c z.2)])
def allC (f pc : Nat → Nat → Int) (M n : Nat) : Int := sI (fun s => sI (fun j => f s j * pc s j) n) M
theorem cost_add (f pc : Nat → Nat → Int) {p j M n : Nat} (t : Int) (hp : p < M) (hj : j < n) : allC (add2 f p j t) pc M n = allC f pc M n + t * pc p j := by
  unfold allC
  rw [sI_one (f := fun s => sI (fun j_1 => add2 f p j t s j_1 * pc s j_1) n) (g := fun s => sI (fun j => f s j * pc s j) n) (c := p) M hp (fun s _ hs => by
    show sI (fun i => add2 f p j t s i * pc s i) n = sI (fun i => f s i * pc s i) n
    exact sI_cong n (fun i _ => by
      unfold add2
      rw [if_neg (fun z => hs z.1)]))]
  show _ + (sI (fun i => add2 f p j t p i * pc p i) n - sI (fun i => f p i * pc p i) n) = _
  rw [sI_one (f := fun i => add2 f p j t p i * pc p i) (g := fun i => f p i * pc p i) (c := j) n hj (fun i _ hi => by
    show add2 f p j t p i * pc p i = f p i * pc p i
    unfold add2
    rw [if_neg (fun z => hi z.2)])]
  have e : add2 f p j t p j = f p j + t := by unfold add2; rw [if_pos ⟨rfl, rfl⟩]
  simp only [e, Int.add_mul]
  omega
/-- what has been sent, and its prices -/
abbrev FT (M n : Nat) (pc : Nat → Nat → Int) (sp0 need : Nat → Int) (sent : Nat → Nat → Int) (spare unmet : Nat → Int) (total : Int) (u w : Nat → Int) : Prop :=
  (∀ s j, s < M → j < n → 0 ≤ sent s j) ∧
  (∀ s, s < M → 0 ≤ spare s) ∧
  (∀ j, j < n → 0 ≤ unmet j) ∧
  (∀ s, s < M → spare s + sI (fun j => sent s j) n = sp0 s) ∧
  (∀ j, j < n → unmet j + sI (fun s => sent s j) M = need j) ∧
  (allC sent pc M n = total) ∧
  (Du ⟨M, n, pc, sent, spare⟩ u w)
theorem FT.nn {M n : Nat} {pc : Nat → Nat → Int} {sp0 need : Nat → Int} {sent : Nat → Nat → Int} {spare unmet : Nat → Int} {total : Int} {u w : Nat → Int} (h : FT M n pc sp0 need sent spare unmet total u w) : ∀ s j, s < M → j < n → 0 ≤ sent s j := h.1
theorem FT.sn {M n : Nat} {pc : Nat → Nat → Int} {sp0 need : Nat → Int} {sent : Nat → Nat → Int} {spare unmet : Nat → Int} {total : Int} {u w : Nat → Int} (h : FT M n pc sp0 need sent spare unmet total u w) : ∀ s, s < M → 0 ≤ spare s := h.2.1
theorem FT.un {M n : Nat} {pc : Nat → Nat → Int} {sp0 need : Nat → Int} {sent : Nat → Nat → Int} {spare unmet : Nat → Int} {total : Int} {u w : Nat → Int} (h : FT M n pc sp0 need sent spare unmet total u w) : ∀ j, j < n → 0 ≤ unmet j := h.2.2.1
theorem FT.row {M n : Nat} {pc : Nat → Nat → Int} {sp0 need : Nat → Int} {sent : Nat → Nat → Int} {spare unmet : Nat → Int} {total : Int} {u w : Nat → Int} (h : FT M n pc sp0 need sent spare unmet total u w) : ∀ s, s < M → spare s + sI (fun j => sent s j) n = sp0 s := h.2.2.2.1
theorem FT.col {M n : Nat} {pc : Nat → Nat → Int} {sp0 need : Nat → Int} {sent : Nat → Nat → Int} {spare unmet : Nat → Int} {total : Int} {u w : Nat → Int} (h : FT M n pc sp0 need sent spare unmet total u w) : ∀ j, j < n → unmet j + sI (fun s => sent s j) M = need j := h.2.2.2.2.1
theorem FT.cost {M n : Nat} {pc : Nat → Nat → Int} {sp0 need : Nat → Int} {sent : Nat → Nat → Int} {spare unmet : Nat → Int} {total : Int} {u w : Nat → Int} (h : FT M n pc sp0 need sent spare unmet total u w) : allC sent pc M n = total := h.2.2.2.2.2.1
theorem FT.du {M n : Nat} {pc : Nat → Nat → Int} {sp0 need : Nat → Int} {sent : Nat → Nat → Int} {spare unmet : Nat → Int} {total : Int} {u w : Nat → Int} (h : FT M n pc sp0 need sent spare unmet total u w) : Du ⟨M, n, pc, sent, spare⟩ u w := h.2.2.2.2.2.2
/-- half way through sending t to event `to`: event j has t less than it had, source p is next -/
abbrev SW (M n : Nat) (pc : Nat → Nat → Int) (sp0 need : Nat → Int) (u w : Nat → Int) (aE aS : Nat → Option Nat) (to : Nat) (t total : Int) (spare unmet : Nat → Int) (sent : Nat → Nat → Int) (j p : Nat) : Prop :=
  (∀ s j, s < M → j < n → 0 ≤ sent s j) ∧
  (∀ s, s < M → spare s + sI (fun j => sent s j) n = sp0 s) ∧
  (∀ i, i < n → unmet i + sI (fun s => sent s i) M + (if i = j then t else 0) = need i + (if i = to then t else 0)) ∧
  (allC sent pc M n + t * w j = total + t * w to) ∧
  (∀ q i, OnP aE aS p q → aS q = some i → t ≤ sent q i) ∧
  (Du ⟨M, n, pc, sent, spare⟩ u w)
theorem SW.nn {M n : Nat} {pc : Nat → Nat → Int} {sp0 need : Nat → Int} {u w : Nat → Int} {aE aS : Nat → Option Nat} {to : Nat} {t total : Int} {spare unmet : Nat → Int} {sent : Nat → Nat → Int} {j p : Nat} (h : SW M n pc sp0 need u w aE aS to t total spare unmet sent j p) : ∀ s j, s < M → j < n → 0 ≤ sent s j := h.1
theorem SW.row {M n : Nat} {pc : Nat → Nat → Int} {sp0 need : Nat → Int} {u w : Nat → Int} {aE aS : Nat → Option Nat} {to : Nat} {t total : Int} {spare unmet : Nat → Int} {sent : Nat → Nat → Int} {j p : Nat} (h : SW M n pc sp0 need u w aE aS to t total spare unmet sent j p) : ∀ s, s < M → spare s + sI (fun j => sent s j) n = sp0 s := h.2.1
theorem SW.col {M n : Nat} {pc : Nat → Nat → Int} {sp0 need : Nat → Int} {u w : Nat → Int} {aE aS : Nat → Option Nat} {to : Nat} {t total : Int} {spare unmet : Nat → Int} {sent : Nat → Nat → Int} {j p : Nat} (h : SW M n pc sp0 need u w aE aS to t total spare unmet sent j p) : ∀ i, i < n → unmet i + sI (fun s => sent s i) M + (if i = j then t else 0) = need i + (if i = to then t else 0) := h.2.2.1
theorem SW.cost {M n : Nat} {pc : Nat → Nat → Int} {sp0 need : Nat → Int} {u w : Nat → Int} {aE aS : Nat → Option Nat} {to : Nat} {t total : Int} {spare unmet : Nat → Int} {sent : Nat → Nat → Int} {j p : Nat} (h : SW M n pc sp0 need u w aE aS to t total spare unmet sent j p) : allC sent pc M n + t * w j = total + t * w to := h.2.2.2.1
theorem SW.keep {M n : Nat} {pc : Nat → Nat → Int} {sp0 need : Nat → Int} {u w : Nat → Int} {aE aS : Nat → Option Nat} {to : Nat} {t total : Int} {spare unmet : Nat → Int} {sent : Nat → Nat → Int} {j p : Nat} (h : SW M n pc sp0 need u w aE aS to t total spare unmet sent j p) : ∀ q i, OnP aE aS p q → aS q = some i → t ≤ sent q i := h.2.2.2.2.1
theorem SW.du {M n : Nat} {pc : Nat → Nat → Int} {sp0 need : Nat → Int} {u w : Nat → Int} {aE aS : Nat → Option Nat} {to : Nat} {t total : Int} {spare unmet : Nat → Int} {sent : Nat → Nat → Int} {j p : Nat} (h : SW M n pc sp0 need u w aE aS to t total spare unmet sent j p) : Du ⟨M, n, pc, sent, spare⟩ u w := h.2.2.2.2.2
section snd
variable {M n : Nat} {pc : Nat → Nat → Int} {sp0 need u w : Nat → Int} {aE aS : Nat → Option Nat} {to : Nat} {t total : Int} {spare unmet : Nat → Int} {sent : Nat → Nat → Int}
theorem snd_start (F : FT M n pc sp0 need sent spare unmet total u w) {p : Nat} {u2 w2 : Nat → Int} (D : Du ⟨M, n, pc, sent, spare⟩ u2 w2) (hk : ∀ q i, OnP aE aS p q → aS q = some i → t ≤ sent q i) : SW M n pc sp0 need u2 w2 aE aS to t total spare unmet sent to p := by
  refine ⟨F.nn, F.row, fun i hi => ?_, by rw [F.cost], hk, D⟩
  rw [F.col i hi]
/-- one leg: more to (p, j), less to (p, i) -/
theorem snd_step {j p i q : Nat} (A : SW M n pc sp0 need u w aE aS to t total spare unmet sent j p) (ht : 0 ≤ t) (hj : j < n) (hi : i < n) (hp : p < M) (hpc : pc p j < NW) (hpi : pc p i < NW) (h1 : aS p = some i) (h2 : aE i = some q) (hd : ∃ k, Sg aE aS p k) (t1 : w j = u p + pc p j) (t2 : w i = u p + pc p i) :
    SW M n pc sp0 need u w aE aS to t total spare unmet (add2 (add2 sent p j t) p i (-t)) i q := by
  have hk := A.keep p i OnP.refl h1
  have val : ∀ s k, add2 (add2 sent p j t) p i (-t) s k = sent s k + (if s = p ∧ k = j then t else 0) - (if s = p ∧ k = i then t else 0) := fun s k => by
    unfold add2
    by_cases c1 : s = p ∧ k = i
    · rw [if_pos c1, if_pos c1]; split <;> omega
    · rw [if_neg c1, if_neg c1]; split <;> omega
  have pos : ∀ s k, s < M → k < n → 0 ≤ add2 (add2 sent p j t) p i (-t) s k := fun s k hs hkn => by
    have h0 := A.nn s k hs hkn
    rw [val]
    by_cases c : s = p ∧ k = i
    · rw [if_pos c, c.1, c.2]; split <;> omega
    · rw [if_neg c]; split <;> omega
  refine ⟨pos, fun s hs => ?_, fun k hk2 => ?_, ?_, fun r k hr hrk => ?_, ?_⟩
  · rw [row_add _ _ hi, row_add _ _ hj]
    have := A.row s hs
    split <;> omega
  · rw [col_add _ _ hp, col_add _ _ hp]
    have := A.col k hk2
    split <;> split at this <;> omega
  · rw [cost_add _ _ _ hp hi, cost_add _ _ _ hp hj]
    have := A.cost
    rw [t1, Int.mul_add] at this
    rw [t2, Int.mul_add, Int.neg_mul]
    omega
  · have h := A.keep r k (OnP.step h1 h2 hr) hrk
    have ne : r ≠ p := fun z => by
      obtain ⟨n0, hn0⟩ := hd
      obtain ⟨n1, e1, g3⟩ := Sg_in h1 h2 hn0
      obtain ⟨k2, hk2, hd2⟩ := On_sg hr n1 g3
      rw [z] at hd2
      have := Sg_fun (Sg.succ h1 h2 g3) k2 hd2
      omega
    rw [val, if_neg (fun z => ne z.1), if_neg (fun z => ne z.1)]
    omega
  · refine ⟨A.du.p0, A.du.le, fun s k hs hk2 h => ?_, A.du.nn, A.du.sp⟩
    by_cases c : s = p ∧ k = j
    · rw [c.1, c.2]; exact ⟨hpc, t1⟩
    · by_cases c2 : s = p ∧ k = i
      · rw [c2.1, c2.2]; exact ⟨hpi, t2⟩
      · refine A.du.ti s k hs hk2 ?_
        have h3 : 0 < add2 (add2 sent p j t) p i (-t) s k := h
        rw [val, if_neg c, if_neg c2] at h3
        show 0 < sent s k
        omega
theorem snd_end {j p : Nat} (A : SW M n pc sp0 need u w aE aS to t total spare unmet sent j p) (ht : 0 ≤ t) (hj : j < n) (hp : p < M) (hto : to < n) (hpc : pc p j < NW) (t1 : w j = u p + pc p j) (hs : t ≤ spare p) (h0 : u p = 0) (hsn : ∀ s, s < M → 0 ≤ spare s) (hun : ∀ j, j < n → 0 ≤ unmet j) (hut : t ≤ unmet to) :
    FT M n pc sp0 need (add2 sent p j t) (fun s => if s = p then spare s - t else spare s) (fun i => if i = to then unmet i - t else unmet i) (total + t * w to) u w := by
  refine ⟨fun s k hs2 hk => ?_, fun s hs2 => ?_, fun i hi => ?_, fun s hs2 => ?_, fun i hi => ?_, ?_, ?_⟩
  · have := A.nn s k hs2 hk
    unfold add2; split <;> omega
  · have := hsn s hs2
    show 0 ≤ if s = p then spare s - t else spare s
    by_cases c : s = p
    · rw [if_pos c, c]; omega
    · rw [if_neg c]; exact this
  · have := hun i hi
    show 0 ≤ if i = to then unmet i - t else unmet i
    by_cases c : i = to
    · rw [if_pos c, c]; omega
    · rw [if_neg c]; exact this
  · rw [row_add _ _ hj]
    have := A.row s hs2
    show (if s = p then spare s - t else spare s) + _ = _
    split <;> omega
  · rw [col_add _ _ hp]
    have := A.col i hi
    show (if i = to then unmet i - t else unmet i) + _ = _
    split <;> split at this <;> omega
  · rw [cost_add _ _ _ hp hj]
    have := A.cost
    rw [t1, h0, Int.zero_add] at this
    omega
  · refine ⟨A.du.p0, A.du.le, fun s k hs2 hk h => ?_, A.du.nn, fun s hs2 h => ?_⟩
    · by_cases c : s = p ∧ k = j
      · rw [c.1, c.2]; exact ⟨hpc, t1⟩
      · refine A.du.ti s k hs2 hk ?_
        have h3 : 0 < add2 sent p j t s k := h
        unfold add2 at h3
        rw [if_neg c] at h3
        exact h3
    · by_cases c : s = p
      · rw [c]; exact h0
      · refine A.du.sp s hs2 ?_
        have h3 : 0 < if s = p then spare s - t else spare s := h
        rw [if_neg c] at h3
        exact h3
end snd
