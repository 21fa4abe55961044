/-- EVENTS of one KIND by DAY: what holds of the list that is gathered -/
abbrev GA (N : Nat) (act : Nat → Bool) (dy : Nat → Int) (n : Nat) (sv : Nat → Nat) : Prop :=
  (∀ j, j < n → sv j < N ∧ act (sv j) = true) ∧ (∀ i j, i ≤ j → j < n → dy (sv i) ≤ dy (sv j)) ∧ (∀ G : Nat → Int, sI (fun j => G (sv j)) n = sI (fun e => if act e = true then G e else 0) N) ∧ (∀ e, e < N → act e = true → ∃ j, j < n ∧ sv j = e) ∧ n ≤ N
theorem GA_0 {act : Nat → Bool} {dy : Nat → Int} (sv : Nat → Nat) : GA 0 act dy 0 sv :=
  ⟨fun j h => absurd h (by omega), fun i j _ h => absurd h (by omega), fun G => rfl, fun e h => absurd h (by omega), Nat.le_refl _⟩
theorem GA_no {N n : Nat} {act : Nat → Bool} {dy : Nat → Int} {sv : Nat → Nat} (A : GA N act dy n sv) (h : ¬ act N = true) : GA (N + 1) act dy n sv := by
  obtain ⟨a, b, c, d, e⟩ := A
  refine ⟨fun j hj => ⟨by have := (a j hj).1; omega, (a j hj).2⟩, b, fun G => ?_, fun x hx hax => ?_, by omega⟩
  · rw [c G, sI, if_neg h, Int.add_zero]
  · by_cases q : x = N
    · subst q; exact absurd hax h
    · exact d x (by omega) hax
/-- one more at place p -/
def insA (sv : Nat → Nat) (p e : Nat) (j : Nat) : Nat := if j < p then sv j else if j = p then e else sv (j - 1)
theorem insA_sum (sv : Nat → Nat) (p e n : Nat) (hp : p ≤ n) (G : Nat → Int) : sI (fun j => G (insA sv p e j)) (n + 1) = sI (fun j => G (sv j)) n + G e := by
  have e1 : n + 1 = p + ((n - p) + 1) := by omega
  have e2 : n = p + (n - p) := by omega
  have s1 : sI (fun j => G (insA sv p e j)) (n + 1) = sI (fun j => G (insA sv p e j)) p + sI (fun t => G (insA sv p e (p + t))) (n - p + 1) := by rw [← sI_split]; congr 1
  have s2 : sI (fun j => G (sv j)) n = sI (fun j => G (sv j)) p + sI (fun t => G (sv (p + t))) (n - p) := by rw [← sI_split]; congr 1
  have s3 : sI (fun t => G (insA sv p e (p + t))) (n - p + 1) = G e + sI (fun t => G (sv (p + t))) (n - p) := by
    have e3 : n - p + 1 = 1 + (n - p) := by omega
    rw [e3, sI_split]
    have h1 : sI (fun t => G (insA sv p e (p + t))) 1 = G e := by
      rw [sI, sI, Int.zero_add]
      unfold insA
      rw [Nat.add_zero, if_neg (by omega), if_pos rfl]
    have h2 : sI (fun t => G (insA sv p e (p + (1 + t)))) (n - p) = sI (fun t => G (sv (p + t))) (n - p) := sI_cong _ (fun t _ => by
      show G (insA sv p e (p + (1 + t))) = G (sv (p + t))
      unfold insA
      have e4 : p + (1 + t) - 1 = p + t := by omega
      rw [if_neg (by omega), if_neg (by omega), e4])
    rw [h1, h2]
  have s4 : sI (fun j => G (insA sv p e j)) p = sI (fun j => G (sv j)) p := sI_cong _ (fun j hj => by
    show G (insA sv p e j) = G (sv j)
    unfold insA
    rw [if_pos hj])
  rw [s1, s2, s3, s4]
  omega
theorem GA_ins {N n p : Nat} {act : Nat → Bool} {dy : Nat → Int} {sv : Nat → Nat} (A : GA N act dy n sv) (h : act N = true) (hp : p ≤ n) (h1 : ∀ j, j < p → dy (sv j) ≤ dy N) (h2 : ∀ j, p ≤ j → j < n → dy N < dy (sv j)) : GA (N + 1) act dy (n + 1) (insA sv p N) := by
  obtain ⟨a, b, c, d, e⟩ := A
  refine ⟨fun j hj => ?_, fun i j hij hj => ?_, fun G => ?_, fun x hx hax => ?_, by omega⟩
  · unfold insA
    by_cases q1 : j < p
    · rw [if_pos q1]; have := a j (by omega); exact ⟨by omega, this.2⟩
    · rw [if_neg q1]
      by_cases q2 : j = p
      · rw [if_pos q2]; exact ⟨by omega, h⟩
      · rw [if_neg q2]; have := a (j - 1) (by omega); exact ⟨by omega, this.2⟩
  · unfold insA
    by_cases q1 : j < p
    · rw [if_pos q1, if_pos (by omega)]; exact b i j hij (by omega)
    · rw [if_neg q1]
      by_cases q2 : j = p
      · rw [if_pos q2]
        by_cases q3 : i < p
        · rw [if_pos q3]; exact h1 i q3
        · rw [if_neg q3, if_pos (by omega)]; exact Int.le_refl _
      · rw [if_neg q2]
        have hj1 := h2 (j - 1) (by omega) (by omega)
        by_cases q3 : i < p
        · rw [if_pos q3]; exact b i (j - 1) (by omega) (by omega)
        · rw [if_neg q3]
          by_cases q4 : i = p
          · rw [if_pos q4]; omega
          · rw [if_neg q4]; exact b (i - 1) (j - 1) (by omega) (by omega)
  · rw [insA_sum sv p N n hp G, c G, sI, if_pos h]
  · by_cases q : x = N
    · refine ⟨p, by omega, ?_⟩
      unfold insA
      rw [if_neg (by omega), if_pos rfl, q]
    · obtain ⟨j, hj, ej⟩ := d x (by omega) hax
      by_cases q1 : j < p
      · refine ⟨j, by omega, ?_⟩
        unfold insA
        rw [if_pos q1]; exact ej
      · refine ⟨j + 1, by omega, ?_⟩
        unfold insA
        rw [if_neg (by omega), if_neg (by omega), Nat.add_sub_cancel]; exact ej
/-- the DAYS themselves, each once -/
abbrev GD (N : Nat) (act : Nat → Bool) (dy : Nat → Int) (D : Nat) (dd : Nat → Int) : Prop :=
  (∀ i j, i < j → j < D → dd i < dd j) ∧ (∀ e, e < N → act e = true → ∃ d, d < D ∧ dd d = dy e) ∧ (∀ d, d < D → ∃ e, e < N ∧ act e = true ∧ dd d = dy e) ∧ D ≤ N
theorem GD_0 {act : Nat → Bool} {dy : Nat → Int} (dd : Nat → Int) : GD 0 act dy 0 dd :=
  ⟨fun i j _ h => absurd h (by omega), fun e h => absurd h (by omega), fun e h => absurd h (by omega), Nat.le_refl _⟩
theorem GD_no {N D : Nat} {act : Nat → Bool} {dy dd : Nat → Int} (A : GD N act dy D dd) (h : ¬ act N = true ∨ ∃ d, d < D ∧ dd d = dy N) : GD (N + 1) act dy D dd := by
  obtain ⟨a, b, c, e⟩ := A
  refine ⟨a, fun x hx hax => ?_, fun d hd => ?_, by omega⟩
  · by_cases q : x = N
    · subst q
      rcases h with w | w
      · exact absurd hax w
      · exact w
    · exact b x (by omega) hax
  · obtain ⟨x, h1, h2⟩ := c d hd
    exact ⟨x, by omega, h2⟩
def insZ (dd : Nat → Int) (p : Nat) (v : Int) (j : Nat) : Int := if j < p then dd j else if j = p then v else dd (j - 1)
theorem GD_ins {N D p : Nat} {act : Nat → Bool} {dy dd : Nat → Int} (A : GD N act dy D dd) (h : act N = true) (hp : p ≤ D) (h1 : ∀ j, j < p → dd j < dy N) (h2 : ∀ j, p ≤ j → j < D → dy N < dd j) : GD (N + 1) act dy (D + 1) (insZ dd p (dy N)) := by
  obtain ⟨a, b, c, e⟩ := A
  refine ⟨fun i j hij hj => ?_, fun x hx hax => ?_, fun d hd => ?_, by omega⟩
  · unfold insZ
    by_cases q1 : j < p
    · rw [if_pos q1, if_pos (by omega)]; exact a i j hij (by omega)
    · rw [if_neg q1]
      by_cases q2 : j = p
      · rw [if_pos q2, if_pos (by omega)]; exact h1 i (by omega)
      · rw [if_neg q2]
        have hj1 := h2 (j - 1) (by omega) (by omega)
        by_cases q3 : i < p
        · rw [if_pos q3]; have := h1 i q3; omega
        · rw [if_neg q3]
          by_cases q4 : i = p
          · rw [if_pos q4]; exact hj1
          · rw [if_neg q4]; exact a (i - 1) (j - 1) (by omega) (by omega)
  · by_cases q : x = N
    · refine ⟨p, by omega, ?_⟩
      unfold insZ
      rw [if_neg (by omega), if_pos rfl, q]
    · obtain ⟨j, hj, ej⟩ := b x (by omega) hax
      by_cases q1 : j < p
      · refine ⟨j, by omega, ?_⟩
        unfold insZ
        rw [if_pos q1]; exact ej
      · refine ⟨j + 1, by omega, ?_⟩
        unfold insZ
        rw [if_neg (by omega), if_neg (by omega), Nat.add_sub_cancel]; exact ej
  · unfold insZ
    by_cases q1 : d < p
    · rw [if_pos q1]
      obtain ⟨x, g1, g2⟩ := c d (by omega)
      exact ⟨x, by omega, g2⟩
    · rw [if_neg q1]
      by_cases q2 : d = p
      · rw [if_pos q2]; exact ⟨N, by omega, h, rfl⟩
      · rw [if_neg q2]
        obtain ⟨x, g1, g2⟩ := c (d - 1) (by omega)
        exact ⟨x, by omega, g2⟩
/-- the number of an event's DAY -/
def rkN (dy : Nat → Int) (sv : Nat → Nat) : Nat → Nat
  | 0 => 0
  | j + 1 => rkN dy sv j + if dy (sv (j + 1)) = dy (sv j) then 0 else 1
section rank
variable {N n D : Nat} {act : Nat → Bool} {dy dd : Nat → Int} {sv : Nat → Nat}
theorem rk_day (A : GA N act dy n sv) (B : GD N act dy D dd) : ∀ j, j < n → rkN dy sv j < D ∧ dd (rkN dy sv j) = dy (sv j)
  | 0, hj => by
    obtain ⟨a1, a2, a3, a4, a5⟩ := A
    obtain ⟨b1, b2, b3, b4⟩ := B
    obtain ⟨d, hd, e⟩ := b2 (sv 0) (a1 0 hj).1 (a1 0 hj).2
    rw [rkN]
    by_cases c : d = 0
    · subst c; exact ⟨hd, e⟩
    · exfalso
      have l := b1 0 d (by omega) hd
      obtain ⟨x, x1, x2, x3⟩ := b3 0 (by omega)
      obtain ⟨i, hi, ei⟩ := a4 x x1 x2
      have := a2 0 i (by omega) hi
      rw [ei] at this
      omega
  | j + 1, hj => by
    obtain ⟨ih1, ih2⟩ := rk_day A B j (by omega)
    obtain ⟨a1, a2, a3, a4, a5⟩ := A
    obtain ⟨b1, b2, b3, b4⟩ := B
    rw [rkN]
    by_cases c : dy (sv (j + 1)) = dy (sv j)
    · rw [if_pos c, Nat.add_zero]
      exact ⟨ih1, by omega⟩
    · rw [if_neg c]
      have so := a2 j (j + 1) (by omega) hj
      obtain ⟨d, hd, e⟩ := b2 (sv (j + 1)) (a1 (j + 1) hj).1 (a1 (j + 1) hj).2
      have lt : rkN dy sv j < d := by
        rcases Nat.lt_trichotomy (rkN dy sv j) d with w | w | w
        · exact w
        · rw [w] at ih2; omega
        · have := b1 d _ w ih1; omega
      by_cases c2 : d = rkN dy sv j + 1
      · rw [← c2]; exact ⟨hd, e⟩
      · exfalso
        have l1 := b1 (rkN dy sv j) (rkN dy sv j + 1) (by omega) (by omega)
        have l2 := b1 (rkN dy sv j + 1) d (by omega) hd
        obtain ⟨x, x1, x2, x3⟩ := b3 (rkN dy sv j + 1) (by omega)
        obtain ⟨i, hi, ei⟩ := a4 x x1 x2
        by_cases w : i ≤ j
        · have := a2 i j w (by omega)
          rw [ei] at this
          omega
        · have := a2 (j + 1) i (by omega) hi
          rw [ei] at this
          omega
theorem rk_mono (j : Nat) : ∀ i, rkN dy sv j ≤ rkN dy sv (j + i)
  | 0 => Nat.le_refl _
  | i + 1 => by
    have := rk_mono j i
    have e : j + (i + 1) = j + i + 1 := by omega
    rw [e, rkN]
    omega
theorem rk_le {i j : Nat} (h : i ≤ j) : rkN dy sv i ≤ rkN dy sv j := by
  have := rk_mono (dy := dy) (sv := sv) i (j - i)
  have e : i + (j - i) = j := by omega
  rw [e] at this
  exact this
theorem rk_iff (A : GA N act dy n sv) (B : GD N act dy D dd) {j d : Nat} (hj : j < n) (hd : d < D) : rkN dy sv j = d ↔ dd d = dy (sv j) := by
  obtain ⟨h1, h2⟩ := rk_day A B j hj
  constructor
  · intro e; rw [← e]; exact h2
  · intro e
    rcases Nat.lt_trichotomy (rkN dy sv j) d with w | w | w
    · have := B.1 _ _ w hd; omega
    · exact w
    · have := B.1 _ _ w h1; omega
theorem rk_ex (A : GA N act dy n sv) (B : GD N act dy D dd) {d : Nat} (hd : d < D) : ∃ j, j < n ∧ rkN dy sv j = d := by
  obtain ⟨x, x1, x2, x3⟩ := B.2.2.1 d hd
  obtain ⟨j, hj, ej⟩ := A.2.2.2.1 x x1 x2
  exact ⟨j, hj, (rk_iff A B hj hd).mpr (by rw [ej]; exact x3)⟩
/-- the need of a DAY -/
def dayQ (dy : Nat → Int) (sv : Nat → Nat) (q : Nat → Int) (n d : Nat) : Int := sI (fun j => if rkN dy sv j = d then q j else 0) n
/-- the need of its DAY, up to an event -/
def preQ (dy : Nat → Int) (sv : Nat → Nat) (q : Nat → Int) (j : Nat) : Int := sI (fun i => if rkN dy sv i = rkN dy sv j then q i else 0) (j + 1)
theorem pre_le {q : Nat → Int} (hq : ∀ j, j < n → 0 ≤ q j) {j : Nat} (hj : j < n) : preQ dy sv q j ≤ dayQ dy sv q n (rkN dy sv j) := by
  unfold preQ dayQ
  have e : n = (j + 1) + (n - (j + 1)) := by omega
  have s : sI (fun i => if rkN dy sv i = rkN dy sv j then q i else 0) n = sI (fun i => if rkN dy sv i = rkN dy sv j then q i else 0) (j + 1) + sI (fun t => if rkN dy sv (j + 1 + t) = rkN dy sv j then q (j + 1 + t) else 0) (n - (j + 1)) := by rw [← sI_split]; congr 1
  have nn : 0 ≤ sI (fun t => if rkN dy sv (j + 1 + t) = rkN dy sv j then q (j + 1 + t) else 0) (n - (j + 1)) := sI_nn _ (fun t ht => by
    have := hq (j + 1 + t) (by omega)
    show 0 ≤ if rkN dy sv (j + 1 + t) = rkN dy sv j then q (j + 1 + t) else 0
    split <;> omega)
  omega
theorem last_of (f : Nat → Nat) (d : Nat) : ∀ m, (∃ i, i < m ∧ f i = d) → ∃ i, i < m ∧ f i = d ∧ ∀ k, i < k → k < m → f k ≠ d
  | 0, ⟨i, h, _⟩ => absurd h (by omega)
  | m + 1, ⟨i, h, e⟩ => by
    by_cases c : f m = d
    · exact ⟨m, by omega, c, fun k h1 h2 => absurd h2 (by omega)⟩
    · have hi : i < m := by
        by_cases w : i = m
        · subst w; exact absurd e c
        · omega
      obtain ⟨i2, h1, h2, h3⟩ := last_of f d m ⟨i, hi, e⟩
      refine ⟨i2, by omega, h2, fun k k1 k2 => ?_⟩
      by_cases w : k = m
      · subst w; exact c
      · exact h3 k k1 (by omega)
theorem day_pre (q : Nat → Int) {d : Nat} (h : ∃ j, j < n ∧ rkN dy sv j = d) : ∃ i, i < n ∧ rkN dy sv i = d ∧ dayQ dy sv q n d = preQ dy sv q i := by
  obtain ⟨i, h1, h2, h3⟩ := last_of (rkN dy sv) d n h
  refine ⟨i, h1, h2, ?_⟩
  unfold preQ dayQ
  rw [h2]
  have s : sI (fun i => if rkN dy sv i = d then q i else 0) n = sI (fun i => if rkN dy sv i = d then q i else 0) (i + 1) + sI (fun t => if rkN dy sv (i + 1 + t) = d then q (i + 1 + t) else 0) (n - (i + 1)) := by
    rw [← sI_split]; congr 1; omega
  have z : sI (fun t => if rkN dy sv (i + 1 + t) = d then q (i + 1 + t) else 0) (n - (i + 1)) = 0 := by
    rw [sI_cong (g := fun _ => 0) _ (fun t ht => by
      show (if rkN dy sv (i + 1 + t) = d then q (i + 1 + t) else 0) = 0
      rw [if_neg (h3 _ (by omega) (by omega))]), sI_0]
  omega
end rank
