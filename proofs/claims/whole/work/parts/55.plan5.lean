/-- the least of f j, j < k, and top -/
def mnT (top : Nat) (f : Nat → Nat) : Nat → Nat
  | 0 => top
  | k + 1 => min (mnT top f k) (f k)
theorem mnT_top (top : Nat) (f : Nat → Nat) : ∀ k, mnT top f k ≤ top
  | 0 => Nat.le_refl _
  | k + 1 => by have := mnT_top top f k; rw [mnT]; omega
theorem mnT_le (top : Nat) (f : Nat → Nat) : ∀ k j, j < k → mnT top f k ≤ f j
  | 0, _, h => absurd h (by omega)
  | k + 1, j, h => by
    rw [mnT]
    by_cases q : j = k
    · subst q; omega
    · have := mnT_le top f k j (by omega); omega
theorem mnT_at (top : Nat) (f : Nat → Nat) : ∀ k, mnT top f k = top ∨ ∃ j, j < k ∧ mnT top f k = f j
  | 0 => Or.inl rfl
  | k + 1 => by
    rw [mnT]
    by_cases q : mnT top f k ≤ f k
    · rw [Nat.min_eq_left q]
      rcases mnT_at top f k with h | ⟨j, hj, e⟩
      · exact Or.inl h
      · exact Or.inr ⟨j, by omega, e⟩
    · exact Or.inr ⟨k, by omega, by omega⟩
theorem mnT_cong {top : Nat} {f g : Nat → Nat} : ∀ k : Nat, (∀ j, j < k → f j = g j) → mnT top f k = mnT top g k
  | 0, _ => rfl
  | k + 1, h => by rw [mnT, mnT, mnT_cong k (fun j hj => h j (by omega)), h k (by omega)]
theorem mnS_T (f : Nat → Nat) : ∀ k, mnS f k = mnT 62 f k
  | 0 => rfl
  | k + 1 => by rw [mnS, mnT, mnS_T f k]
def okG (rn : Nat → Nat) (hands : Nat) (s : Nat → Nat) (set : Nat) : Bool := (List.range 4).all (fun l => if set.testBit l then decide (1 ≤ rn l) else decide (1 ≤ s l)) && decide (onF set ≤ hands)
theorem okG_iff {rn : Nat → Nat} {hands : Nat} {s : Nat → Nat} {set : Nat} : okG rn hands s set = true ↔ (∀ l, l < 4 → set.testBit l = true → 1 ≤ rn l) ∧ (∀ l, l < 4 → ¬ set.testBit l = true → 1 ≤ s l) ∧ onF set ≤ hands := by
  unfold okG
  simp only [Bool.and_eq_true, List.all_eq_true, List.mem_range, decide_eq_true_eq]
  constructor
  · rintro ⟨h1, h2⟩
    refine ⟨fun l hl e => ?_, fun l hl e => ?_, h2⟩
    · have := h1 l hl; rw [if_pos e] at this; simpa using this
    · have := h1 l hl; rw [if_neg e] at this; simpa using this
  · rintro ⟨h1, h2, h3⟩
    refine ⟨fun l hl => ?_, h3⟩
    by_cases e : set.testBit l = true
    · rw [if_pos e]; simpa using h1 l hl e
    · rw [if_neg e]; simpa using h2 l hl e
/-- the same with every set that keeps the LOTS good, FAR where there is none -/
def gfc (rn : Nat → Nat) (hands : Nat) : Nat → (Nat → Nat) → Nat
  | 0, _ => 0
  | m + 1, s => mnT 1000000 (fun set => if okG rn hands s set = true then onF set + gfc rn hands m (aftS rn (m + 1) s set) else 1000000) 16
theorem gfc_le (rn : Nat → Nat) (hands : Nat) : ∀ (m : Nat) (s : Nat → Nat), gfc rn hands m s ≤ 1000000
  | 0, _ => by rw [gfc]; omega
  | m + 1, s => by rw [gfc]; exact mnT_top _ _ _
theorem gfc_mono (rn : Nat → Nat) (hands : Nat) : ∀ (m : Nat) (s s2 : Nat → Nat), (∀ l, l < 4 → s l ≤ s2 l) → gfc rn hands m s2 ≤ gfc rn hands m s
  | 0, _, _, _ => by rw [gfc, gfc]; omega
  | m + 1, s, s2, h => by
    have l1 := gfc_le rn hands (m + 1) s2
    rcases mnT_at 1000000 (fun set => if okG rn hands s set = true then onF set + gfc rn hands m (aftS rn (m + 1) s set) else 1000000) 16 with e | ⟨j, hj, e⟩
    · have e2 : gfc rn hands (m + 1) s = 1000000 := by rw [gfc]; exact e
      omega
    · have e2 : gfc rn hands (m + 1) s = (if okG rn hands s j = true then onF j + gfc rn hands m (aftS rn (m + 1) s j) else 1000000) := by rw [gfc]; exact e
      by_cases q : okG rn hands s j = true
      · rw [if_pos q] at e2
        obtain ⟨a, b, c⟩ := okG_iff.mp q
        have q2 : okG rn hands s2 j = true := okG_iff.mpr ⟨a, fun l hl e => by have := b l hl e; have := h l hl; omega, c⟩
        have t := mnT_le 1000000 (fun set => if okG rn hands s2 set = true then onF set + gfc rn hands m (aftS rn (m + 1) s2 set) else 1000000) 16 j hj
        have t2 : gfc rn hands (m + 1) s2 ≤ onF j + gfc rn hands m (aftS rn (m + 1) s2 j) := by
          rw [gfc]; rw [if_pos q2] at t; exact t
        have t3 := gfc_mono rn hands m (aftS rn (m + 1) s j) (aftS rn (m + 1) s2 j) (fun l hl => by
          unfold aftS
          have := h l hl
          split <;> omega)
        omega
      · rw [if_neg q] at e2; omega
theorem cut_bits : ∀ n : Nat, n < 16 → ∀ b : Nat, b < 16 → (n &&& b) < 16 ∧ onF (n &&& b) ≤ onF n ∧ (n &&& b ≠ n → onF (n &&& b) < onF n) := by decide +kernel
/-- a set without what does not help -/
theorem cut_set {rn : Nat → Nat} {hands m : Nat} {s : Nat → Nat} {n : Nat} (hn : n < 16) (h : okG rn hands s n = true) : ∃ n2, n2 < 16 ∧ okS rn hands (m + 1) s n2 = true ∧ onF n2 ≤ onF n ∧ (∀ l, l < 4 → aftS rn (m + 1) s n l ≤ aftS rn (m + 1) s n2 l) ∧ (¬ okS rn hands (m + 1) s n = true → onF n2 < onF n) := by
  obtain ⟨a, b, c⟩ := okG_iff.mp h
  have l2 := stP_lt (fun l => decide (s l < min (m + 1) (rn l))) 4
  obtain ⟨c1, c2, c3⟩ := cut_bits n hn _ l2
  have bit : ∀ l, l < 4 → ((n &&& stP (fun l => decide (s l < min (m + 1) (rn l))) 4).testBit l = true ↔ n.testBit l = true ∧ s l < min (m + 1) (rn l)) := by
    intro l hl
    rw [Nat.testBit_and, stP_bit _ hl, Bool.and_eq_true, decide_eq_true_eq]
  have ok2 : okS rn hands (m + 1) s (n &&& stP (fun l => decide (s l < min (m + 1) (rn l))) 4) = true := by
    refine okS_iff.mpr ⟨fun l hl e => ?_, fun l hl e => ((bit l hl).mp e).2, by omega⟩
    have hb : n.testBit l = true := by
      by_cases q : n.testBit l = true
      · exact q
      · have := b l hl q; omega
    exact (bit l hl).mpr ⟨hb, by have := a l hl hb; omega⟩
  refine ⟨_, c1, ok2, c2, fun l hl => ?_, fun q => c3 (fun e => q ?_)⟩
  · unfold aftS
    by_cases q : n.testBit l = true
    · rw [if_pos q]
      by_cases q2 : s l < min (m + 1) (rn l)
      · rw [if_pos ((bit l hl).mpr ⟨q, q2⟩)]; omega
      · rw [if_neg (fun z => q2 ((bit l hl).mp z).2)]; omega
    · rw [if_neg q, if_neg (fun z => q ((bit l hl).mp z).1)]; omega
  · rw [e] at ok2; exact ok2
theorem ok_SG {rn : Nat → Nat} {hands m : Nat} {s : Nat → Nat} {n : Nat} (h : okS rn hands m s n = true) : okG rn hands s n = true := by
  obtain ⟨a, b, c⟩ := okS_iff.mp h
  refine okG_iff.mpr ⟨fun l hl e => by have := b l hl e; omega, fun l hl e => ?_, c⟩
  by_cases q : s l = 0
  · exact absurd (a l hl q) e
  · omega
theorem ffc_at (rn : Nat → Nat) (hands m : Nat) (s : Nat → Nat) : ffc rn hands (m + 1) s = 62 ∨ ∃ n, n < 16 ∧ okS rn hands (m + 1) s n = true ∧ ffc rn hands (m + 1) s = onF n + ffc rn hands m (aftS rn (m + 1) s n) := by
  rcases mnT_at 62 (fun set => if okS rn hands (m + 1) s set = true then onF set + ffc rn hands m (aftS rn (m + 1) s set) else 62) 16 with e | ⟨j, hj, e⟩
  · left; rw [ffc, mnS_T]; exact e
  · by_cases q : okS rn hands (m + 1) s j = true
    · right
      refine ⟨j, hj, q, ?_⟩
      rw [if_pos q] at e
      rw [ffc, mnS_T]; exact e
    · left; rw [if_neg q] at e; rw [ffc, mnS_T]; exact e
theorem ffc_ub {rn : Nat → Nat} {hands m : Nat} {s : Nat → Nat} {n : Nat} (hn : n < 16) (h : okS rn hands (m + 1) s n = true) : ffc rn hands (m + 1) s ≤ onF n + ffc rn hands m (aftS rn (m + 1) s n) := by
  have := mnT_le 62 (fun set => if okS rn hands (m + 1) s set = true then onF set + ffc rn hands m (aftS rn (m + 1) s set) else 62) 16 n hn
  rw [if_pos h] at this
  rw [ffc, mnS_T]; exact this
theorem ffc_4 (rn : Nat → Nat) (hands : Nat) : ∀ (m : Nat) (s : Nat → Nat), ffc rn hands m s ≤ 4 * m ∨ ffc rn hands m s = 62
  | 0, _ => by rw [ffc]; omega
  | m + 1, s => by
    have hl := ffc_le rn hands (m + 1) s
    rcases ffc_at rn hands m s with e | ⟨n, hn, ok, e⟩
    · exact Or.inr e
    · have := onF_le n
      rcases ffc_4 rn hands m (aftS rn (m + 1) s n) with a | a <;> omega
theorem gfc_ub {rn : Nat → Nat} {hands m : Nat} {s : Nat → Nat} {n : Nat} (hn : n < 16) (h : okG rn hands s n = true) : gfc rn hands (m + 1) s ≤ onF n + gfc rn hands m (aftS rn (m + 1) s n) := by
  have := mnT_le 1000000 (fun set => if okG rn hands s set = true then onF set + gfc rn hands m (aftS rn (m + 1) s set) else 1000000) 16 n hn
  rw [if_pos h] at this
  rw [gfc]; exact this
theorem gfc_at (rn : Nat → Nat) (hands m : Nat) (s : Nat → Nat) : gfc rn hands (m + 1) s = 1000000 ∨ ∃ n, n < 16 ∧ okG rn hands s n = true ∧ gfc rn hands (m + 1) s = onF n + gfc rn hands m (aftS rn (m + 1) s n) := by
  rcases mnT_at 1000000 (fun set => if okG rn hands s set = true then onF set + gfc rn hands m (aftS rn (m + 1) s set) else 1000000) 16 with e | ⟨j, hj, e⟩
  · left; rw [gfc]; exact e
  · by_cases q : okG rn hands s j = true
    · right
      refine ⟨j, hj, q, ?_⟩
      rw [if_pos q] at e
      rw [gfc]; exact e
    · left; rw [if_neg q] at e; rw [gfc]; exact e
theorem gf (rn : Nat → Nat) (hands : Nat) : ∀ (m : Nat) (s : Nat → Nat), m ≤ 8 → gfc rn hands m s = if ffc rn hands m s < 62 then ffc rn hands m s else 1000000
  | 0, _, _ => by rw [gfc, ffc]; rfl
  | m + 1, s, h8 => by
    have up := gfc_le rn hands (m + 1) s
    have ih := gf rn hands m
    have lo : gfc rn hands (m + 1) s ≤ (if ffc rn hands (m + 1) s < 62 then ffc rn hands (m + 1) s else 1000000) := by
      by_cases q : ffc rn hands (m + 1) s < 62
      · rw [if_pos q]
        rcases ffc_at rn hands m s with e | ⟨n, hn, ok, e⟩
        · omega
        · have := gfc_ub (m := m) hn (ok_SG ok)
          have i2 := ih (aftS rn (m + 1) s n) (by omega)
          rw [if_pos (by omega)] at i2
          omega
      · rw [if_neg q]; exact up
    have hi : (if ffc rn hands (m + 1) s < 62 then ffc rn hands (m + 1) s else 1000000) ≤ gfc rn hands (m + 1) s := by
      rcases gfc_at rn hands m s with e | ⟨n, hn, ok, e⟩
      · rw [e]; split <;> omega
      · obtain ⟨n2, h1, h2, h3, h4, -⟩ := cut_set (m := m) hn ok
        have mo := gfc_mono rn hands m _ _ h4
        have i2 := ih (aftS rn (m + 1) s n2) (by omega)
        have ub := ffc_ub h1 h2
        have f4 := ffc_4 rn hands m (aftS rn (m + 1) s n2)
        have o4 := onF_le n2
        by_cases q : ffc rn hands m (aftS rn (m + 1) s n2) < 62
        · rw [if_pos q] at i2
          rw [if_pos (by omega)]
          omega
        · rw [if_neg q] at i2
          split <;> omega
    omega
/-- the sets of THE FEWEST are the same, with and without those that do not help -/
theorem same_set {rn : Nat → Nat} {hands m : Nat} {s : Nat → Nat} {n : Nat} (h8 : m + 1 ≤ 8) (hF : ffc rn hands (m + 1) s < 62) (hn : n < 16) :
    (okG rn hands s n = true ∧ onF n + gfc rn hands m (aftS rn (m + 1) s n) = gfc rn hands (m + 1) s) ↔ (okS rn hands (m + 1) s n = true ∧ onF n + ffc rn hands m (aftS rn (m + 1) s n) = ffc rn hands (m + 1) s) := by
  have g1 := gf rn hands (m + 1) s h8
  rw [if_pos hF] at g1
  have g2 := gf rn hands m (aftS rn (m + 1) s n) (by omega)
  constructor
  · rintro ⟨a, e⟩
    have ok : okS rn hands (m + 1) s n = true := by
      by_cases q : okS rn hands (m + 1) s n = true
      · exact q
      · exfalso
        obtain ⟨n2, h1, h2, h3, h4, h5⟩ := cut_set (m := m) hn a
        have mo := gfc_mono rn hands m _ _ h4
        have ub := gfc_ub (m := m) h1 (ok_SG h2)
        have := h5 q
        omega
    refine ⟨ok, ?_⟩
    by_cases q : ffc rn hands m (aftS rn (m + 1) s n) < 62
    · rw [if_pos q] at g2; omega
    · rw [if_neg q] at g2; omega
  · rintro ⟨a, e⟩
    refine ⟨ok_SG a, ?_⟩
    rw [if_pos (by omega)] at g2
    omega
/-- the first of k numbers from j on that has p -/
def frst (p : Nat → Bool) : Nat → Nat → Nat
  | 0, j => j
  | k + 1, j => if p j = true then j else frst p k (j + 1)
theorem frst_eq {p : Nat → Bool} {n : Nat} (hp : p n = true) : ∀ k j, j ≤ n → n < j + k → (∀ i, j ≤ i → i < n → ¬ p i = true) → frst p k j = n
  | 0, j, h1, h2, _ => absurd h2 (by omega)
  | k + 1, j, h1, h2, h3 => by
    rw [frst]
    by_cases q : p j = true
    · rw [if_pos q]
      by_cases e : j = n
      · exact e
      · exact absurd q (h3 j (by omega) (by omega))
    · rw [if_neg q]
      have : j ≠ n := fun e => q (by rw [e]; exact hp)
      exact frst_eq hp k (j + 1) (by omega) (by omega) (fun i a b => h3 i (by omega) b)
theorem frst_spec {p : Nat → Bool} : ∀ k j, (∃ n, j ≤ n ∧ n < j + k ∧ p n = true) → j ≤ frst p k j ∧ frst p k j < j + k ∧ p (frst p k j) = true ∧ ∀ i, j ≤ i → i < frst p k j → ¬ p i = true
  | 0, j, ⟨n, h1, h2, _⟩ => absurd h2 (by omega)
  | k + 1, j, ⟨n, h1, h2, h3⟩ => by
    rw [frst]
    by_cases q : p j = true
    · rw [if_pos q]
      exact ⟨by omega, by omega, q, fun i a b => absurd b (by omega)⟩
    · rw [if_neg q]
      have hne : j ≠ n := fun e => q (by rw [e]; exact h3)
      obtain ⟨a, b, c, d⟩ := frst_spec k (j + 1) ⟨n, by omega, by omega, h3⟩
      refine ⟨by omega, by omega, c, fun i hi h => ?_⟩
      by_cases e : i = j
      · rw [e]; exact q
      · exact d i (by omega) h
/-- THE SET of the first of m + 1 months -/
def pick (rn : Nat → Nat) (hands m : Nat) (s : Nat → Nat) : Nat := frst (fun n => okS rn hands (m + 1) s n && (onF n + ffc rn hands m (aftS rn (m + 1) s n) == ffc rn hands (m + 1) s)) 16 0
theorem pick_eq {rn : Nat → Nat} {hands m : Nat} {s : Nat → Nat} {n : Nat} (hn : n < 16) (h1 : okS rn hands (m + 1) s n = true) (h2 : onF n + ffc rn hands m (aftS rn (m + 1) s n) = ffc rn hands (m + 1) s) (h3 : ∀ j, j < n → ¬ (okS rn hands (m + 1) s j = true ∧ onF j + ffc rn hands m (aftS rn (m + 1) s j) = ffc rn hands (m + 1) s)) : pick rn hands m s = n := by
  unfold pick
  refine frst_eq (by rw [Bool.and_eq_true, beq_iff_eq]; exact ⟨h1, h2⟩) 16 0 (by omega) (by omega) (fun i _ hi z => h3 i hi ?_)
  rw [Bool.and_eq_true, beq_iff_eq] at z
  exact z
theorem pick_spec {rn : Nat → Nat} {hands m : Nat} {s : Nat → Nat} (h : ffc rn hands (m + 1) s < 62) : pick rn hands m s < 16 ∧ okS rn hands (m + 1) s (pick rn hands m s) = true ∧ onF (pick rn hands m s) + ffc rn hands m (aftS rn (m + 1) s (pick rn hands m s)) = ffc rn hands (m + 1) s ∧ ∀ j, j < pick rn hands m s → ¬ (okS rn hands (m + 1) s j = true ∧ onF j + ffc rn hands m (aftS rn (m + 1) s j) = ffc rn hands (m + 1) s) := by
  have ex : ∃ n, 0 ≤ n ∧ n < 0 + 16 ∧ (fun n => okS rn hands (m + 1) s n && (onF n + ffc rn hands m (aftS rn (m + 1) s n) == ffc rn hands (m + 1) s)) n = true := by
    rcases ffc_at rn hands m s with e | ⟨n, a, b, c⟩
    · omega
    · refine ⟨n, by omega, by omega, ?_⟩
      show (_ && _) = true
      rw [Bool.and_eq_true, beq_iff_eq]
      exact ⟨b, c.symm⟩
  obtain ⟨-, a, b, c⟩ := frst_spec 16 0 ex
  have b2 : (okS rn hands (m + 1) s (pick rn hands m s) && (onF (pick rn hands m s) + ffc rn hands m (aftS rn (m + 1) s (pick rn hands m s)) == ffc rn hands (m + 1) s)) = true := b
  rw [Bool.and_eq_true, beq_iff_eq] at b2
  refine ⟨by have : pick rn hands m s < 0 + 16 := a
             omega, b2.1, b2.2, fun j hj z => c j (by omega) hj ?_⟩
  show (_ && _) = true
  rw [Bool.and_eq_true, beq_iff_eq]
  exact z
/-- THE SET of month i -/
def walkP (rn : Nat → Nat) (hands : Nat) : Nat → Nat → (Nat → Nat) → Nat
  | 0, m, s => pick rn hands (m - 1) s
  | i + 1, m, s => walkP rn hands i (m - 1) (aftS rn m s (pick rn hands (m - 1) s))
/-- how long a LOT lasts, by what is left -/
theorem lstP_iff {w b p n : Nat} (h1 : 1 ≤ n) (h8 : n ≤ 8) : n ≤ lstP w b p ↔ b ≤ p - w * n := by
  unfold lstP
  by_cases q1 : b = 0
  · rw [if_pos q1]; omega
  · rw [if_neg q1]
    by_cases q2 : p < b
    · rw [if_pos q2]; omega
    · rw [if_neg q2]
      by_cases q3 : w = 0
      · rw [if_pos q3, q3]; omega
      · rw [if_neg q3]
        have := Nat.le_div_iff_mul_le (x := n) (y := p - b) (k := w) (by omega)
        rw [Nat.mul_comm] at this
        omega
/-- the reference's walk over months of last replatings -/
def rok (g : Nat → Nat → Nat → Bool) (hands i : Nat) (st : Nat → Nat) (set : Nat) : Bool := (List.range 4).all (fun l => g l i (if set.testBit l then i + 1 else st l)) && decide (onF set ≤ hands)
def rfv (g : Nat → Nat → Nat → Bool) (hands : Nat) : Nat → Nat → (Nat → Nat) → Nat
  | 0, _, _ => 0
  | k + 1, i, st => mnT 1000000 (fun set => if rok g hands i st set = true then onF set + rfv g hands k (i + 1) (fun l => if set.testBit l then i + 1 else st l) else 1000000) 16
theorem rok_iff {g : Nat → Nat → Nat → Bool} {hands i : Nat} {st : Nat → Nat} {set : Nat} : rok g hands i st set = true ↔ (∀ l, l < 4 → g l i (if set.testBit l then i + 1 else st l) = true) ∧ onF set ≤ hands := by
  unfold rok
  simp only [Bool.and_eq_true, List.all_eq_true, List.mem_range, decide_eq_true_eq]
theorem rfv_cong {g : Nat → Nat → Nat → Bool} {hands : Nat} : ∀ (k i : Nat) (s s2 : Nat → Nat), (∀ l, l < 4 → s l = s2 l) → rfv g hands k i s = rfv g hands k i s2
  | 0, _, _, _, _ => by rw [rfv, rfv]
  | k + 1, i, s, s2, h => by
    rw [rfv, rfv]
    apply mnT_cong
    intro set _
    have e1 : rok g hands i s set = true ↔ rok g hands i s2 set = true := by
      rw [rok_iff, rok_iff]
      constructor
      · rintro ⟨a, b⟩; exact ⟨fun l hl => by rw [← h l hl]; exact a l hl, b⟩
      · rintro ⟨a, b⟩; exact ⟨fun l hl => by rw [h l hl]; exact a l hl, b⟩
    have e2 := rfv_cong (g := g) (hands := hands) k (i + 1) (fun l => if set.testBit l then i + 1 else s l) (fun l => if set.testBit l then i + 1 else s2 l) (fun l hl => by rw [h l hl])
    by_cases q : rok g hands i s set = true
    · rw [if_pos q, if_pos (e1.mp q), e2]
    · rw [if_neg q, if_neg (fun z => q (e1.mpr z))]
theorem rfv_le (g : Nat → Nat → Nat → Bool) (hands : Nat) : ∀ (k i : Nat) (s : Nat → Nat), rfv g hands k i s ≤ 1000000
  | 0, _, _ => by rw [rfv]; omega
  | k + 1, i, s => by rw [rfv]; exact mnT_top _ _ _
/-- how many of the k months to come a LOT lasts, in month i, by its last replating -/
def sOf (rn l0 : Nat → Nat) (k i : Nat) (st : Nat → Nat) (l : Nat) : Nat := min k (if st l = 0 then l0 l - i else rn l - (i + 1 - st l))
/-- what isGood must say -/
def gIs (g : Nat → Nat → Nat → Bool) (rn l0 : Nat → Nat) : Prop := ∀ l i last : Nat, l < 4 → i ≤ 7 → last ≤ i + 1 → (g l i last = true ↔ if last = 0 then i + 1 ≤ l0 l else i + 2 - last ≤ rn l)
theorem rok_G {g : Nat → Nat → Nat → Bool} {rn l0 : Nat → Nat} {hands k i : Nat} {st : Nat → Nat} {n : Nat} (hg : gIs g rn l0) (hk : i + k + 1 ≤ 8) (hst : ∀ l, l < 4 → st l ≤ i) : rok g hands i st n = true ↔ okG rn hands (sOf rn l0 (k + 1) i st) n = true := by
  rw [rok_iff, okG_iff]
  constructor
  · rintro ⟨a, b⟩
    refine ⟨fun l hl e => ?_, fun l hl e => ?_, b⟩
    · have := a l hl
      rw [if_pos e, hg l i (i + 1) hl (by omega) (by omega), if_neg (by omega)] at this
      omega
    · have h0 := hst l hl
      have := a l hl
      rw [if_neg e, hg l i (st l) hl (by omega) (by omega)] at this
      unfold sOf
      by_cases q : st l = 0
      · rw [if_pos q] at this ⊢; omega
      · rw [if_neg q] at this ⊢; omega
  · rintro ⟨a, b, c⟩
    refine ⟨fun l hl => ?_, c⟩
    by_cases e : n.testBit l = true
    · rw [if_pos e, hg l i (i + 1) hl (by omega) (by omega), if_neg (by omega)]
      have := a l hl e
      omega
    · have h0 := hst l hl
      rw [if_neg e, hg l i (st l) hl (by omega) (by omega)]
      have := b l hl e
      unfold sOf at this
      by_cases q : st l = 0
      · rw [if_pos q] at this ⊢; omega
      · rw [if_neg q] at this ⊢; omega
theorem sOf_next {rn l0 : Nat → Nat} {k i : Nat} {st : Nat → Nat} {n l : Nat} (hst : st l ≤ i) : sOf rn l0 k (i + 1) (fun l => if n.testBit l then i + 1 else st l) l = aftS rn (k + 1) (sOf rn l0 (k + 1) i st) n l := by
  unfold sOf aftS
  by_cases e : n.testBit l = true
  · simp only [if_pos e]
    rw [if_neg (by omega)]
    omega
  · simp only [if_neg e]
    by_cases q : st l = 0
    · rw [if_pos q, if_pos q]; omega
    · rw [if_neg q, if_neg q]; omega
theorem gfc_cong {rn : Nat → Nat} {hands m : Nat} {s s2 : Nat → Nat} (h : ∀ l, l < 4 → s l = s2 l) : gfc rn hands m s = gfc rn hands m s2 :=
  Nat.le_antisymm (gfc_mono rn hands m s2 s (fun l hl => by rw [h l hl]; exact Nat.le_refl _)) (gfc_mono rn hands m s s2 (fun l hl => by rw [h l hl]; exact Nat.le_refl _))
theorem rfv_G {g : Nat → Nat → Nat → Bool} {rn l0 : Nat → Nat} {hands : Nat} (hg : gIs g rn l0) : ∀ (k i : Nat) (st : Nat → Nat), i + k ≤ 8 → (∀ l, l < 4 → st l ≤ i) → rfv g hands k i st = gfc rn hands k (sOf rn l0 k i st)
  | 0, _, _, _, _ => by rw [rfv, gfc]
  | k + 1, i, st, hk, hst => by
    rw [rfv, gfc]
    apply mnT_cong
    intro n _
    have e1 := rok_G (hands := hands) (n := n) hg (k := k) (i := i) (st := st) (by omega) hst
    have e2 := rfv_G (hands := hands) hg k (i + 1) (fun l => if n.testBit l then i + 1 else st l) (by omega) (fun l hl => by
      have := hst l hl
      show (if n.testBit l then i + 1 else st l) ≤ i + 1
      split <;> omega)
    have e3 : gfc rn hands k (sOf rn l0 k (i + 1) (fun l => if n.testBit l then i + 1 else st l)) = gfc rn hands k (aftS rn (k + 1) (sOf rn l0 (k + 1) i st) n) := gfc_cong (fun l hl => sOf_next (hst l hl))
    by_cases q : rok g hands i st n = true
    · rw [if_pos q, if_pos (e1.mp q), e2, e3]
    · rw [if_neg q, if_neg (fun z => q (e1.mpr z))]
