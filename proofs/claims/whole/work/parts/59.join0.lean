/-- the sum of h over k numbers from p on -/
def sB (h : Nat → Nat) : Nat → Nat → Nat
  | _, 0 => 0
  | p, k + 1 => h p + sB h (p + 1) k
theorem sB_split (h : Nat → Nat) : ∀ (i p j : Nat), sB h p (i + j) = sB h p i + sB h (p + i) j
  | 0, p, j => by rw [Nat.zero_add, sB, Nat.zero_add, Nat.add_zero]
  | i + 1, p, j => by
    have e : i + 1 + j = (i + j) + 1 := by omega
    rw [e, sB, sB, sB_split h i (p + 1) j]
    have e2 : p + 1 + i = p + (i + 1) := by omega
    rw [e2]; omega
theorem sB_one (h : Nat → Nat) (k : Nat) : sB h 0 (k + 1) = sB h 0 k + h k := by
  rw [sB_split h k 0 1, Nat.zero_add, sB, sB, Nat.add_zero]
theorem sB_cong {h g : Nat → Nat} : ∀ (k p : Nat), (∀ j, j < k → h (p + j) = g (p + j)) → sB h p k = sB g p k
  | 0, _, _ => rfl
  | k + 1, p, e => by
    rw [sB, sB, sB_cong (h := h) (g := g) k (p + 1) (fun j hj => by
      have := e (j + 1) (by omega)
      have e2 : p + 1 + j = p + (j + 1) := by omega
      rw [e2]; exact this)]
    have := e 0 (by omega)
    rw [Nat.add_zero] at this
    rw [this]
theorem sB_add (h g : Nat → Nat) : ∀ (k p : Nat), sB (fun j => h j + g j) p k = sB h p k + sB g p k
  | 0, _ => rfl
  | k + 1, p => by rw [sB, sB, sB, sB_add h g k (p + 1)]; omega
theorem sB_mul (h : Nat → Nat) (c : Nat) : ∀ (k p : Nat), sB (fun j => h j * c) p k = sB h p k * c
  | 0, _ => by rw [sB, sB, Nat.zero_mul]
  | k + 1, p => by rw [sB, sB, sB_mul h c k (p + 1), Nat.add_mul]
/-- PIECES p, .., p + k - 1 joined so: a FIND below q, or 8 for none -/
def okA (al : Nat → Nat → Prop) (q p k : Nat) (fr : Nat → Prop) (a : Nat → Nat) : Prop := (∀ j, j < k → al (p + j) (a (p + j)) ∧ (a (p + j) = 8 ∨ (a (p + j) < q ∧ fr (a (p + j))))) ∧ ∀ i j, i < j → j < k → a (p + i) = a (p + j) → a (p + i) = 8
theorem okA_cong {al : Nat → Nat → Prop} {q p k : Nat} {fr fr2 : Nat → Prop} {a b : Nat → Nat} (hf : ∀ f, f < q → fr f → fr2 f) (h : ∀ j, j < k → a (p + j) = b (p + j)) (ok : okA al q p k fr a) : okA al q p k fr2 b := by
  refine ⟨fun j hj => ?_, fun i j hi hj e => ?_⟩
  · rw [← h j hj]
    obtain ⟨h1, h2⟩ := ok.1 j hj
    exact ⟨h1, h2.imp id (fun w => ⟨w.1, hf _ w.1 w.2⟩)⟩
  · rw [← h i (by omega), ← h j hj] at e
    rw [← h i (by omega)]
    exact ok.2 i j hi hj e
theorem okA_cons {al : Nat → Nat → Prop} {q p k : Nat} {fr : Nat → Prop} {a : Nat → Nat} (hq : q ≤ 8) : okA al q p (k + 1) fr a ↔ (al p (a p) ∧ (a p = 8 ∨ (a p < q ∧ fr (a p)))) ∧ okA al q (p + 1) k (fun f => fr f ∧ f ≠ a p) a := by
  have sh : ∀ j, p + 1 + j = p + (j + 1) := fun j => by omega
  constructor
  · intro ok
    refine ⟨ok.1 0 (by omega), fun j hj => ?_, fun i j hi hj e => ?_⟩
    · rw [sh]
      obtain ⟨h1, h2⟩ := ok.1 (j + 1) (by omega)
      refine ⟨h1, ?_⟩
      rcases h2 with w | ⟨w1, w2⟩
      · exact Or.inl w
      · refine Or.inr ⟨w1, w2, fun e => ?_⟩
        have := ok.2 0 (j + 1) (by omega) (by omega) (by rw [Nat.add_zero]; exact e.symm)
        rw [Nat.add_zero] at this
        omega
    · rw [sh, sh] at e
      rw [sh]
      exact ok.2 (i + 1) (j + 1) (by omega) (by omega) e
  · rintro ⟨h0, ok⟩
    refine ⟨fun j hj => ?_, fun i j hi hj e => ?_⟩
    · rcases (show j = 0 ∨ ∃ m, j = m + 1 from by
        cases j with
        | zero => exact Or.inl rfl
        | succ m => exact Or.inr ⟨m, rfl⟩) with rfl | ⟨m, rfl⟩
      · exact h0
      · obtain ⟨h1, h2⟩ := ok.1 m (by omega)
        rw [sh] at h1 h2
        exact ⟨h1, h2.imp id (fun w => ⟨w.1, w.2.1⟩)⟩
    · obtain ⟨m, rfl⟩ : ∃ m, j = m + 1 := ⟨j - 1, by omega⟩
      rcases (show i = 0 ∨ ∃ m, i = m + 1 from by
        cases i with
        | zero => exact Or.inl rfl
        | succ m => exact Or.inr ⟨m, rfl⟩) with rfl | ⟨m2, rfl⟩
      · rw [Nat.add_zero] at e ⊢
        rcases h0.2 with w | w
        · exact w
        · obtain ⟨-, h2⟩ := ok.1 m (by omega)
          rw [sh] at h2
          rcases h2 with w2 | ⟨w1, w2, w3⟩
          · omega
          · exact absurd e.symm w3
      · have := ok.2 m2 m (by omega) (by omega)
        rw [sh, sh] at this
        exact this e
theorem okA_snoc {al : Nat → Nat → Prop} {q p k : Nat} {fr : Nat → Prop} {a : Nat → Nat} (hq : q ≤ 8) : okA al q p (k + 1) fr a ↔ okA al q p k (fun f => fr f ∧ f ≠ a (p + k)) a ∧ (al (p + k) (a (p + k)) ∧ (a (p + k) = 8 ∨ (a (p + k) < q ∧ fr (a (p + k))))) := by
  constructor
  · intro ok
    refine ⟨⟨fun j hj => ?_, fun i j hi hj e => ok.2 i j hi (by omega) e⟩, ok.1 k (by omega)⟩
    obtain ⟨h1, h2⟩ := ok.1 j (by omega)
    refine ⟨h1, ?_⟩
    rcases h2 with w | ⟨w1, w2⟩
    · exact Or.inl w
    · refine Or.inr ⟨w1, w2, fun e => ?_⟩
      have := ok.2 j k hj (by omega) e
      omega
  · rintro ⟨ok, h0⟩
    refine ⟨fun j hj => ?_, fun i j hi hj e => ?_⟩
    · by_cases q2 : j = k
      · subst q2; exact h0
      · obtain ⟨h1, h2⟩ := ok.1 j (by omega)
        exact ⟨h1, h2.imp id (fun w => ⟨w.1, w.2.1⟩)⟩
    · by_cases q2 : j = k
      · subst q2
        obtain ⟨-, h2⟩ := ok.1 i hi
        rcases h2 with w | ⟨w1, w2, w3⟩
        · exact w
        · exact absurd e w3
      · exact ok.2 i j hi (by omega) e
/-- the greatest of b and F j, j < k -/
def mxF (b : Nat) (F : Nat → Nat) : Nat → Nat
  | 0 => b
  | k + 1 => max (mxF b F k) (F k)
theorem mxF_b (b : Nat) (F : Nat → Nat) : ∀ k, b ≤ mxF b F k
  | 0 => Nat.le_refl _
  | k + 1 => by have := mxF_b b F k; rw [mxF]; omega
theorem mxF_ge (b : Nat) (F : Nat → Nat) : ∀ k j, j < k → F j ≤ mxF b F k
  | 0, _, h => absurd h (by omega)
  | k + 1, j, h => by
    rw [mxF]
    by_cases e : j = k
    · subst e; omega
    · have := mxF_ge b F k j (by omega); omega
theorem mxF_at (b : Nat) (F : Nat → Nat) : ∀ k, mxF b F k = b ∨ ∃ j, j < k ∧ mxF b F k = F j
  | 0 => Or.inl rfl
  | k + 1 => by
    rw [mxF]
    by_cases e : F k ≤ mxF b F k
    · rw [Nat.max_eq_left e]
      rcases mxF_at b F k with h | ⟨j, hj, h⟩
      · exact Or.inl h
      · exact Or.inr ⟨j, by omega, h⟩
    · exact Or.inr ⟨k, by omega, by omega⟩
theorem mxF_cong {b : Nat} {F G : Nat → Nat} : ∀ k : Nat, (∀ j, j < k → F j = G j) → mxF b F k = mxF b G k
  | 0, _ => rfl
  | k + 1, h => by rw [mxF, mxF, mxF_cong k (fun j hj => h j (by omega)), h k (by omega)]
/-- the best of h PIECES with FINDS of set S -/
def bst (gn : Nat → Nat → Nat) (q : Nat) : Nat → Nat → Nat
  | 0, _ => 0
  | h + 1, S => mxF (bst gn q h S) (fun f => if S.testBit f = true ∧ 0 < gn h f then bst gn q h (S ^^^ 2 ^ f) + gn h f else 0) q
theorem xor_bit (S f g : Nat) : (S ^^^ 2 ^ f).testBit g = if g = f then !(S.testBit g) else S.testBit g := by
  rw [Nat.testBit_xor, Nat.testBit_two_pow]
  by_cases e : g = f
  · subst e; simp
  · have : ¬ f = g := fun z => e z.symm
    simp [e, this]
theorem or_bit (S f g : Nat) : (S ||| 2 ^ f).testBit g = if g = f then true else S.testBit g := by
  rw [Nat.testBit_or, Nat.testBit_two_pow]
  by_cases e : g = f
  · subst e; simp
  · have : ¬ f = g := fun z => e z.symm
    simp [e, this]
theorem bst_ub {gn : Nat → Nat → Nat} {q : Nat} (hq : q ≤ 8) (h8 : ∀ p, gn p 8 = 0) : ∀ (h S : Nat) (a : Nat → Nat), okA (fun p f => f = 8 ∨ 0 < gn p f) q 0 h (fun f => S.testBit f = true) a → sB (fun p => gn p (a p)) 0 h ≤ bst gn q h S
  | 0, _, _, _ => by rw [sB]; exact Nat.zero_le _
  | h + 1, S, a, ok => by
    obtain ⟨o1, o2, o3⟩ := (okA_snoc hq).mp ok
    rw [Nat.zero_add] at o1 o2 o3
    rw [sB_one, bst]
    rcases o3 with e | ⟨f1, f2⟩
    · have := bst_ub hq h8 h S a (okA_cong (fun f _ w => w.1) (fun _ _ => rfl) o1)
      have b := mxF_b (bst gn q h S) (fun f => if S.testBit f = true ∧ 0 < gn h f then bst gn q h (S ^^^ 2 ^ f) + gn h f else 0) q
      rw [e, h8]
      omega
    · have g0 : 0 < gn h (a h) := by
        rcases o2 with w | w
        · omega
        · exact w
      have := bst_ub hq h8 h (S ^^^ 2 ^ a h) a (okA_cong (fun f _ w => by
        show (S ^^^ 2 ^ a h).testBit f = true
        rw [xor_bit, if_neg w.2]; exact w.1) (fun _ _ => rfl) o1)
      have b := mxF_ge (bst gn q h S) (fun f => if S.testBit f = true ∧ 0 < gn h f then bst gn q h (S ^^^ 2 ^ f) + gn h f else 0) q (a h) f1
      rw [if_pos ⟨f2, g0⟩] at b
      omega
theorem bst_at {gn : Nat → Nat → Nat} {q : Nat} (hq : q ≤ 8) (h8 : ∀ p, gn p 8 = 0) : ∀ (h S : Nat), ∃ a : Nat → Nat, okA (fun p f => f = 8 ∨ 0 < gn p f) q 0 h (fun f => S.testBit f = true) a ∧ sB (fun p => gn p (a p)) 0 h = bst gn q h S
  | 0, _ => ⟨fun _ => 8, ⟨fun j hj => absurd hj (by omega), fun i j _ hj => absurd hj (by omega)⟩, rfl⟩
  | h + 1, S => by
    have none : (∃ a : Nat → Nat, okA (fun p f => f = 8 ∨ 0 < gn p f) q 0 (h + 1) (fun f => S.testBit f = true) a ∧ sB (fun p => gn p (a p)) 0 (h + 1) = bst gn q h S) := by
      obtain ⟨a, ok, e⟩ := bst_at hq h8 h S
      have eh : ∀ j, j < h → a (0 + j) = (fun p => if p = h then 8 else a p) (0 + j) := fun j hj => by
        show _ = if 0 + j = h then 8 else a (0 + j)
        rw [if_neg (by omega)]
      refine ⟨fun p => if p = h then 8 else a p, (okA_snoc hq).mpr ⟨okA_cong (fun f hf w => ⟨w, ?_⟩) eh ok, ?_⟩, ?_⟩
      · rw [Nat.zero_add]; simp; omega
      · rw [Nat.zero_add]; simp
      · rw [sB_one, ← e]
        have : sB (fun p => gn p ((fun p => if p = h then 8 else a p) p)) 0 h = sB (fun p => gn p (a p)) 0 h := sB_cong h 0 (fun j hj => by
          show gn (0 + j) (if 0 + j = h then 8 else a (0 + j)) = _
          rw [if_neg (by omega)])
        rw [this]
        simp [h8]
    rcases mxF_at (bst gn q h S) (fun f => if S.testBit f = true ∧ 0 < gn h f then bst gn q h (S ^^^ 2 ^ f) + gn h f else 0) q with e | ⟨f, hf, e⟩
    · have e2 : bst gn q (h + 1) S = bst gn q h S := by rw [bst]; exact e
      rw [e2]
      exact none
    · have e2 : bst gn q (h + 1) S = (if S.testBit f = true ∧ 0 < gn h f then bst gn q h (S ^^^ 2 ^ f) + gn h f else 0) := by rw [bst]; exact e
      by_cases c : S.testBit f = true ∧ 0 < gn h f
      · rw [if_pos c] at e2
        obtain ⟨a, ok, es⟩ := bst_at hq h8 h (S ^^^ 2 ^ f)
        have eh : ∀ j, j < h → a (0 + j) = (fun p => if p = h then f else a p) (0 + j) := fun j hj => by
          show _ = if 0 + j = h then f else a (0 + j)
          rw [if_neg (by omega)]
        refine ⟨fun p => if p = h then f else a p, (okA_snoc hq).mpr ⟨okA_cong (fun g hg w => ?_) eh ok, ?_⟩, ?_⟩
        · rw [Nat.zero_add]
          have w2 : (S ^^^ 2 ^ f).testBit g = true := w
          rw [xor_bit] at w2
          by_cases e3 : g = f
          · rw [if_pos e3, e3, c.1] at w2
            exact absurd w2 (by decide)
          · rw [if_neg e3] at w2
            exact ⟨w2, by simp; exact e3⟩
        · rw [Nat.zero_add]; simp
          exact ⟨Or.inr c.2, Or.inr ⟨hf, c.1⟩⟩
        · rw [sB_one, e2, ← es]
          have : sB (fun p => gn p ((fun p => if p = h then f else a p) p)) 0 h = sB (fun p => gn p (a p)) 0 h := sB_cong h 0 (fun j hj => by
            show gn (0 + j) (if 0 + j = h then f else a (0 + j)) = _
            rw [if_neg (by omega)])
          rw [this]
          simp
      · rw [if_neg c] at e2
        obtain ⟨a, ok, es⟩ := none
        have b := mxF_b (bst gn q h S) (fun f => if S.testBit f = true ∧ 0 < gn h f then bst gn q h (S ^^^ 2 ^ f) + gn h f else 0) q
        rw [bst] at e2
        refine ⟨a, ok, ?_⟩
        rw [es, bst]
        omega
/-- the least of b and F j, j < k -/
def mnZ (b : Int) (F : Nat → Int) : Nat → Int
  | 0 => b
  | k + 1 => min (mnZ b F k) (F k)
theorem mnZ_b (b : Int) (F : Nat → Int) : ∀ k, mnZ b F k ≤ b
  | 0 => Int.le_refl _
  | k + 1 => by have := mnZ_b b F k; rw [mnZ]; omega
theorem mnZ_le (b : Int) (F : Nat → Int) : ∀ k j, j < k → mnZ b F k ≤ F j
  | 0, _, h => absurd h (by omega)
  | k + 1, j, h => by
    rw [mnZ]
    by_cases e : j = k
    · subst e; omega
    · have := mnZ_le b F k j (by omega); omega
theorem mnZ_at (b : Int) (F : Nat → Int) : ∀ k, mnZ b F k = b ∨ ∃ j, j < k ∧ mnZ b F k = F j
  | 0 => Or.inl rfl
  | k + 1 => by
    rw [mnZ]
    by_cases e : mnZ b F k ≤ F k
    · rw [Int.min_eq_left e]
      rcases mnZ_at b F k with h | ⟨j, hj, h⟩
      · exact Or.inl h
      · exact Or.inr ⟨j, by omega, h⟩
    · exact Or.inr ⟨k, by omega, by omega⟩
/-- the same, of the k last PIECES, with FINDS out of U: none may be taken where nn, FINDS only where their weight is above 0 -/
def jn (wt : Nat → Nat → Nat) (nn : Nat → Bool) (q n : Nat) : Nat → Nat → Int
  | 0, _ => 0
  | k + 1, U => mnZ (if nn (n - (k + 1)) = true then jn wt nn q n k U else 1000000) (fun f => if U.testBit f = false ∧ 0 < wt (n - (k + 1)) f then - (wt (n - (k + 1)) f : Int) + jn wt nn q n k (U ||| 2 ^ f) else 1000000) q
def alJ (wt : Nat → Nat → Nat) (nn : Nat → Bool) (p f : Nat) : Prop := (f = 8 ∧ nn p = true) ∨ (f ≠ 8 ∧ 0 < wt p f)
section jnM
variable {wt : Nat → Nat → Nat} {nn : Nat → Bool} {q n : Nat}
theorem jn_ub (hq : q ≤ 8) (h8 : ∀ p, wt p 8 = 0) : ∀ (k U : Nat) (a : Nat → Nat), k ≤ n → okA (alJ wt nn) q (n - k) k (fun f => U.testBit f = false) a → jn wt nn q n k U ≤ - (sB (fun p => wt p (a p)) (n - k) k : Int)
  | 0, _, _, _, _ => by rw [jn, sB]; decide
  | k + 1, U, a, hk, ok => by
    have en : n - (k + 1) + 1 = n - k := by omega
    obtain ⟨⟨o2, o3⟩, o1⟩ := (okA_cons hq).mp ok
    rw [en] at o1
    rw [sB, jn, en]
    rcases o3 with e | ⟨f1, f2⟩
    · have ih := jn_ub hq h8 k U a (by omega) (okA_cong (fun f _ w => w.1) (fun _ _ => rfl) o1)
      have b := mnZ_b (if nn (n - (k + 1)) = true then jn wt nn q n k U else 1000000) (fun f => if U.testBit f = false ∧ 0 < wt (n - (k + 1)) f then - (wt (n - (k + 1)) f : Int) + jn wt nn q n k (U ||| 2 ^ f) else 1000000) q
      have hn : nn (n - (k + 1)) = true := by
        rcases o2 with w | w
        · exact w.2
        · exact absurd e w.1
      rw [if_pos hn] at b
      rw [if_pos hn, e, h8]
      omega
    · have g0 : 0 < wt (n - (k + 1)) (a (n - (k + 1))) := by
        rcases o2 with w | w
        · omega
        · exact w.2
      have ih := jn_ub hq h8 k (U ||| 2 ^ a (n - (k + 1))) a (by omega) (okA_cong (fun f _ w => by
        show (U ||| 2 ^ a (n - (k + 1))).testBit f = false
        rw [or_bit, if_neg w.2]; exact w.1) (fun _ _ => rfl) o1)
      have b := mnZ_le (if nn (n - (k + 1)) = true then jn wt nn q n k U else 1000000) (fun f => if U.testBit f = false ∧ 0 < wt (n - (k + 1)) f then - (wt (n - (k + 1)) f : Int) + jn wt nn q n k (U ||| 2 ^ f) else 1000000) q _ f1
      simp only [if_pos (And.intro f2 g0)] at b
      omega
theorem jn_at (hq : q ≤ 8) (h8 : ∀ p, wt p 8 = 0) (hw : ∀ p f, wt p f ≤ 1000) : ∀ (k U : Nat), k ≤ n → (1000000 - 1000 * (k : Int) ≤ jn wt nn q n k U) ∨ ∃ a : Nat → Nat, okA (alJ wt nn) q (n - k) k (fun f => U.testBit f = false) a ∧ jn wt nn q n k U = - (sB (fun p => wt p (a p)) (n - k) k : Int)
  | 0, _, _ => Or.inr ⟨fun _ => 8, ⟨fun j hj => absurd hj (by omega), fun i j _ hj => absurd hj (by omega)⟩, by rw [jn, sB]; decide⟩
  | k + 1, U, hk => by
    have en : n - (k + 1) + 1 = n - k := by omega
    have put : ∀ (f V : Nat), (∃ a : Nat → Nat, okA (alJ wt nn) q (n - k) k (fun g => V.testBit g = false) a ∧ jn wt nn q n k V = - (sB (fun p => wt p (a p)) (n - k) k : Int)) → (∀ g, g < q → V.testBit g = false → U.testBit g = false ∧ g ≠ f) → alJ wt nn (n - (k + 1)) f → (f = 8 ∨ (f < q ∧ U.testBit f = false)) → ∃ a : Nat → Nat, okA (alJ wt nn) q (n - (k + 1)) (k + 1) (fun g => U.testBit g = false) a ∧ - (wt (n - (k + 1)) f : Int) + jn wt nn q n k V = - (sB (fun p => wt p (a p)) (n - (k + 1)) (k + 1) : Int) := by
      rintro f V ⟨a, ok, e⟩ hV hal hf
      obtain ⟨b, eh, e0⟩ : ∃ b : Nat → Nat, (∀ j, j < k → a (n - k + j) = b (n - k + j)) ∧ b (n - (k + 1)) = f := ⟨fun p => if p = n - (k + 1) then f else a p, fun j hj => by
        show _ = if n - k + j = n - (k + 1) then f else a (n - k + j)
        rw [if_neg (by omega)], by simp⟩
      refine ⟨b, (okA_cons hq).mpr ⟨?_, ?_⟩, ?_⟩
      · rw [e0]; exact ⟨hal, hf⟩
      · rw [en, e0]
        exact okA_cong hV eh ok
      · rw [sB, en]
        have : sB (fun p => wt p (b p)) (n - k) k = sB (fun p => wt p (a p)) (n - k) k := sB_cong k _ (fun j hj => by
          show wt (n - k + j) (b (n - k + j)) = wt (n - k + j) (a (n - k + j))
          rw [eh j hj])
        rw [this, e, e0]
        omega
    rcases mnZ_at (if nn (n - (k + 1)) = true then jn wt nn q n k U else 1000000) (fun f => if U.testBit f = false ∧ 0 < wt (n - (k + 1)) f then - (wt (n - (k + 1)) f : Int) + jn wt nn q n k (U ||| 2 ^ f) else 1000000) q with e | ⟨f, hf, e⟩
    · have e2 : jn wt nn q n (k + 1) U = (if nn (n - (k + 1)) = true then jn wt nn q n k U else 1000000) := by rw [jn]; exact e
      by_cases hn : nn (n - (k + 1)) = true
      · rw [if_pos hn] at e2
        rcases jn_at hq h8 hw k U (by omega) with w | w
        · left; rw [e2]; omega
        · right
          obtain ⟨a, ok, es⟩ := put 8 U w (fun g hg w => ⟨w, by omega⟩) (Or.inl ⟨rfl, hn⟩) (Or.inl rfl)
          refine ⟨a, ok, ?_⟩
          rw [e2, ← es, h8]
          omega
      · rw [if_neg hn] at e2
        left; omega
    · have e2 : jn wt nn q n (k + 1) U = (if U.testBit f = false ∧ 0 < wt (n - (k + 1)) f then - (wt (n - (k + 1)) f : Int) + jn wt nn q n k (U ||| 2 ^ f) else 1000000) := by rw [jn]; exact e
      by_cases c : U.testBit f = false ∧ 0 < wt (n - (k + 1)) f
      · rw [if_pos c] at e2
        have hwf := hw (n - (k + 1)) f
        rcases jn_at hq h8 hw k (U ||| 2 ^ f) (by omega) with w | w
        · left; rw [e2]; omega
        · right
          obtain ⟨a, ok, es⟩ := put f (U ||| 2 ^ f) w (fun g hg w => by
            rw [or_bit] at w
            by_cases e3 : g = f
            · rw [if_pos e3] at w; exact absurd w (by decide)
            · rw [if_neg e3] at w; exact ⟨w, e3⟩) (Or.inr ⟨by omega, c.2⟩) (Or.inr ⟨hf, c.1⟩)
          exact ⟨a, ok, by rw [e2, ← es]⟩
      · rw [if_neg c] at e2
        left; omega
end jnM
