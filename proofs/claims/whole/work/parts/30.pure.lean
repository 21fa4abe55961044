/-! PURE BASE: tests as truth values, numbers as integers -/
def bz (c : Prop) [Decidable c] : Int32 := if c then 1 else 0
theorem bz_t {c : Prop} [Decidable c] (h : c) : bz c = 1 := if_pos h
theorem bz_f {c : Prop} [Decidable c] (h : ¬ c) : bz c = 0 := if_neg h
theorem bz_0 (c : Prop) [Decidable c] : (bz c = 0) ↔ ¬ c := by
  by_cases h : c
  · rw [bz_t h]; exact ⟨fun e => absurd e (by decide), fun e => absurd h e⟩
  · rw [bz_f h]; exact ⟨fun _ => h, fun _ => rfl⟩
theorem bz_1 (c : Prop) [Decidable c] : (bz c = 1) ↔ c := by
  by_cases h : c
  · rw [bz_t h]; exact ⟨fun _ => h, fun _ => rfl⟩
  · rw [bz_f h]; exact ⟨fun e => absurd e (by decide), fun e => absurd e h⟩
theorem bzT {i : Decidable True} : @bz True i = 1 := @bz_t True i trivial
theorem bzF {i : Decidable False} : @bz False i = 0 := @bz_f False i (fun h => h)
theorem nem (c : Prop) : (¬ c ∨ c) ↔ True := iff_true_intro ((Classical.em c).symm)
theorem bz_or (c : Prop) [Decidable c] : (bz c = 0 ∨ bz c = 1) ↔ True := by
  by_cases h : c
  · simp [bz_t h]
  · simp [bz_f h]
theorem lg_lt (x y : Int64) : (lg_cmp x y < 0) ↔ x.toInt < y.toInt := by
  unfold lg_cmp
  rw [← fa_lt64]
  split
  · rename_i h
    constructor
    · intro h2; exact absurd h2 (by decide)
    · intro h2; rw [fa_lt64] at h2; rw [gt_iff_lt, fa_lt64] at h; omega
  · split
    · rename_i h h1
      subst h1
      constructor
      · intro h2; exact absurd h2 (by decide)
      · intro h2; rw [fa_lt64] at h2; omega
    · rename_i h h1
      constructor
      · intro _; rw [gt_iff_lt, fa_lt64] at h; rw [fa_eq64] at h1; rw [fa_lt64]; omega
      · intro _; decide
theorem lg_gt (x y : Int64) : (0 < lg_cmp x y) ↔ y.toInt < x.toInt := by
  unfold lg_cmp
  rw [← fa_lt64]
  split
  · rename_i h; exact ⟨fun _ => h, fun _ => by decide⟩
  · rename_i h
    refine ⟨fun h2 => ?_, fun h2 => absurd h2 h⟩
    split at h2
    · exact absurd h2 (by decide)
    · exact absurd h2 (by decide)
theorem i64 (x : Int32) : x.toInt64.toInt = x.toInt := by simp
theorem within_iff (post : Int32 → Prop) (v lo hi : Int32) : P_X10_within post v lo hi ↔ post (bz (lo.toInt ≤ v.toInt ∧ v.toInt ≤ hi.toInt)) := by
  have e : (if v < lo then (0 : Int32) else (if hi < v then (0 : Int32) else (1 : Int32))) = bz (lo.toInt ≤ v.toInt ∧ v.toInt ≤ hi.toInt) := by
    by_cases h1 : v < lo
    · rw [if_pos h1, bz_f (by rw [fa_lt] at h1; omega)]
    · rw [if_neg h1]
      by_cases h2 : hi < v
      · rw [if_pos h2, bz_f (by rw [fa_lt] at h2; omega)]
      · rw [if_neg h2, bz_t (by rw [fa_lt] at h1 h2; omega)]
  unfold P_X10_within
  rw [e]
  exact ⟨fun h => h _ rfl, fun h _ e => e ▸ h⟩
theorem in_iff (post : Int32 → Prop) (v lo hi : Int64) : P_X11_in post v lo hi ↔ post (bz (lo.toInt ≤ v.toInt ∧ v.toInt ≤ hi.toInt)) := by
  have e : (if (lg_cmp v lo) < (0 : Int32) then (0 : Int32) else (if (0 : Int32) < (lg_cmp v hi) then (0 : Int32) else (1 : Int32))) = bz (lo.toInt ≤ v.toInt ∧ v.toInt ≤ hi.toInt) := by
    by_cases h1 : (lg_cmp v lo) < (0 : Int32)
    · rw [if_pos h1, bz_f (by rw [lg_lt] at h1; omega)]
    · rw [if_neg h1]
      by_cases h2 : (0 : Int32) < (lg_cmp v hi)
      · rw [if_pos h2, bz_f (by rw [lg_gt] at h2; omega)]
      · rw [if_neg h2, bz_t (by rw [lg_lt] at h1; rw [lg_gt] at h2; omega)]
  unfold P_X11_in
  rw [e]
  exact ⟨fun h => h _ rfl, fun h _ e => e ▸ h⟩
theorem all_eq {α : Type} (e : α) (P : α → Prop) : (∀ y : α, y = e → P y) ↔ P e := ⟨fun h => h e rfl, fun h y hy => hy ▸ h⟩
theorem cl (x : Int32) : x.toNatClampNeg = x.toInt.toNat := rfl
theorem add1 {x : Int32} (h : x.toInt < 2147483647) : (x + 1).toInt = x.toInt + 1 := by
  have := fb_rng x
  have h1 : (1 : Int32).toInt = 1 := by decide
  rw [fb_addI (by omega) (by omega), h1]
theorem sub1 {x : Int32} (h : -2147483648 < x.toInt) : (x - 1).toInt = x.toInt - 1 := by
  have := fb_rng x
  have h1 : (1 : Int32).toInt = 1 := by decide
  rw [fb_subI (by omega) (by omega), h1]
theorem add1_sub1 (x : Int32) : x + 1 - 1 = x := by
  rw [fa_eq]
  simp
theorem nar0 : vp_nar .boolean 0 = 0 := by decide
theorem nar1 : vp_nar .boolean 1 = 1 := by decide
theorem upd_at (f : Nat → Int32) (k : Nat) (x : Int32) (j : Nat) : upd f k x j = if j = k then x else f j := rfl
