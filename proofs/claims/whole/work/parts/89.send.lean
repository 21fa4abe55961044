theorem sI_mem {f : Nat → Int} {c : Nat} : ∀ k, (∀ j, j < k → 0 ≤ f j) → c < k → f c ≤ sI f k
  | 0, _, h => absurd h (by omega)
  | k + 1, h0, h => by
    rw [sI]
    have h1 := h0 k (by omega)
    by_cases q : c = k
    · subst q
      have := sI_nn c (fun j hj => h0 j (by omega))
      omega
    · have := sI_mem k (fun j hj => h0 j (by omega)) (by omega : c < k)
      omega
section snd2
variable {n : Nat} {pc : Nat → Nat → Int} {sp0 need u w : Nat → Int} {total : Int} {spareZ unmetZ : Nat → Int} {sentZ : Nat → Nat → Int}
theorem tot_rng {M : Nat} (F : FT M n pc sp0 need sentZ spareZ unmetZ total u w) : 0 ≤ total ∧ total ≤ 400 * sI (fun j => need j) n := by
  have t : ∀ s j, s < M → j < n → 0 ≤ sentZ s j * pc s j ∧ sentZ s j * pc s j ≤ 400 * sentZ s j := fun s j hs hj => by
    have h0 := F.nn s j hs hj
    have p0 := F.du.p0 s j hs hj
    have p1 : 0 ≤ pc s j := p0.1
    refine ⟨Int.mul_nonneg h0 p1, ?_⟩
    by_cases c : 0 < sentZ s j
    · have p4 : pc s j ≤ 400 := p0.2 (F.du.ti s j hs hj c).1
      rw [Int.mul_comm 400]
      exact Int.mul_le_mul_of_nonneg_left p4 h0
    · have : sentZ s j = 0 := by omega
      rw [this]; simp
  rw [← F.cost]
  unfold allC
  refine ⟨sI_nn M (fun s hs => sI_nn n (fun j hj => (t s j hs hj).1)), ?_⟩
  have h1 : sI (fun s => sI (fun j => sentZ s j * pc s j) n) M ≤ sI (fun s => sI (fun j => 400 * sentZ s j) n) M := sI_le M (fun s hs => sI_le n (fun j hj => (t s j hs hj).2))
  rw [sI_swap (fun s j => 400 * sentZ s j)] at h1
  have h2 : sI (fun j => sI (fun s => 400 * sentZ s j) M) n ≤ sI (fun j => 400 * need j) n := sI_le n (fun j hj => by
    show sI (fun s => 400 * sentZ s j) M ≤ 400 * need j
    rw [sI_mull]
    have := F.col j hj
    have := F.un j hj
    omega)
  have h3 : sI (fun j => 400 * need j) n = 400 * sI (fun j => need j) n := sI_mull (fun j => need j) 400 n
  omega
/-- where each DAY needs no more than there is, some piece can go to the event that is next -/
theorem feas {fa bk q : Nat → Int} {rk gh : Nat → Nat} (h : FarOk fa) (hgh : ∀ j, j < n → gh j < 5) (hmono : ∀ i j, i ≤ j → rk i ≤ rk j) (hq : ∀ j, j < n → 0 ≤ q j)
    (F : FT (5 + n) n (pcT fa rk gh) (fun s => if s < 5 then bk s else q (s - 5)) q sentZ spareZ unmetZ total u w) {to : Nat} (hto : to < n) (hu : 0 < unmetZ to) (hlater : ∀ j, to < j → j < n → unmetZ j = q j) (hd : sI (fun j => if rk j = rk to then q j else 0) n ≤ sI (fun a => bk a) 5) : ∃ s, s < 5 + n ∧ pcT fa rk gh s to < NW ∧ 0 < spareZ s := by
  apply Decidable.byContradiction
  intro hno
  have z : ∀ s, s < 5 + n → pcT fa rk gh s to < NW → spareZ s = 0 := fun s hs hp => by
    have h0 := F.sn s hs
    by_cases c : 0 < spareZ s
    · exact absurd ⟨s, hs, hp, c⟩ hno
    · omega
  have hE : NW = 1000000 := rfl
  have zh : ∀ a, a < 5 → spareZ a = 0 := fun a ha => z a (by omega) (by
    rw [pcT_h ha]
    have := wy_rng h (g := rk to + 1) (by omega) ha (hgh to hto)
    omega)
  have ze : ∀ i, i < n → rk i < rk to → spareZ (5 + i) = 0 := fun i hi hr => z (5 + i) (by omega) (by
    rw [pcT_e]
    have := wy_rng h (g := rk to - rk i) (by omega) (hgh i hi) (hgh to hto)
    omega)
  -- what those sources have sent is not more than all that was sent
  have up : sI (fun s => if s < 5 ∨ rk (s - 5) < rk to then (if s < 5 then bk s else q (s - 5)) else 0) (5 + n) ≤ sI (fun s => sI (fun j => sentZ s j) n) (5 + n) := sI_le _ (fun s hs => by
    show (if s < 5 ∨ rk (s - 5) < rk to then (if s < 5 then bk s else q (s - 5)) else 0) ≤ sI (fun j => sentZ s j) n
    have rw1 := F.row s hs
    have rw1 : spareZ s + sI (fun j => sentZ s j) n = if s < 5 then bk s else q (s - 5) := rw1
    have nn := sI_nn n (fun j hj => F.nn s j hs hj)
    by_cases c : s < 5 ∨ rk (s - 5) < rk to
    · rw [if_pos c]
      have : spareZ s = 0 := by
        by_cases c5 : s < 5
        · exact zh s c5
        · obtain ⟨i, rfl⟩ : ∃ i, s = 5 + i := ⟨s - 5, by omega⟩
          have e : 5 + i - 5 = i := by omega
          rw [e] at c
          exact ze i (by omega) (by omega)
      omega
    · rw [if_neg c]; exact nn)
  rw [sI_swap, sI_split] at up
  have e1 : sI (fun s => if s < 5 ∨ rk (s - 5) < rk to then (if s < 5 then bk s else q (s - 5)) else 0) 5 = sI (fun a => bk a) 5 := sI_cong 5 (fun a ha => by
    show (if a < 5 ∨ rk (a - 5) < rk to then (if a < 5 then bk a else q (a - 5)) else 0) = bk a
    rw [if_pos (Or.inl ha), if_pos ha])
  have e2 : sI (fun t => if 5 + t < 5 ∨ rk (5 + t - 5) < rk to then (if 5 + t < 5 then bk (5 + t) else q (5 + t - 5)) else 0) n = sI (fun i => if rk i < rk to then q i else 0) n := sI_cong n (fun i _ => by
    show (if 5 + i < 5 ∨ rk (5 + i - 5) < rk to then (if 5 + i < 5 then bk (5 + i) else q (5 + i - 5)) else 0) = if rk i < rk to then q i else 0
    have e : 5 + i - 5 = i := by omega
    rw [e]
    by_cases c : rk i < rk to
    · rw [if_pos (Or.inr c), if_neg (by omega), if_pos c]
    · rw [if_neg (by omega), if_neg c])
  rw [e1, e2] at up
  have lo : sI (fun j => sI (fun s => sentZ s j) (5 + n)) n < sI (fun j => (if rk j < rk to then q j else 0) + (if rk j = rk to then q j else 0)) n := by
    refine sI_lt (c := to) n (fun j hj => ?_) hto ?_
    · have c1 := F.col j hj
      have u0 := F.un j hj
      have q0 := hq j hj
      show sI (fun s => sentZ s j) (5 + n) ≤ (if rk j < rk to then q j else 0) + (if rk j = rk to then q j else 0)
      by_cases c : to < j
      · have := hlater j c hj
        split <;> split <;> omega
      · have := hmono j to (by omega)
        split <;> split <;> omega
    · have c1 := F.col to hto
      have q0 := hq to hto
      show sI (fun s => sentZ s to) (5 + n) < (if rk to < rk to then q to else 0) + (if rk to = rk to then q to else 0)
      rw [if_neg (by omega), if_pos rfl]
      omega
  rw [sI_add] at lo
  omega
end snd2
