section countM
variable {kd_low kd_high : Nat → Int32} {kd_size : Int32} {wg_cellOf wg_fewest wg_most wg_counts : Nat → Int32} {wg_size m_weighings : Int32} {m_weighHouse m_weighKind m_weighLess m_weighMore m_isDropped : Nat → Int32} {m_kinds : Int32} {m_low m_high : Nat → Int32} {st_booked st_parted m_book m_ledger : Nat → Int32}
variable {ev_day ev_house ev_kind ev_need ev_on : Nat → Int32} {ev_size m_events : Int32} {m_eventDay m_eventHouse m_eventKind m_eventNeed m_isOff : Nat → Int32}
variable {mk_sign mk_weight : Nat → Int32} {mk_pieces mk_finds : Int32} {m_marked m_signs m_weights : Nat → Int32}
variable {br_night br_shift br_pieces : Nat → Int32} {br_size m_breakages : Int32} {m_brokeNight m_brokeShift m_brokeMany : Nat → Int32}
def smI (f : Nat → Int32) : Nat → Int32
  | 0 => 0
  | n + 1 => smI f n + f n
theorem smI_cong {f g : Nat → Int32} : ∀ n : Nat, (∀ j, j < n → f j = g j) → smI f n = smI g n
  | 0, _ => rfl
  | n + 1, h => by rw [smI, smI, smI_cong n (fun j hj => h j (by omega)), h n (by omega)]
theorem sum_loop {X : Int32 → Int32 → Prop} {N : Nat} {f : Nat → Int32} (hstep : ∀ i : Nat, i < N → ∀ a : Int32, X (a + f i) (nI (i + 1)) → X a (nI i)) (hend : X (smI f N) (nI N)) : X 0 0 := by
  have key : ∀ m i : Nat, i + m = N → X (smI f i) (nI i) := by
    intro m
    induction m with
    | zero => intro i hi; have e : i = N := by omega
              rw [e]; exact hend
    | succ m ih => intro i hi; exact hstep i (by omega) _ (ih (i + 1) (by omega))
  exact key N 0 (by omega)
theorem eq_count {C : Prop} (hK : RK kd_low kd_high kd_size m_kinds m_low m_high) (hB : RB st_booked st_parted m_book m_ledger) (hW : RW kd_low kd_high kd_size wg_cellOf wg_fewest wg_most wg_counts wg_size m_weighings m_weighHouse m_weighKind m_weighLess m_weighMore m_isDropped)
    (hE : RE ev_day ev_house ev_kind ev_need ev_on ev_size m_events m_eventDay m_eventHouse m_eventKind m_eventNeed m_isOff) (hM : RM mk_sign mk_weight mk_pieces mk_finds m_marked m_signs m_weights) (hR : RBr br_night br_shift br_pieces br_size m_breakages m_brokeNight m_brokeShift m_brokeMany) (hC : C) (p1 : Int32) :
    P_X10_count (fun r => P_X11_count (fun r2 => ((r = r2 → C) ∧ (¬ r = r2 → False))) p1 m_kinds m_book m_weighings m_isDropped m_events m_isOff m_marked m_breakages) p1 kd_size st_booked wg_counts wg_size ev_on ev_size mk_pieces mk_finds br_size := by
  obtain ⟨rfl, -, -, -, -, -⟩ := hK
  obtain ⟨rfl, -, -, -⟩ := hB
  obtain ⟨rfl, w0, w1, wj, -⟩ := hW
  obtain ⟨⟨rfl, -, -, -, -⟩, e0, e1, ej, -⟩ := hE
  obtain ⟨⟨-, -, rfl, rfl⟩, -, -, -, -⟩ := hM
  obtain ⟨⟨rfl, -, -, -⟩, -, -, -⟩ := hR
  have cmp : ∀ v : Int32, P_X11_count (fun r2 => ((v = r2 → C) ∧ (¬ v = r2 → False))) p1 m_kinds m_book m_weighings m_isDropped m_events m_isOff m_marked m_breakages ↔ P_X11_count (fun r2 => ((v = r2 → C) ∧ (¬ v = r2 → False))) p1 m_kinds m_book m_weighings m_isDropped m_events m_isOff m_marked m_breakages := fun _ => Iff.rfl
  have fin : ∀ v r2 : Int32, v = r2 → ((v = r2 → C) ∧ (¬ v = r2 → False)) := fun v r2 e => ⟨fun _ => hC, fun q => q e⟩
  have s30 : (30 : Int32).toInt = 30 := by decide
  -- the sums of both sides
  have wEq : smI (fun j => if wg_counts j = 0 then 0 else 1) m_weighings.toInt.toNat = smI (fun j => if m_isDropped j = 0 then 1 else 0) m_weighings.toInt.toNat := by
    refine smI_cong _ (fun j hj => ?_)
    rcases (wj j (by omega)).2.2.2.2.2.2.2 with ⟨a, b⟩ | ⟨a, b⟩
    · rw [a, b]; decide
    · rw [a, b]; decide
  have eEq : smI (fun j => if ev_on j = 0 then 0 else 1) m_events.toInt.toNat = smI (fun j => if m_isOff j = 0 then 1 else 0) m_events.toInt.toNat := by
    refine smI_cong _ (fun j hj => ?_)
    rcases (ej j (by omega)).2.2.2.2 with ⟨a, b⟩ | ⟨a, b⟩
    · rw [a, b]; decide
    · rw [a, b]; decide
  have wX : ∀ post : Int32 → Prop, post (smI (fun j => if wg_counts j = 0 then 0 else 1) m_weighings.toInt.toNat) → P_X9_counting post wg_counts m_weighings := by
    intro post hp
    unfold P_X9_counting
    intro X hX
    refine sum_loop (N := m_weighings.toInt.toNat) (f := fun j => if wg_counts j = 0 then 0 else 1) (fun i hi a hx => ?_) ?_
    · apply hX
      have g : ¬ m_weighings.toInt ≤ (i : Int) := by omega
      simp +decide only [nIle (i := i) (by omega), g, nIv (i := i) (N := 40) (by omega) (by omega), nIc (i := i) (by omega), nI_1 i, within_iff, in_iff, all_eq, bz_0, bz_1, bzT, bzF, nem, bz_or, i64, Int32.reduceToInt, Int64.reduceToInt, and_true, true_and, and_self, not_true_eq_false, not_false_eq_true, false_implies, true_implies, eq_self, implies_true, false_and, and_false, Classical.not_not, Int.reduceLT, Int.reduceLE, Int.reduceEq, reduceIte, reduceCtorEq, and_imp, imp_false, false_or, or_false, true_or, or_true]
      exact hx
    · apply hX
      have g : m_weighings.toInt ≤ (m_weighings.toInt.toNat : Int) := by omega
      simp +decide only [nIle (i := m_weighings.toInt.toNat) (by omega), g, within_iff, in_iff, all_eq, bz_0, bz_1, bzT, bzF, nem, bz_or, i64, Int32.reduceToInt, Int64.reduceToInt, and_true, true_and, and_self, not_true_eq_false, not_false_eq_true, false_implies, true_implies, eq_self, implies_true, false_and, and_false, Classical.not_not, Int.reduceLT, Int.reduceLE, Int.reduceEq, reduceIte, reduceCtorEq, and_imp, imp_false, false_or, or_false, true_or, or_true]
      exact hp
  have eX : ∀ post : Int32 → Prop, post (smI (fun j => if ev_on j = 0 then 0 else 1) m_events.toInt.toNat) → P_X3_counting post ev_on m_events := by
    intro post hp
    unfold P_X3_counting
    intro X hX
    refine sum_loop (N := m_events.toInt.toNat) (f := fun j => if ev_on j = 0 then 0 else 1) (fun i hi a hx => ?_) ?_
    · apply hX
      have g : ¬ m_events.toInt ≤ (i : Int) := by omega
      simp +decide only [nIle (i := i) (by omega), g, nIv (i := i) (N := 12) (by omega) (by omega), nIc (i := i) (by omega), nI_1 i, within_iff, in_iff, all_eq, bz_0, bz_1, bzT, bzF, nem, bz_or, i64, Int32.reduceToInt, Int64.reduceToInt, and_true, true_and, and_self, not_true_eq_false, not_false_eq_true, false_implies, true_implies, eq_self, implies_true, false_and, and_false, Classical.not_not, Int.reduceLT, Int.reduceLE, Int.reduceEq, reduceIte, reduceCtorEq, and_imp, imp_false, false_or, or_false, true_or, or_true]
      exact hx
    · apply hX
      have g : m_events.toInt ≤ (m_events.toInt.toNat : Int) := by omega
      simp +decide only [nIle (i := m_events.toInt.toNat) (by omega), g, within_iff, in_iff, all_eq, bz_0, bz_1, bzT, bzF, nem, bz_or, i64, Int32.reduceToInt, Int64.reduceToInt, and_true, true_and, and_self, not_true_eq_false, not_false_eq_true, false_implies, true_implies, eq_self, implies_true, false_and, and_false, Classical.not_not, Int.reduceLT, Int.reduceLE, Int.reduceEq, reduceIte, reduceCtorEq, and_imp, imp_false, false_or, or_false, true_or, or_true]
      exact hp
  have bX : ∀ post : Int32 → Prop, post (smI m_book 30) → P_X8_bookedInAll post m_book := by
    intro post hp
    unfold P_X8_bookedInAll
    intro X hX
    refine sum_loop (N := 30) (f := m_book) (fun i hi a hx => ?_) ?_
    · apply hX
      have g : ¬ (30 : Int) ≤ (i : Int) := by omega
      simp +decide only [nIle (i := i) (by omega), s30, g, nIv (i := i) (N := 30) (by omega) (by omega), nIc (i := i) (by omega), nI_1 i, within_iff, in_iff, all_eq, bz_0, bz_1, bzT, bzF, nem, bz_or, i64, Int32.reduceToInt, Int64.reduceToInt, and_true, true_and, and_self, not_true_eq_false, not_false_eq_true, false_implies, true_implies, eq_self, implies_true, false_and, and_false, Classical.not_not, Int.reduceLT, Int.reduceLE, Int.reduceEq, reduceIte, reduceCtorEq, and_imp, imp_false, false_or, or_false, true_or, or_true]
      exact hx
    · apply hX
      have g : (30 : Int32) ≤ nI 30 := by decide
      simp +decide only [g, within_iff, in_iff, all_eq, bz_0, bz_1, bzT, bzF, nem, bz_or, i64, Int32.reduceToInt, Int64.reduceToInt, and_true, true_and, and_self, not_true_eq_false, not_false_eq_true, false_implies, true_implies, eq_self, implies_true, false_and, and_false, Classical.not_not, Int.reduceLT, Int.reduceLE, Int.reduceEq, reduceIte, reduceCtorEq, and_imp, imp_false, false_or, or_false, true_or, or_true]
      exact hp
  have mX : ∀ v : Int32, (p1 = 0 → v = m_kinds) → (p1 = 1 → v = smI (fun j => if m_isDropped j = 0 then 1 else 0) m_weighings.toInt.toNat) → (p1 = 2 → v = smI (fun j => if m_isOff j = 0 then 1 else 0) m_events.toInt.toNat) → (p1 = 3 → v = m_marked 0) → (p1 = 4 → v = m_marked 1) → (p1 = 5 → v = m_breakages) → (p1 = 6 → v = smI m_book 30) → (p1.toInt < 0 ∨ 6 < p1.toInt → v = -2) → P_X11_count (fun r2 => ((v = r2 → C) ∧ (¬ v = r2 → False))) p1 m_kinds m_book m_weighings m_isDropped m_events m_isOff m_marked m_breakages := by
    intro v a0 a1 a2 a3 a4 a5 a6 a7
    unfold P_X11_count
    intro X51 X86 X140 h51 h86 h140
    refine ⟨fun e => fin _ _ (a0 e), fun e => ?_, fun e => ?_, fun e => ⟨v02, fin _ _ (a3 e)⟩, fun e => ⟨v12, fin _ _ (a4 e)⟩, fun e => fin _ _ (a5 e), fun e => ?_, fun e => fin _ _ (a7 e)⟩
    · refine sum_loop (N := m_weighings.toInt.toNat) (f := fun j => if m_isDropped j = 0 then 1 else 0) (fun i hi a hx => ?_) ?_
      · apply h51
        have g : ¬ m_weighings.toInt ≤ (i : Int) := by omega
        simp +decide only [nIle (i := i) (by omega), g, nIv (i := i) (N := 40) (by omega) (by omega), nIc (i := i) (by omega), nI_1 i, within_iff, in_iff, all_eq, bz_0, bz_1, bzT, bzF, nem, bz_or, i64, Int32.reduceToInt, Int64.reduceToInt, and_true, true_and, and_self, not_true_eq_false, not_false_eq_true, false_implies, true_implies, eq_self, implies_true, false_and, and_false, Classical.not_not, Int.reduceLT, Int.reduceLE, Int.reduceEq, reduceIte, reduceCtorEq, and_imp, imp_false, false_or, or_false, true_or, or_true]
        exact hx
      · apply h51
        have g : m_weighings.toInt ≤ (m_weighings.toInt.toNat : Int) := by omega
        simp +decide only [nIle (i := m_weighings.toInt.toNat) (by omega), g, a1 e, within_iff, in_iff, all_eq, bz_0, bz_1, bzT, bzF, nem, bz_or, i64, Int32.reduceToInt, Int64.reduceToInt, and_true, true_and, and_self, not_true_eq_false, not_false_eq_true, false_implies, true_implies, eq_self, implies_true, false_and, and_false, Classical.not_not, Int.reduceLT, Int.reduceLE, Int.reduceEq, reduceIte, reduceCtorEq, and_imp, imp_false, false_or, or_false, true_or, or_true]
        exact hC
    · refine sum_loop (N := m_events.toInt.toNat) (f := fun j => if m_isOff j = 0 then 1 else 0) (fun i hi a hx => ?_) ?_
      · apply h86
        have g : ¬ m_events.toInt ≤ (i : Int) := by omega
        simp +decide only [nIle (i := i) (by omega), g, nIv (i := i) (N := 12) (by omega) (by omega), nIc (i := i) (by omega), nI_1 i, within_iff, in_iff, all_eq, bz_0, bz_1, bzT, bzF, nem, bz_or, i64, Int32.reduceToInt, Int64.reduceToInt, and_true, true_and, and_self, not_true_eq_false, not_false_eq_true, false_implies, true_implies, eq_self, implies_true, false_and, and_false, Classical.not_not, Int.reduceLT, Int.reduceLE, Int.reduceEq, reduceIte, reduceCtorEq, and_imp, imp_false, false_or, or_false, true_or, or_true]
        exact hx
      · apply h86
        have g : m_events.toInt ≤ (m_events.toInt.toNat : Int) := by omega
        simp +decide only [nIle (i := m_events.toInt.toNat) (by omega), g, a2 e, within_iff, in_iff, all_eq, bz_0, bz_1, bzT, bzF, nem, bz_or, i64, Int32.reduceToInt, Int64.reduceToInt, and_true, true_and, and_self, not_true_eq_false, not_false_eq_true, false_implies, true_implies, eq_self, implies_true, false_and, and_false, Classical.not_not, Int.reduceLT, Int.reduceLE, Int.reduceEq, reduceIte, reduceCtorEq, and_imp, imp_false, false_or, or_false, true_or, or_true]
        exact hC
    · refine sum_loop (N := 30) (f := m_book) (fun i hi a hx => ?_) ?_
      · apply h140
        have g : ¬ (30 : Int) ≤ (i : Int) := by omega
        simp +decide only [nIle (i := i) (by omega), s30, g, nIv (i := i) (N := 30) (by omega) (by omega), nIc (i := i) (by omega), nI_1 i, within_iff, in_iff, all_eq, bz_0, bz_1, bzT, bzF, nem, bz_or, i64, Int32.reduceToInt, Int64.reduceToInt, and_true, true_and, and_self, not_true_eq_false, not_false_eq_true, false_implies, true_implies, eq_self, implies_true, false_and, and_false, Classical.not_not, Int.reduceLT, Int.reduceLE, Int.reduceEq, reduceIte, reduceCtorEq, and_imp, imp_false, false_or, or_false, true_or, or_true]
        exact hx
      · apply h140
        have g : (30 : Int32) ≤ nI 30 := by decide
        simp +decide only [g, a6 e, within_iff, in_iff, all_eq, bz_0, bz_1, bzT, bzF, nem, bz_or, i64, Int32.reduceToInt, Int64.reduceToInt, and_true, true_and, and_self, not_true_eq_false, not_false_eq_true, false_implies, true_implies, eq_self, implies_true, false_and, and_false, Classical.not_not, Int.reduceLT, Int.reduceLE, Int.reduceEq, reduceIte, reduceCtorEq, and_imp, imp_false, false_or, or_false, true_or, or_true]
        exact hC
  have lit01 : ∀ a b : Int32, a ≠ b → p1 = a → p1 = b → False := fun a b h e f => h (e.symm.trans f)
  unfold P_X10_count
  refine ⟨fun e => ?_, fun e => wX _ ?_, fun e => eX _ ?_, fun e => ?_, fun e => ?_, fun e => ?_, fun e => bX _ ?_, fun e => ?_⟩
  · exact mX _ (fun _ => rfl) (fun f => (lit01 _ _ (by decide) e f).elim) (fun f => (lit01 _ _ (by decide) e f).elim) (fun f => (lit01 _ _ (by decide) e f).elim) (fun f => (lit01 _ _ (by decide) e f).elim) (fun f => (lit01 _ _ (by decide) e f).elim) (fun f => (lit01 _ _ (by decide) e f).elim) (fun f => by rw [e] at f; exact absurd f (by decide))
  · exact mX _ (fun f => (lit01 _ _ (by decide) e f).elim) (fun _ => wEq) (fun f => (lit01 _ _ (by decide) e f).elim) (fun f => (lit01 _ _ (by decide) e f).elim) (fun f => (lit01 _ _ (by decide) e f).elim) (fun f => (lit01 _ _ (by decide) e f).elim) (fun f => (lit01 _ _ (by decide) e f).elim) (fun f => by rw [e] at f; exact absurd f (by decide))
  · exact mX _ (fun f => (lit01 _ _ (by decide) e f).elim) (fun f => (lit01 _ _ (by decide) e f).elim) (fun _ => eEq) (fun f => (lit01 _ _ (by decide) e f).elim) (fun f => (lit01 _ _ (by decide) e f).elim) (fun f => (lit01 _ _ (by decide) e f).elim) (fun f => (lit01 _ _ (by decide) e f).elim) (fun f => by rw [e] at f; exact absurd f (by decide))
  · exact mX _ (fun f => (lit01 _ _ (by decide) e f).elim) (fun f => (lit01 _ _ (by decide) e f).elim) (fun f => (lit01 _ _ (by decide) e f).elim) (fun _ => rfl) (fun f => (lit01 _ _ (by decide) e f).elim) (fun f => (lit01 _ _ (by decide) e f).elim) (fun f => (lit01 _ _ (by decide) e f).elim) (fun f => by rw [e] at f; exact absurd f (by decide))
  · exact mX _ (fun f => (lit01 _ _ (by decide) e f).elim) (fun f => (lit01 _ _ (by decide) e f).elim) (fun f => (lit01 _ _ (by decide) e f).elim) (fun f => (lit01 _ _ (by decide) e f).elim) (fun _ => rfl) (fun f => (lit01 _ _ (by decide) e f).elim) (fun f => (lit01 _ _ (by decide) e f).elim) (fun f => by rw [e] at f; exact absurd f (by decide))
  · exact mX _ (fun f => (lit01 _ _ (by decide) e f).elim) (fun f => (lit01 _ _ (by decide) e f).elim) (fun f => (lit01 _ _ (by decide) e f).elim) (fun f => (lit01 _ _ (by decide) e f).elim) (fun f => (lit01 _ _ (by decide) e f).elim) (fun _ => rfl) (fun f => (lit01 _ _ (by decide) e f).elim) (fun f => by rw [e] at f; exact absurd f (by decide))
  · exact mX _ (fun f => (lit01 _ _ (by decide) e f).elim) (fun f => (lit01 _ _ (by decide) e f).elim) (fun f => (lit01 _ _ (by decide) e f).elim) (fun f => (lit01 _ _ (by decide) e f).elim) (fun f => (lit01 _ _ (by decide) e f).elim) (fun f => (lit01 _ _ (by decide) e f).elim) (fun _ => rfl) (fun f => by rw [e] at f; exact absurd f (by decide))
  · exact mX _ (fun f => by rw [f] at e; exact absurd e (by decide)) (fun f => by rw [f] at e; exact absurd e (by decide)) (fun f => by rw [f] at e; exact absurd e (by decide)) (fun f => by rw [f] at e; exact absurd e (by decide)) (fun f => by rw [f] at e; exact absurd e (by decide)) (fun f => by rw [f] at e; exact absurd e (by decide)) (fun f => by rw [f] at e; exact absurd e (by decide)) (fun _ => rfl)
end countM
