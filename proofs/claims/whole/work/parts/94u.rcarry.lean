/-! THE REFERENCE'S RUNS SAVED AND PUT BACK: all rows -/
def IA0 (s0 s : Q_S) (k i : Int) : Prop := (s.1 = s0.1 ∧ s.2.1 = s0.2.1 ∧ s.2.2.1 = s0.2.2.1) ∧ (∀ a j, a ≠ 61 → a ≠ 55 → a ≠ 56 → a ≠ 57 → a ≠ 59 → a ≠ 60 → q_I s a j = q_I s0 a j) ∧ (∀ a j, a ≠ 58 → q_L s a j = q_L s0 a j) ∧
  (∀ x, 0 ≤ x → x < i → q_I s 61 x = q_I s0 75 (6144 * k + x) ∧ q_L s 58 x = q_L s0 74 (6144 * k + x) ∧ q_I s 55 x = q_I s0 73 (5 * (6144 * k + x)) ∧ q_I s 56 x = q_I s0 73 (5 * (6144 * k + x) + 1) ∧ q_I s 57 x = q_I s0 73 (5 * (6144 * k + x) + 2) ∧ q_I s 59 x = q_I s0 73 (5 * (6144 * k + x) + 3) ∧ q_I s 60 x = q_I s0 73 (5 * (6144 * k + x) + 4))
def IA1 (s0 s : Q_S) (k i : Int) : Prop := (s.1 = s0.1 ∧ s.2.1 = s0.2.1 ∧ s.2.2.1 = s0.2.2.1) ∧ (∀ a j, a ≠ 75 → a ≠ 73 → q_I s a j = q_I s0 a j) ∧ (∀ a j, a ≠ 74 → q_L s a j = q_L s0 a j) ∧
  (∀ j, j < 6144 * k ∨ 6144 * k + 6144 ≤ j → q_I s 75 j = q_I s0 75 j ∧ q_L s 74 j = q_L s0 74 j) ∧ (∀ j, j < 30720 * k ∨ 30720 * k + 30720 ≤ j → q_I s 73 j = q_I s0 73 j) ∧
  (∀ x, 0 ≤ x → x < i → q_I s 75 (6144 * k + x) = q_I s0 61 x ∧ q_L s 74 (6144 * k + x) = q_L s0 58 x ∧ q_I s 73 (5 * (6144 * k + x)) = q_I s0 55 x ∧ q_I s 73 (5 * (6144 * k + x) + 1) = q_I s0 56 x ∧ q_I s 73 (5 * (6144 * k + x) + 2) = q_I s0 57 x ∧ q_I s 73 (5 * (6144 * k + x) + 3) = q_I s0 59 x ∧ q_I s 73 (5 * (6144 * k + x) + 4) = q_I s0 60 x)
def IB0 (s0 s : Q_S) (k i : Int) : Prop := (s.1 = s0.1 ∧ s.2.1 = s0.2.1 ∧ s.2.2.1 = s0.2.2.1) ∧ (∀ a j, a ≠ 69 → a ≠ 62 → a ≠ 63 → a ≠ 64 → a ≠ 65 → q_I s a j = q_I s0 a j) ∧ (∀ a j, a ≠ 66 → a ≠ 67 → a ≠ 68 → q_L s a j = q_L s0 a j) ∧
  (∀ x, 0 ≤ x → x < i → q_I s 69 x = q_I s0 78 (104 * k + x) ∧ q_I s 62 x = q_I s0 76 (4 * (104 * k + x)) ∧ q_I s 63 x = q_I s0 76 (4 * (104 * k + x) + 1) ∧ q_I s 64 x = q_I s0 76 (4 * (104 * k + x) + 2) ∧ q_I s 65 x = q_I s0 76 (4 * (104 * k + x) + 3) ∧ q_L s 66 x = q_L s0 77 (3 * (104 * k + x)) ∧ q_L s 67 x = q_L s0 77 (3 * (104 * k + x) + 1) ∧ q_L s 68 x = q_L s0 77 (3 * (104 * k + x) + 2))
def IB1 (s0 s : Q_S) (k i : Int) : Prop := (s.1 = s0.1 ∧ s.2.1 = s0.2.1 ∧ s.2.2.1 = s0.2.2.1) ∧ (∀ a j, a ≠ 78 → a ≠ 76 → q_I s a j = q_I s0 a j) ∧ (∀ a j, a ≠ 77 → q_L s a j = q_L s0 a j) ∧
  (∀ j, j < 104 * k ∨ 104 * k + 104 ≤ j → q_I s 78 j = q_I s0 78 j) ∧ (∀ j, j < 416 * k ∨ 416 * k + 416 ≤ j → q_I s 76 j = q_I s0 76 j) ∧ (∀ j, j < 312 * k ∨ 312 * k + 312 ≤ j → q_L s 77 j = q_L s0 77 j) ∧
  (∀ x, 0 ≤ x → x < i → q_I s 78 (104 * k + x) = q_I s0 69 x ∧ q_I s 76 (4 * (104 * k + x)) = q_I s0 62 x ∧ q_I s 76 (4 * (104 * k + x) + 1) = q_I s0 63 x ∧ q_I s 76 (4 * (104 * k + x) + 2) = q_I s0 64 x ∧ q_I s 76 (4 * (104 * k + x) + 3) = q_I s0 65 x ∧ q_L s 77 (3 * (104 * k + x)) = q_L s0 66 x ∧ q_L s 77 (3 * (104 * k + x) + 1) = q_L s0 67 x ∧ q_L s 77 (3 * (104 * k + x) + 2) = q_L s0 68 x)
section RCB
variable {o : X_O} {s0 s : Q_S} {k i : Int}
theorem IA0.st (h : IA0 s0 s k i) (i0 : 0 ≤ i) : IA0 s0 (cF0 s k i) k (i + 1) := by
  obtain ⟨h1, h2, h3, h4⟩ := h
  unfold cF0
  refine ⟨h1, fun a j a1 a2 a3 a4 a5 a6 => ?_, fun a j a1 => ?_, fun x x0 x1 => ?_⟩
  · simp only [q_I_si, q_I_sl, a1, a2, a3, a4, a5, a6, false_and, if_false]
    exact h2 a j a1 a2 a3 a4 a5 a6
  · simp only [q_L_si, q_L_sl, a1, false_and, if_false]
    exact h3 a j a1
  · by_cases z : x = i
    · subst z
      simp only [q_I_si, q_I_sl, q_L_si, q_L_sl, true_and, and_true, if_true]
      repeat (first | rw [if_pos (by omega)] | rw [if_neg (by omega)])
      exact ⟨h2 75 _ (by decide) (by decide) (by decide) (by decide) (by decide) (by decide), h3 74 _ (by decide), h2 73 _ (by decide) (by decide) (by decide) (by decide) (by decide) (by decide), h2 73 _ (by decide) (by decide) (by decide) (by decide) (by decide) (by decide), h2 73 _ (by decide) (by decide) (by decide) (by decide) (by decide) (by decide), h2 73 _ (by decide) (by decide) (by decide) (by decide) (by decide) (by decide), h2 73 _ (by decide) (by decide) (by decide) (by decide) (by decide) (by decide)⟩
    · simp only [q_I_si, q_I_sl, q_L_si, q_L_sl, true_and, and_true, if_true]
      repeat rw [if_neg (by omega)]
      exact h4 x x0 (by omega)
theorem IA1.st (h : IA1 s0 s k i) (i0 : 0 ≤ i ∧ i < 6144) : IA1 s0 (cF1 s k i) k (i + 1) := by
  obtain ⟨h1, h2, h3, h5, h6, h4⟩ := h
  unfold cF1
  refine ⟨h1, fun a j a1 a2 => ?_, fun a j a1 => ?_, fun j hj => ?_, fun j hj => ?_, fun x x0 x1 => ?_⟩
  · simp only [q_I_si, q_I_sl, a1, a2, false_and, if_false]
    exact h2 a j a1 a2
  · simp only [q_L_si, q_L_sl, a1, false_and, if_false]
    exact h3 a j a1
  · simp only [q_I_si, q_I_sl, q_L_si, q_L_sl, true_and, and_true, if_true]
    repeat rw [if_neg (by omega)]
    exact h5 j hj
  · simp only [q_I_si, q_I_sl]
    repeat rw [if_neg (by omega)]
    exact h6 j hj
  · by_cases z : x = i
    · subst z
      simp only [q_I_si, q_I_sl, q_L_si, q_L_sl, true_and, and_true, if_true]
      repeat (first | rw [if_pos (by omega)] | rw [if_neg (by omega)])
      exact ⟨h2 61 _ (by decide) (by decide), h3 58 _ (by decide), h2 55 _ (by decide) (by decide), h2 56 _ (by decide) (by decide), h2 57 _ (by decide) (by decide), h2 59 _ (by decide) (by decide), h2 60 _ (by decide) (by decide)⟩
    · simp only [q_I_si, q_I_sl, q_L_si, q_L_sl, true_and, and_true, if_true]
      repeat rw [if_neg (by omega)]
      exact h4 x x0 (by omega)
theorem IB0.st (h : IB0 s0 s k i) (i0 : 0 ≤ i) : IB0 s0 (cH0 s k i) k (i + 1) := by
  obtain ⟨h1, h2, h3, h4⟩ := h
  unfold cH0
  refine ⟨h1, fun a j a1 a2 a3 a4 a5 => ?_, fun a j a1 a2 a3 => ?_, fun x x0 x1 => ?_⟩
  · simp only [q_I_si, q_I_sl, a1, a2, a3, a4, a5, false_and, if_false]
    exact h2 a j a1 a2 a3 a4 a5
  · simp only [q_L_si, q_L_sl, a1, a2, a3, false_and, if_false]
    exact h3 a j a1 a2 a3
  · by_cases z : x = i
    · subst z
      simp only [q_I_si, q_I_sl, q_L_si, q_L_sl, true_and, and_true, if_true]
      repeat (first | rw [if_pos (by omega)] | rw [if_neg (by omega)])
      exact ⟨h2 78 _ (by decide) (by decide) (by decide) (by decide) (by decide), h2 76 _ (by decide) (by decide) (by decide) (by decide) (by decide), h2 76 _ (by decide) (by decide) (by decide) (by decide) (by decide), h2 76 _ (by decide) (by decide) (by decide) (by decide) (by decide), h2 76 _ (by decide) (by decide) (by decide) (by decide) (by decide), h3 77 _ (by decide) (by decide) (by decide), h3 77 _ (by decide) (by decide) (by decide), h3 77 _ (by decide) (by decide) (by decide)⟩
    · simp only [q_I_si, q_I_sl, q_L_si, q_L_sl, true_and, and_true, if_true]
      repeat rw [if_neg (by omega)]
      exact h4 x x0 (by omega)
theorem IB1.st (h : IB1 s0 s k i) (i0 : 0 ≤ i ∧ i < 104) : IB1 s0 (cH1 s k i) k (i + 1) := by
  obtain ⟨h1, h2, h3, h5, h6, h7, h4⟩ := h
  unfold cH1
  refine ⟨h1, fun a j a1 a2 => ?_, fun a j a1 => ?_, fun j hj => ?_, fun j hj => ?_, fun j hj => ?_, fun x x0 x1 => ?_⟩
  · simp only [q_I_si, q_I_sl, a1, a2, false_and, if_false]
    exact h2 a j a1 a2
  · simp only [q_L_si, q_L_sl, a1, false_and, if_false]
    exact h3 a j a1
  · simp only [q_I_si, q_I_sl]
    repeat rw [if_neg (by omega)]
    exact h5 j hj
  · simp only [q_I_si, q_I_sl]
    repeat rw [if_neg (by omega)]
    exact h6 j hj
  · simp only [q_L_si, q_L_sl]
    repeat rw [if_neg (by omega)]
    exact h7 j hj
  · by_cases z : x = i
    · subst z
      simp only [q_I_si, q_I_sl, q_L_si, q_L_sl, true_and, and_true, if_true]
      repeat (first | rw [if_pos (by omega)] | rw [if_neg (by omega)])
      exact ⟨h2 69 _ (by decide) (by decide), h2 62 _ (by decide) (by decide), h2 63 _ (by decide) (by decide), h2 64 _ (by decide) (by decide), h2 65 _ (by decide) (by decide), h3 66 _ (by decide), h3 67 _ (by decide), h3 68 _ (by decide)⟩
    · simp only [q_I_si, q_I_sl, q_L_si, q_L_sl, true_and, and_true, if_true]
      repeat rw [if_neg (by omega)]
      exact h4 x x0 (by omega)
theorem sh_T {s s' : Q_S} (h : SH s) (e : s'.2.2.1 = s.2.2.1) : SH s' := fun a t x => (congrFun e a).trans (h a t x)
theorem lpA0 (hs : SH s0) (k0 : 0 ≤ k ∧ k < 8) (hb : ∀ x, 0 ≤ x → x < 6144 → q_I s0 75 (6144 * k + x) = 0 ∨ q_I s0 75 (6144 * k + x) = 1) {Q : Q_S × Unit → Prop} (K : ∀ s', IA0 s0 s' k 6144 → QW (fun n => g_144 o n 10 s' 38 k 0 0 0 0 .null 0 0 0) Q) : ∀ (f : Nat) (i : Int) (s : Q_S), i + f = 6144 → 0 ≤ i → IA0 s0 s k i → QW (fun n => g_144 o n 2 s 38 k 0 i 0 0 .null 0 0 0) Q := by
  intro f
  induction f with
  | zero =>
    intro i s h0 h1 h
    have e : i = 6144 := by omega
    subst e
    refine QW_s ?_
    simp only [g_144]
    refine QW_g (by decide) ?_
    refine QW_it (by decide) ?_
    exact K s h
  | succ f ih =>
    intro i s h0 h1 h
    refine car_f0 (sh_T hs h.1.2.2) k0 ⟨h1, by omega⟩ ?_ (ih (i + 1) _ (by omega) (by omega) (h.st h1))
    rw [h.2.1 75 _ (by decide) (by decide) (by decide) (by decide) (by decide) (by decide)]
    exact hb i h1 (by omega)
theorem lpA1 (hs : SH s0) (k0 : 0 ≤ k ∧ k < 8) (hb : ∀ x, 0 ≤ x → x < 6144 → q_I s0 61 x = 0 ∨ q_I s0 61 x = 1) {Q : Q_S × Unit → Prop} (K : ∀ s', IA1 s0 s' k 6144 → QW (fun n => g_144 o n 10 s' 38 k 1 0 0 0 .null 0 0 0) Q) : ∀ (f : Nat) (i : Int) (s : Q_S), i + f = 6144 → 0 ≤ i → IA1 s0 s k i → QW (fun n => g_144 o n 2 s 38 k 1 i 0 0 .null 0 0 0) Q := by
  intro f
  induction f with
  | zero =>
    intro i s h0 h1 h
    have e : i = 6144 := by omega
    subst e
    refine QW_s ?_
    simp only [g_144]
    refine QW_g (by decide) ?_
    refine QW_it (by decide) ?_
    exact K s h
  | succ f ih =>
    intro i s h0 h1 h
    refine car_f1 (sh_T hs h.1.2.2) k0 ⟨h1, by omega⟩ ?_ (ih (i + 1) _ (by omega) (by omega) (h.st ⟨h1, by omega⟩))
    rw [h.2.1 61 _ (by decide) (by decide)]
    exact hb i h1 (by omega)
theorem lpB0 (hs : SH s0) (k0 : 0 ≤ k ∧ k < 8) (hb : ∀ x, 0 ≤ x → x < 104 → q_I s0 78 (104 * k + x) = 0 ∨ q_I s0 78 (104 * k + x) = 1) : ∀ (f : Nat) (i : Int) (s : Q_S), i + f = 104 → 0 ≤ i → IB0 s0 s k i → QW (fun n => g_144 o n 10 s 38 k 0 i 0 0 .null 0 0 0) (fun q => IB0 s0 q.1 k 104) := by
  intro f
  induction f with
  | zero =>
    intro i s h0 h1 h
    have e : i = 104 := by omega
    subst e
    refine QW_s ?_
    simp only [g_144]
    refine QW_g (by decide) ?_
    refine QW_it (by decide) ?_
    exact QW_ret h
  | succ f ih =>
    intro i s h0 h1 h
    refine car_h0 (sh_T hs h.1.2.2) k0 ⟨h1, by omega⟩ ?_ (ih (i + 1) _ (by omega) (by omega) (h.st h1))
    rw [h.2.1 78 _ (by decide) (by decide) (by decide) (by decide) (by decide)]
    exact hb i h1 (by omega)
theorem lpB1 (hs : SH s0) (k0 : 0 ≤ k ∧ k < 8) (hb : ∀ x, 0 ≤ x → x < 104 → q_I s0 69 x = 0 ∨ q_I s0 69 x = 1) : ∀ (f : Nat) (i : Int) (s : Q_S), i + f = 104 → 0 ≤ i → IB1 s0 s k i → QW (fun n => g_144 o n 10 s 38 k 1 i 0 0 .null 0 0 0) (fun q => IB1 s0 q.1 k 104) := by
  intro f
  induction f with
  | zero =>
    intro i s h0 h1 h
    have e : i = 104 := by omega
    subst e
    refine QW_s ?_
    simp only [g_144]
    refine QW_g (by decide) ?_
    refine QW_it (by decide) ?_
    exact QW_ret h
  | succ f ih =>
    intro i s h0 h1 h
    refine car_h1 (sh_T hs h.1.2.2) k0 ⟨h1, by omega⟩ ?_ (ih (i + 1) _ (by omega) (by omega) (h.st ⟨h1, by omega⟩))
    rw [h.2.1 69 _ (by decide) (by decide)]
    exact hb i h1 (by omega)
end RCB
