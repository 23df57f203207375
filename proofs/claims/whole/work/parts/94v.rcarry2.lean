/-! THE REFERENCE'S RUNS SAVED AND PUT BACK: the numbers -/
section RCC
variable {o : X_O} {s0 s : Q_S} {k i : Int}
theorem g38 (hs : SH s) {f : Nat} (hf : f = 17 ∨ f = 18 ∨ f = 19 ∨ f = 20 ∨ f = 21 ∨ f = 22 ∨ f = 23 ∨ f = 24 ∨ f = 25 ∨ f = 45) : q_gi s 7 (.ref 38) f = some (q_F s 38 f) ∧ ∀ x, q_pi s 7 (.ref 38) f x = some (q_sf s 38 f x) := by
  rcases hf with rfl | rfl | rfl | rfl | rfl | rfl | rfl | rfl | rfl | rfl <;> exact ⟨k_gi (hs _ _ rfl) rfl, fun x => k_pi (hs _ _ rfl) rfl rfl⟩
theorem sf_eq {s : Q_S} {a f : Nat} {v : Int} (h : v = q_F s a f) : q_sf s a f v = s := by rw [h]; exact si_self
theorem m_145_1 (hs : SH s) {a v : Int} (a0 : 0 ≤ a) (a1 : a < 128) : QW (fun n => g_145 o n 0 s 38 a v 1 .null 0 0) (fun q => q = (q_si s 71 a v, v)) := by
  refine QW_s ?_
  simp only [g_145]
  refine QW_p (k_gv (hs _ _ rfl) rfl rfl) ?_
  refine QW_g (by decide) ?_
  refine QW_if (by decide) ?_
  refine QW_s ?_
  simp only [g_145]
  refine QW_p (k_is (hs _ _ rfl) a0 a1 (by decide)) ?_
  refine QW_p (k_gv (hs _ _ rfl) rfl rfl) ?_
  refine QW_p (k_ia (hs _ _ rfl) a0 a1 (by decide)) ?_
  rw [q_I_si, if_pos ⟨rfl, rfl⟩]
  exact QW_ret rfl
theorem m_145_0 (hs : SH s) {a v : Int} (a0 : 0 ≤ a) (a1 : a < 128) : QW (fun n => g_145 o n 0 s 38 a v 0 .null 0 0) (fun q => q = (s, q_I s 71 a)) := by
  refine QW_s ?_
  simp only [g_145]
  refine QW_p (k_gv (hs _ _ rfl) rfl rfl) ?_
  refine QW_g (by decide) ?_
  refine QW_it (by simp) ?_
  refine QW_p (k_gv (hs _ _ rfl) rfl rfl) ?_
  refine QW_p (k_ia (hs _ _ rfl) a0 a1 (by decide)) ?_
  refine QW_s ?_
  simp only [g_145]
  refine QW_p (k_is (hs _ _ rfl) a0 a1 (by decide)) ?_
  rw [si_self]
  refine QW_p (k_gv (hs _ _ rfl) rfl rfl) ?_
  refine QW_p (k_ia (hs _ _ rfl) a0 a1 (by decide)) ?_
  exact QW_ret rfl
theorem kp1 {X : Nat → Q_S → Option (Q_S × Unit)} {Q : Q_S × Unit → Prop} (hs : SH s) {f : Nat} (hf : f = 17 ∨ f = 18 ∨ f = 19 ∨ f = 20 ∨ f = 21 ∨ f = 22 ∨ f = 23 ∨ f = 24 ∨ f = 25 ∨ f = 45) {a : Int} (a0 : 0 ≤ a) (a1 : a < 128) (K : QW (fun n => X n (q_si s 71 a (q_F s 38 f))) Q) : QW (fun n => (q_gi s 7 (.ref 38) f).bind fun v => (q_rcv s 7 (.ref 38)).bind fun b => (g_145 o n 0 s b a v 1 .null 0 0).bind fun q => (q_pi q.1 7 (.ref 38) f q.2).bind fun s' => X n s') Q := by
  refine QW_p (g38 hs hf).1 ?_
  refine QW_p (k_rc (hs _ _ rfl)) ?_
  refine QW_e (m_145_1 hs a0 a1) ?_
  refine QW_p ((g38 (show SH (q_si s 71 a (q_F s 38 f)) from fun a t x => hs a t x) hf).2 _) ?_
  dsimp only
  rw [sf_eq (show q_F s 38 f = q_F (q_si s 71 a (q_F s 38 f)) 38 f by rw [q_F_si, if_neg (fun z => absurd z.1 (by decide))])]
  exact K
theorem kp0 {X : Nat → Q_S → Option (Q_S × Unit)} {Q : Q_S × Unit → Prop} (hs : SH s) {f : Nat} (hf : f = 17 ∨ f = 18 ∨ f = 19 ∨ f = 20 ∨ f = 21 ∨ f = 22 ∨ f = 23 ∨ f = 24 ∨ f = 25 ∨ f = 45) {a : Int} (a0 : 0 ≤ a) (a1 : a < 128) (K : QW (fun n => X n (q_sf s 38 f (q_I s 71 a))) Q) : QW (fun n => (q_gi s 7 (.ref 38) f).bind fun v => (q_rcv s 7 (.ref 38)).bind fun b => (g_145 o n 0 s b a v 0 .null 0 0).bind fun q => (q_pi q.1 7 (.ref 38) f q.2).bind fun s' => X n s') Q := by
  refine QW_p (g38 hs hf).1 ?_
  refine QW_p (k_rc (hs _ _ rfl)) ?_
  refine QW_e (m_145_0 hs a0 a1) ?_
  refine QW_p ((g38 hs hf).2 _) ?_
  exact K
end RCC
/-- the three columns of numbers, put back and saved -/
def IN0 (s0 s : Q_S) (k i m : Int) : Prop := (s.1 = s0.1 ∧ s.2.1 = s0.2.1 ∧ s.2.2.1 = s0.2.2.1) ∧ (∀ a j, a ≠ 54 → q_I s a j = q_I s0 a j) ∧ (∀ a j, a ≠ 52 → a ≠ 53 → q_L s a j = q_L s0 a j) ∧
  (∀ x, 0 ≤ x → x < 8 → x < i → q_L s 52 x = q_L s0 72 (24 * k + x)) ∧ (∀ x, 0 ≤ x → x + 8 < i → q_L s 53 x = q_L s0 72 (24 * k + (x + 8))) ∧ (∀ x, 0 ≤ x → x < m → q_I s 54 x = q_I s0 79 (8 * k + x))
def IN1 (s0 s : Q_S) (k i m : Int) : Prop := (s.1 = s0.1 ∧ s.2.1 = s0.2.1 ∧ s.2.2.1 = s0.2.2.1) ∧ (∀ a j, a ≠ 79 → q_I s a j = q_I s0 a j) ∧ (∀ a j, a ≠ 72 → q_L s a j = q_L s0 a j) ∧
  (∀ j, j < 24 * k ∨ 24 * k + 24 ≤ j → q_L s 72 j = q_L s0 72 j) ∧ (∀ j, j < 8 * k ∨ 8 * k + 8 ≤ j → q_I s 79 j = q_I s0 79 j) ∧
  (∀ x, 0 ≤ x → x < 8 → x < i → q_L s 72 (24 * k + x) = q_L s0 52 x) ∧ (∀ x, 0 ≤ x → x + 8 < i → q_L s 72 (24 * k + (x + 8)) = q_L s0 53 x) ∧ (∀ x, 0 ≤ x → x < m → q_I s 79 (8 * k + x) = q_I s0 54 x)
section RCD
variable {o : X_O} {s0 s : Q_S} {k i : Int}
theorem nA0 (hs0 : SH s0) (k0 : 0 ≤ k ∧ k < 8) {Q : Q_S × Unit → Prop} (K : ∀ s', IN0 s0 s' k 24 0 → QW (fun n => g_146 o n 5 s' 38 k 0 0 0 0 .null 0 0 0) Q) : ∀ (f : Nat) (i : Int) (s : Q_S), i + f = 24 → 0 ≤ i → IN0 s0 s k i 0 → QW (fun n => g_146 o n 1 s 38 k 0 i 0 0 .null 0 0 0) Q := by
  intro f
  induction f with
  | zero =>
    intro i s h0 h1 h
    have e : i = 24 := by omega
    subst e
    refine QW_s ?_
    simp only [g_146]
    refine QW_g (by decide) ?_
    refine QW_it (by decide) ?_
    exact K s h
  | succ f ih =>
    intro i s h0 h1 h
    have hs := sh_T hs0 h.1.2.2
    obtain ⟨h2, h3, h4, h5, h6, h7⟩ := h
    have hi : i < 24 := by omega
    have hin : q_in i := by unfold q_in; omega
    refine QW_s ?_
    simp only [g_146]
    refine QW_g hin ?_
    refine QW_if (by omega) ?_
    refine QW_g hin ?_
    refine QW_by (fun z => ?_) (fun z => ?_)
    · refine QW_p (k_gv (hs _ _ rfl) rfl rfl) ?_
      refine QW_p (k_la (hs _ _ rfl) (by omega) (by omega) (by decide)) ?_
      refine QW_s ?_
      simp only [g_146]
      refine QW_p (k_gv (hs _ _ rfl) rfl rfl) ?_
      refine QW_g (by decide) ?_
      refine QW_it (by simp) ?_
      refine QW_p (k_gv (hs _ _ rfl) rfl rfl) ?_
      refine QW_p (k_la (hs _ _ rfl) (by omega) (by omega) (by decide)) ?_
      refine QW_s ?_
      simp only [g_146]
      refine QW_p (k_ls (hs _ _ rfl) (by omega) (by omega) (by decide)) ?_
      rw [sl_self]
      refine QW_g hin ?_
      refine QW_it z ?_
      refine QW_p (k_gv (hs _ _ rfl) rfl rfl) ?_
      refine QW_p (k_gv (hs _ _ rfl) rfl rfl) ?_
      refine QW_p (k_la (hs _ _ rfl) (by omega) (by omega) (by decide)) ?_
      refine QW_p (k_ls (hs _ _ rfl) (by omega) (by omega) (by decide)) ?_
      refine QW_s ?_
      simp only [g_146]
      refine ih (i + 1) _ (by omega) (by omega) ⟨h2, fun a j a1 => h3 a j a1, fun a j a1 a2 => ?_, fun x x0 x1 x2 => ?_, fun x x0 x1 => ?_, fun x x0 x1 => h7 x x0 x1⟩
      · rw [q_L_sl, if_neg (fun w => a2 w.1)]
        exact h4 a j a1 a2
      · rw [q_L_sl, if_neg (fun w => absurd w.1 (by decide))]
        exact h5 x x0 x1 (by omega)
      · by_cases e : x = i - 8
        · rw [q_L_sl, if_pos ⟨rfl, e⟩, h4 72 _ (by decide) (by decide)]
          have : i = x + 8 := by omega
          rw [this]
        · rw [q_L_sl, if_neg (fun w => e w.2)]
          exact h6 x x0 (by omega)
    · refine QW_p (k_gv (hs _ _ rfl) rfl rfl) ?_
      refine QW_p (k_la (hs _ _ rfl) (by omega) (by omega) (by decide)) ?_
      refine QW_s ?_
      simp only [g_146]
      refine QW_p (k_gv (hs _ _ rfl) rfl rfl) ?_
      refine QW_g (by decide) ?_
      refine QW_it (by simp) ?_
      refine QW_p (k_gv (hs _ _ rfl) rfl rfl) ?_
      refine QW_p (k_la (hs _ _ rfl) (by omega) (by omega) (by decide)) ?_
      refine QW_s ?_
      simp only [g_146]
      refine QW_p (k_ls (hs _ _ rfl) (by omega) (by omega) (by decide)) ?_
      rw [sl_self]
      refine QW_g hin ?_
      refine QW_if z ?_
      refine QW_p (k_gv (hs _ _ rfl) rfl rfl) ?_
      refine QW_p (k_gv (hs _ _ rfl) rfl rfl) ?_
      refine QW_p (k_la (hs _ _ rfl) (by omega) (by omega) (by decide)) ?_
      refine QW_p (k_ls (hs _ _ rfl) (by omega) (by omega) (by decide)) ?_
      refine QW_s ?_
      simp only [g_146]
      refine ih (i + 1) _ (by omega) (by omega) ⟨h2, fun a j a1 => h3 a j a1, fun a j a1 a2 => ?_, fun x x0 x1 x2 => ?_, fun x x0 x1 => ?_, fun x x0 x1 => h7 x x0 x1⟩
      · rw [q_L_sl, if_neg (fun w => a1 w.1)]
        exact h4 a j a1 a2
      · by_cases e : x = i
        · rw [q_L_sl, if_pos ⟨rfl, e⟩, h4 72 _ (by decide) (by decide), e]
        · rw [q_L_sl, if_neg (fun w => e w.2)]
          exact h5 x x0 x1 (by omega)
      · rw [q_L_sl, if_neg (fun w => absurd w.1 (by decide))]
        exact h6 x x0 (by omega)
theorem nB0 (hs0 : SH s0) (k0 : 0 ≤ k ∧ k < 8) : ∀ (f : Nat) (i : Int) (s : Q_S), i + f = 8 → 0 ≤ i → IN0 s0 s k 24 i → QW (fun n => g_146 o n 5 s 38 k 0 i 0 0 .null 0 0 0) (fun q => IN0 s0 q.1 k 24 8) := by
  intro f
  induction f with
  | zero =>
    intro i s h0 h1 h
    have e : i = 8 := by omega
    subst e
    refine QW_s ?_
    simp only [g_146]
    refine QW_g (by decide) ?_
    refine QW_it (by decide) ?_
    exact QW_ret h
  | succ f ih =>
    intro i s h0 h1 h
    have hs := sh_T hs0 h.1.2.2
    obtain ⟨h2, h3, h4, h5, h6, h7⟩ := h
    have hi : i < 8 := by omega
    have hin : q_in i := by unfold q_in; omega
    refine QW_s ?_
    simp only [g_146]
    refine QW_g hin ?_
    refine QW_if (by omega) ?_
    refine QW_p (k_gv (hs _ _ rfl) rfl rfl) ?_
    refine QW_g (by decide) ?_
    refine QW_it (by simp) ?_
    refine QW_p (k_gv (hs _ _ rfl) rfl rfl) ?_
    refine QW_p (k_ia (hs _ _ rfl) (by omega) (by omega) (by decide)) ?_
    refine QW_s ?_
    simp only [g_146]
    refine QW_p (k_is (hs _ _ rfl) (by omega) (by omega) (by decide)) ?_
    rw [si_self]
    refine QW_p (k_gv (hs _ _ rfl) rfl rfl) ?_
    refine QW_p (k_gv (hs _ _ rfl) rfl rfl) ?_
    refine QW_p (k_ia (hs _ _ rfl) (by omega) (by omega) (by decide)) ?_
    refine QW_p (k_is (hs _ _ rfl) (by omega) (by omega) (by decide)) ?_
    refine ih (i + 1) _ (by omega) (by omega) ⟨h2, fun a j a1 => ?_, fun a j a1 a2 => h4 a j a1 a2, fun x x0 x1 x2 => h5 x x0 x1 x2, fun x x0 x1 => h6 x x0 x1, fun x x0 x1 => ?_⟩
    · rw [q_I_si, if_neg (fun w => a1 w.1)]
      exact h3 a j a1
    · by_cases e : x = i
      · rw [q_I_si, if_pos ⟨rfl, e⟩, h3 79 _ (by decide), e]
      · rw [q_I_si, if_neg (fun w => e w.2)]
        exact h7 x x0 (by omega)
theorem nA1 (hs0 : SH s0) (k0 : 0 ≤ k ∧ k < 8) {Q : Q_S × Unit → Prop} (K : ∀ s', IN1 s0 s' k 24 0 → QW (fun n => g_146 o n 5 s' 38 k 1 0 0 0 .null 0 0 0) Q) : ∀ (f : Nat) (i : Int) (s : Q_S), i + f = 24 → 0 ≤ i → IN1 s0 s k i 0 → QW (fun n => g_146 o n 1 s 38 k 1 i 0 0 .null 0 0 0) Q := by
  intro f
  induction f with
  | zero =>
    intro i s h0 h1 h
    have e : i = 24 := by omega
    subst e
    refine QW_s ?_
    simp only [g_146]
    refine QW_g (by decide) ?_
    refine QW_it (by decide) ?_
    exact K s h
  | succ f ih =>
    intro i s h0 h1 h
    have hs := sh_T hs0 h.1.2.2
    obtain ⟨h2, h3, h4, h8, h9, h5, h6, h7⟩ := h
    have hi : i < 24 := by omega
    have hin : q_in i := by unfold q_in; omega
    refine QW_s ?_
    simp only [g_146]
    refine QW_g hin ?_
    refine QW_if (by omega) ?_
    refine QW_g hin ?_
    refine QW_by (fun z => ?_) (fun z => ?_)
    · refine QW_p (k_gv (hs _ _ rfl) rfl rfl) ?_
      refine QW_p (k_la (hs _ _ rfl) (by omega) (by omega) (by decide)) ?_
      refine QW_s ?_
      simp only [g_146]
      refine QW_p (k_gv (hs _ _ rfl) rfl rfl) ?_
      refine QW_g (by decide) ?_
      refine QW_if (by decide) ?_
      refine QW_s ?_
      simp only [g_146]
      refine QW_p (k_ls (hs _ _ rfl) (by omega) (by omega) (by decide)) ?_
      refine QW_g hin ?_
      refine QW_it z ?_
      refine QW_p (k_gv (hs _ _ rfl) rfl rfl) ?_
      refine QW_p (k_gv (hs _ _ rfl) rfl rfl) ?_
      refine QW_p (k_la (hs _ _ rfl) (by omega) (by omega) (by decide)) ?_
      refine QW_p (k_ls (hs _ _ rfl) (by omega) (by omega) (by decide)) ?_
      rw [sl_eq (by rw [q_L_sl, if_pos ⟨rfl, rfl⟩, q_L_sl, if_neg (fun w => absurd w.1 (by decide))])]
      refine QW_s ?_
      simp only [g_146]
      refine ih (i + 1) _ (by omega) (by omega) ⟨h2, fun a j a1 => h3 a j a1, fun a j a1 => ?_, fun j hj => ?_, fun j hj => h9 j hj, fun x x0 x1 x2 => ?_, fun x x0 x1 => ?_, fun x x0 x1 => h7 x x0 x1⟩
      · rw [q_L_sl, if_neg (fun w => a1 w.1)]
        exact h4 a j a1
      · rw [q_L_sl, if_neg (fun w => by have := w.2; omega)]
        exact h8 j hj
      · rw [q_L_sl, if_neg (fun w => by have := w.2; omega)]
        exact h5 x x0 x1 (by omega)
      · by_cases e : x = i - 8
        · rw [q_L_sl, if_pos ⟨rfl, by omega⟩, h4 53 _ (by decide), e]
        · rw [q_L_sl, if_neg (fun w => by have := w.2; omega)]
          exact h6 x x0 (by omega)
    · refine QW_p (k_gv (hs _ _ rfl) rfl rfl) ?_
      refine QW_p (k_la (hs _ _ rfl) (by omega) (by omega) (by decide)) ?_
      refine QW_s ?_
      simp only [g_146]
      refine QW_p (k_gv (hs _ _ rfl) rfl rfl) ?_
      refine QW_g (by decide) ?_
      refine QW_if (by decide) ?_
      refine QW_s ?_
      simp only [g_146]
      refine QW_p (k_ls (hs _ _ rfl) (by omega) (by omega) (by decide)) ?_
      refine QW_g hin ?_
      refine QW_if z ?_
      refine QW_p (k_gv (hs _ _ rfl) rfl rfl) ?_
      refine QW_p (k_gv (hs _ _ rfl) rfl rfl) ?_
      refine QW_p (k_la (hs _ _ rfl) (by omega) (by omega) (by decide)) ?_
      refine QW_p (k_ls (hs _ _ rfl) (by omega) (by omega) (by decide)) ?_
      rw [sl_eq (by rw [q_L_sl, if_pos ⟨rfl, rfl⟩, q_L_sl, if_neg (fun w => absurd w.1 (by decide))])]
      refine QW_s ?_
      simp only [g_146]
      refine ih (i + 1) _ (by omega) (by omega) ⟨h2, fun a j a1 => h3 a j a1, fun a j a1 => ?_, fun j hj => ?_, fun j hj => h9 j hj, fun x x0 x1 x2 => ?_, fun x x0 x1 => ?_, fun x x0 x1 => h7 x x0 x1⟩
      · rw [q_L_sl, if_neg (fun w => a1 w.1)]
        exact h4 a j a1
      · rw [q_L_sl, if_neg (fun w => by have := w.2; omega)]
        exact h8 j hj
      · by_cases e : x = i
        · rw [q_L_sl, if_pos ⟨rfl, by omega⟩, h4 52 _ (by decide), e]
        · rw [q_L_sl, if_neg (fun w => by have := w.2; omega)]
          exact h5 x x0 x1 (by omega)
      · rw [q_L_sl, if_neg (fun w => by have := w.2; omega)]
        exact h6 x x0 (by omega)
theorem nB1 (hs0 : SH s0) (k0 : 0 ≤ k ∧ k < 8) : ∀ (f : Nat) (i : Int) (s : Q_S), i + f = 8 → 0 ≤ i → IN1 s0 s k 24 i → QW (fun n => g_146 o n 5 s 38 k 1 i 0 0 .null 0 0 0) (fun q => IN1 s0 q.1 k 24 8) := by
  intro f
  induction f with
  | zero =>
    intro i s h0 h1 h
    have e : i = 8 := by omega
    subst e
    refine QW_s ?_
    simp only [g_146]
    refine QW_g (by decide) ?_
    refine QW_it (by decide) ?_
    exact QW_ret h
  | succ f ih =>
    intro i s h0 h1 h
    have hs := sh_T hs0 h.1.2.2
    obtain ⟨h2, h3, h4, h8, h9, h5, h6, h7⟩ := h
    have hi : i < 8 := by omega
    have hin : q_in i := by unfold q_in; omega
    refine QW_s ?_
    simp only [g_146]
    refine QW_g hin ?_
    refine QW_if (by omega) ?_
    refine QW_p (k_gv (hs _ _ rfl) rfl rfl) ?_
    refine QW_g (by decide) ?_
    refine QW_if (by decide) ?_
    refine QW_p (k_gv (hs _ _ rfl) rfl rfl) ?_
    refine QW_p (k_ia (hs _ _ rfl) (by omega) (by omega) (by decide)) ?_
    refine QW_s ?_
    simp only [g_146]
    refine QW_p (k_is (hs _ _ rfl) (by omega) (by omega) (by decide)) ?_
    refine QW_p (k_gv (hs _ _ rfl) rfl rfl) ?_
    refine QW_p (k_gv (hs _ _ rfl) rfl rfl) ?_
    refine QW_p (k_ia (hs _ _ rfl) (by omega) (by omega) (by decide)) ?_
    refine QW_p (k_is (hs _ _ rfl) (by omega) (by omega) (by decide)) ?_
    rw [si_eq (by rw [q_I_si, if_pos ⟨rfl, rfl⟩, q_I_si, if_neg (fun w => absurd w.1 (by decide))])]
    refine ih (i + 1) _ (by omega) (by omega) ⟨h2, fun a j a1 => ?_, fun a j a1 => h4 a j a1, fun j hj => h8 j hj, fun j hj => ?_, fun x x0 x1 x2 => h5 x x0 x1 x2, fun x x0 x1 => h6 x x0 x1, fun x x0 x1 => ?_⟩
    · rw [q_I_si, if_neg (fun w => a1 w.1)]
      exact h3 a j a1
    · rw [q_I_si, if_neg (fun w => by have := w.2; omega)]
      exact h9 j hj
    · by_cases e : x = i
      · rw [q_I_si, if_pos ⟨rfl, by omega⟩, h3 54 _ (by decide), e]
      · rw [q_I_si, if_neg (fun w => by have := w.2; omega)]
        exact h7 x x0 (by omega)
theorem m_146_0 (hs : SH s) (k0 : 0 ≤ k ∧ k < 8) : QW (fun n => g_146 o n 0 s 38 k 0 0 0 0 .null 0 0 0) (fun q => IN0 s q.1 k 24 8) := by
  refine QW_s ?_
  simp only [g_146]
  exact nA0 hs k0 (fun s' h => nB0 hs k0 8 0 s' (by decide) (by decide) h) 24 0 s (by decide) (by decide) ⟨⟨rfl, rfl, rfl⟩, fun _ _ _ => rfl, fun _ _ _ _ => rfl, fun x x0 _ x2 => by omega, fun x x0 x1 => by omega, fun x x0 x1 => by omega⟩
theorem m_146_1 (hs : SH s) (k0 : 0 ≤ k ∧ k < 8) : QW (fun n => g_146 o n 0 s 38 k 1 0 0 0 .null 0 0 0) (fun q => IN1 s q.1 k 24 8) := by
  refine QW_s ?_
  simp only [g_146]
  exact nA1 hs k0 (fun s' h => nB1 hs k0 8 0 s' (by decide) (by decide) h) 24 0 s (by decide) (by decide) ⟨⟨rfl, rfl, rfl⟩, fun _ _ _ => rfl, fun _ _ _ => rfl, fun _ _ => rfl, fun _ _ => rfl, fun x x0 _ x2 => by omega, fun x x0 x1 => by omega, fun x x0 x1 => by omega⟩
end RCD
