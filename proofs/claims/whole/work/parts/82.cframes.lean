/-! THE CLASS'S FRAMES, as a view: rows of numbers, ints in 1 to 7 (kind, place, up, left, right, depth, since), longs in 8 to 10 (amount, from, goal); top, free, used, sides -/
abbrev CV : Type := (Nat → Int → Int) × (Nat → Int → Int64) × Int × Int × Int × Int
def vI (v : CV) (i : Nat) (x : Int) : Int := v.1 i x
def vL (v : CV) (i : Nat) (x : Int) : Int64 := v.2.1 i x
def v_t (v : CV) : Int := v.2.2.1
def v_f (v : CV) : Int := v.2.2.2.1
def v_u (v : CV) : Int := v.2.2.2.2.1
def v_s (v : CV) : Int := v.2.2.2.2.2
def shF0 (c : Nat) : Y_T := .inr (5, [some (.ref (c + 1)), some (.ref (c + 2)), some (.ref (c + 3)), some (.ref (c + 4)), some (.ref (c + 5)), some (.ref (c + 6)), some (.ref (c + 7)), some (.ref (c + 8)), some (.ref (c + 9)), some (.ref (c + 10)), none, none, none, none])
def shFa (n : Nat) : Nat → Option Y_T
  | 1 => some (.inl (.int, n, fun _ => none))
  | 2 => some (.inl (.int, n, fun _ => none))
  | 3 => some (.inl (.int, n, fun _ => none))
  | 4 => some (.inl (.int, n, fun _ => none))
  | 5 => some (.inl (.int, n, fun _ => none))
  | 6 => some (.inl (.int, n, fun _ => none))
  | 7 => some (.inl (.int, n, fun _ => none))
  | 8 => some (.inl (.long, n, fun _ => none))
  | 9 => some (.inl (.long, n, fun _ => none))
  | 10 => some (.inl (.long, n, fun _ => none))
  | _ => none
/-- the frames at cell F, their rows behind c, hold the view -/
def VW (s : Q_S) (F c room : Nat) (v : CV) : Prop := q_T s F = some (shF0 c) ∧ (∀ i t, shFa room i = some t → q_T s (c + i) = some t) ∧
  (∀ i x, 1 ≤ i → i ≤ 7 → 0 ≤ x → x < v_u v → q_I s (c + i) x = vI v i x) ∧ (∀ i x, 8 ≤ i → i ≤ 10 → 0 ≤ x → x < v_u v → q_L s (c + i) x = vL v i x) ∧
  q_F s F 10 = v_t v ∧ q_F s F 11 = v_f v ∧ q_F s F 12 = v_u v ∧ q_F s F 13 = v_s v ∧ 0 ≤ v_u v ∧ v_u v ≤ room ∧ room ≤ 20000 ∧ (c = 24 ∨ 80 ≤ c) ∧ c + 10 < s.1 ∧ 80 < s.1
/-- all of them in range -/
def VB (v : CV) : Prop := (∀ x, 0 ≤ x → x < v_u v → (0 ≤ vI v 1 x ∧ vI v 1 x ≤ 40) ∧ (0 ≤ vI v 2 x ∧ vI v 2 x < 500) ∧ (-1 ≤ vI v 3 x ∧ vI v 3 x < v_u v) ∧ (-1 ≤ vI v 4 x ∧ vI v 4 x < v_u v) ∧ (-1 ≤ vI v 5 x ∧ vI v 5 x < v_u v) ∧ (0 ≤ vI v 6 x ∧ vI v 6 x ≤ 1000)) ∧
  (-1 ≤ v_t v ∧ v_t v < v_u v) ∧ (-1 ≤ v_f v ∧ v_f v < v_u v) ∧ (-1000 ≤ v_s v ∧ v_s v ≤ 1000)
/-- only the frames' cells change; the room that growing takes -/
def FK (s : Q_S) (c room : Nat) (s' : Q_S) (c' room' : Nat) : Prop := s.1 ≤ s'.1 ∧ room ≤ room' ∧ s'.1 + room ≤ s.1 + room' ∧ s'.2.1 + 20 * room ≤ s.2.1 + 20 * room' ∧ (c' = c ∨ (s.1 ≤ c' + 1 ∧ c' + 10 < s'.1)) ∧
  (∀ a, a < s.1 → ¬ a = 24 → ¬ (c < a ∧ a ≤ c + 10) → q_T s' a = q_T s a ∧ ∀ j, q_I s' a j = q_I s a j ∧ q_L s' a j = q_L s a j)
theorem FK.rf (s : Q_S) (c room : Nat) : FK s c room s c room := ⟨Nat.le_refl _, Nat.le_refl _, Nat.le_refl _, Nat.le_refl _, Or.inl rfl, fun _ _ _ _ => ⟨rfl, fun _ => ⟨rfl, rfl⟩⟩⟩
theorem FK.tr {s s1 s2 : Q_S} {c c1 c2 room room1 room2 : Nat} (h : FK s c room s1 c1 room1) (g : FK s1 c1 room1 s2 c2 room2) : FK s c room s2 c2 room2 := by
  obtain ⟨a1, a2, a3, a4, a5, a6⟩ := h
  obtain ⟨b1, b2, b3, b4, b5, b6⟩ := g
  refine ⟨by omega, by omega, by omega, by omega, by omega, fun a h0 h1 h2 => ?_⟩
  obtain ⟨x1, x2⟩ := a6 a h0 h1 h2
  obtain ⟨y1, y2⟩ := b6 a (by omega) h1 (by omega)
  exact ⟨y1.trans x1, fun j => ⟨(y2 j).1.trans (x2 j).1, (y2 j).2.trans (x2 j).2⟩⟩
section CGR
variable {o : X_O}
/-- growing, as far as it is: k rows of ten -/
def GI (s0 : Q_S) (c m room R : Nat) (fs : List (Option Value)) (k : Nat) (s : Q_S) : Prop := s.1 = m + 1 + k ∧ s.2.1 = s0.2.1 + k * R ∧ q_T s 24 = some (.inr (5, fs)) ∧ (∀ i t, 1 ≤ i → i ≤ k → shFa R i = some t → q_T s (m + i) = some t) ∧
  (∀ b, b < m + 1 → b ≠ 24 → q_T s b = q_T s0 b) ∧ (∀ b, b < m + 1 → ∀ x, q_I s b x = q_I s0 b x ∧ q_L s b x = q_L s0 b x) ∧
  (∀ i, 1 ≤ i → i ≤ k → ∀ x : Int, 0 ≤ x → x < room → (i ≤ 7 → q_I s (m + i) x = q_I s0 (c + i) x) ∧ (8 ≤ i → q_L s (m + i) x = q_L s0 (c + i) x))
theorem GI_I {s0 s : Q_S} {c m room R k : Nat} {fs : List (Option Value)} (h : GI s0 c m room R fs k s) (hk : k < 7) (hc : c = 24 ∨ 80 ≤ c) (hcm : c + 10 < m + 1) (hm : 80 < m + 1) (hT : q_T s0 (c + (k + 1)) = some (.inl (.int, room, fun _ => none))) (hR : room < R) (hR2 : R ≤ 67108864) (h1 : fs[k]? = some (some (.ref (c + (k + 1))))) (hs7 : shFa R (k + 1) = some (.inl (.int, R, fun _ => none))) (hty : x_fit (x_fty 5 k) (.ref (m + 1 + k)) = true) {Q : Q_S × Unit → Prop} {K : Nat → Q_S → Option (Q_S × Unit)}
    (g : ∀ s', GI s0 c m room R (fs.set k (some (.ref (m + 1 + k)))) (k + 1) s' → QW (fun n => K n s') Q) :
    QW (fun n => (q_gv s 5 (.ref 24) k).bind fun v1 => (g_150 o n 0 s v1 R).bind fun q6 => (y_isr q6.2).bind fun b7 => (q_pr q6.1 5 (.ref 24) k (.ref b7)).bind fun s9 => K n s9) Q := by
  obtain ⟨n0, sl, T, I, L⟩ := s
  obtain ⟨e1, e2, e3, e4, e5, e6, e7⟩ := h
  have e1 : n0 = m + 1 + k := e1
  subst e1
  have hTa := (e5 (c + (k + 1)) (by omega) (by omega)).trans hT
  refine QW_p (k_gv e3 h1 rfl) ?_
  have C : QW (fun n => g_150 o n 0 (m + 1 + k, sl, T, I, L) (.ref (c + (k + 1))) R) (fun q => q = (q_cI (q_nw (m + 1 + k, sl, T, I, L) R (.inl (.int, R, fun _ => none))) (c + (k + 1)) (m + 1 + k) 0 0 room, .ref (m + 1 + k))) := by
    refine QW_s ?_
    simp only [g_150]
    refine QW_p (k_ln hTa rfl) ?_
    refine QW_g (by omega) ?_
    refine QW_it (by omega) ?_
    refine QW_p (k_na (by omega) (by omega)) ?_
    have t1 : q_T (q_nw (m + 1 + k, sl, T, I, L) R (.inl (.int, R, fun _ => none))) (c + (k + 1)) = some (.inl (.int, room, fun _ => none)) := by
      rw [q_T_nw, if_neg (by show ¬ c + (k + 1) = m + 1 + k; omega)]
      exact hTa
    have t2 : q_T (q_nw (m + 1 + k, sl, T, I, L) R (.inl (.int, R, fun _ => none))) (m + 1 + k) = some (.inl (.int, R, fun _ => none)) := by
      rw [q_T_nw, if_pos rfl]
    rw [show ((R : Int)).toNat = R by omega]
    refine QW_p (k_ln t1 rfl) ?_
    refine QW_g (by omega) ?_
    rw [if_neg (by omega)]
    refine QW_p (k_cI t1 t2 (by omega) (by omega) (by omega) (by omega) (by omega) (by omega) (by omega)) ?_
    refine QW_p (show y_isr (.ref (m + 1 + k)) = some (m + 1 + k) from rfl) ?_
    exact QW_ret rfl
  refine QW_e C ?_
  dsimp only
  refine QW_p (show y_isr (.ref (m + 1 + k)) = some (m + 1 + k) from rfl) ?_
  have t3 : q_T (q_cI (q_nw (m + 1 + k, sl, T, I, L) R (.inl (.int, R, fun _ => none))) (c + (k + 1)) (m + 1 + k) 0 0 room) 24 = some (.inr (5, fs)) := by
    rw [q_T_cI, q_T_nw, if_neg (by show ¬ 24 = m + 1 + k; omega)]
    exact e3
  refine QW_p (k_pr t3 h1 hty) ?_
  apply g
  refine ⟨rfl, ?_, ?_, fun i t i0 i1 it => ?_, fun b b0 b1 => ?_, fun b b0 x => ⟨?_, ?_⟩, fun i i0 i1 x x0 x1 => ⟨fun i7 => ?_, fun i8 => ?_⟩⟩
  · show sl + R = s0.2.1 + (k + 1) * R
    have e2 : sl = s0.2.1 + k * R := e2
    rw [e2, Nat.add_mul]
    omega
  · rw [q_T_st, if_pos rfl]
  · by_cases z : i = k + 1
    · subst z
      rw [q_T_st, if_neg (by omega), q_T_cI, q_T_nw, if_pos (by show m + (k + 1) = m + 1 + k; omega), ← hs7, it]
    · rw [q_T_st, if_neg (by omega), q_T_cI, q_T_nw, if_neg (by show ¬ m + i = m + 1 + k; omega)]
      exact e4 i t i0 (by omega) it
  · rw [q_T_st, if_neg b1, q_T_cI, q_T_nw, if_neg (by show ¬ b = m + 1 + k; omega)]
    exact e5 b b0 b1
  · rw [q_I_st, q_I_cI, if_neg (by omega), q_I_nw, if_neg (by show ¬ b = m + 1 + k; omega)]
    exact (e6 b b0 x).1
  · rw [q_L_st, q_L_cI, q_L_nw, if_neg (by show ¬ b = m + 1 + k; omega)]
    exact (e6 b b0 x).2
  · by_cases z : i = k + 1
    · subst z
      rw [q_I_st, q_I_cI, if_pos ⟨by omega, by omega, by omega⟩, q_I_nw, if_neg (by show ¬ c + (k + 1) = m + 1 + k; omega), show (0 : Int) + (x - 0) = x by omega]
      exact (e6 _ (by omega) x).1
    · rw [q_I_st, q_I_cI, if_neg (by omega), q_I_nw, if_neg (by show ¬ m + i = m + 1 + k; omega)]
      exact (e7 i i0 (by omega) x x0 x1).1 i7
  · exact absurd i8 (by omega)
theorem GI_L {s0 s : Q_S} {c m room R k : Nat} {fs : List (Option Value)} (h : GI s0 c m room R fs k s) (hk : 7 ≤ k) (hk2 : k < 10) (hc : c = 24 ∨ 80 ≤ c) (hcm : c + 10 < m + 1) (hm : 80 < m + 1) (hT : q_T s0 (c + (k + 1)) = some (.inl (.long, room, fun _ => none))) (hR : room < R) (hR2 : R ≤ 67108864) (h1 : fs[k]? = some (some (.ref (c + (k + 1))))) (hs7 : shFa R (k + 1) = some (.inl (.long, R, fun _ => none))) (hty : x_fit (x_fty 5 k) (.ref (m + 1 + k)) = true) {Q : Q_S × Unit → Prop} {K : Nat → Q_S → Option (Q_S × Unit)}
    (g : ∀ s', GI s0 c m room R (fs.set k (some (.ref (m + 1 + k)))) (k + 1) s' → QW (fun n => K n s') Q) :
    QW (fun n => (q_gv s 5 (.ref 24) k).bind fun v1 => (g_151 o n 0 s v1 R).bind fun q6 => (y_isr q6.2).bind fun b7 => (q_pr q6.1 5 (.ref 24) k (.ref b7)).bind fun s9 => K n s9) Q := by
  obtain ⟨n0, sl, T, I, L⟩ := s
  obtain ⟨e1, e2, e3, e4, e5, e6, e7⟩ := h
  have e1 : n0 = m + 1 + k := e1
  subst e1
  have hTa := (e5 (c + (k + 1)) (by omega) (by omega)).trans hT
  refine QW_p (k_gv e3 h1 rfl) ?_
  have C : QW (fun n => g_151 o n 0 (m + 1 + k, sl, T, I, L) (.ref (c + (k + 1))) R) (fun q => q = (q_cL (q_nw (m + 1 + k, sl, T, I, L) R (.inl (.long, R, fun _ => none))) (c + (k + 1)) (m + 1 + k) 0 0 room, .ref (m + 1 + k))) := by
    refine QW_s ?_
    simp only [g_151]
    refine QW_p (k_ln hTa rfl) ?_
    refine QW_g (by omega) ?_
    refine QW_it (by omega) ?_
    refine QW_p (k_na (by omega) (by omega)) ?_
    have t1 : q_T (q_nw (m + 1 + k, sl, T, I, L) R (.inl (.long, R, fun _ => none))) (c + (k + 1)) = some (.inl (.long, room, fun _ => none)) := by
      rw [q_T_nw, if_neg (by show ¬ c + (k + 1) = m + 1 + k; omega)]
      exact hTa
    have t2 : q_T (q_nw (m + 1 + k, sl, T, I, L) R (.inl (.long, R, fun _ => none))) (m + 1 + k) = some (.inl (.long, R, fun _ => none)) := by
      rw [q_T_nw, if_pos rfl]
    rw [show ((R : Int)).toNat = R by omega]
    refine QW_p (k_ln t1 rfl) ?_
    refine QW_g (by omega) ?_
    rw [if_neg (by omega)]
    refine QW_p (k_cL t1 t2 (by omega) (by omega) (by omega) (by omega) (by omega) (by omega) (by omega)) ?_
    refine QW_p (show y_isr (.ref (m + 1 + k)) = some (m + 1 + k) from rfl) ?_
    exact QW_ret rfl
  refine QW_e C ?_
  dsimp only
  refine QW_p (show y_isr (.ref (m + 1 + k)) = some (m + 1 + k) from rfl) ?_
  have t3 : q_T (q_cL (q_nw (m + 1 + k, sl, T, I, L) R (.inl (.long, R, fun _ => none))) (c + (k + 1)) (m + 1 + k) 0 0 room) 24 = some (.inr (5, fs)) := by
    rw [q_T_cL, q_T_nw, if_neg (by show ¬ 24 = m + 1 + k; omega)]
    exact e3
  refine QW_p (k_pr t3 h1 hty) ?_
  apply g
  refine ⟨rfl, ?_, ?_, fun i t i0 i1 it => ?_, fun b b0 b1 => ?_, fun b b0 x => ⟨?_, ?_⟩, fun i i0 i1 x x0 x1 => ⟨fun i7 => ?_, fun i8 => ?_⟩⟩
  · show sl + R = s0.2.1 + (k + 1) * R
    have e2 : sl = s0.2.1 + k * R := e2
    rw [e2, Nat.add_mul]
    omega
  · rw [q_T_st, if_pos rfl]
  · by_cases z : i = k + 1
    · subst z
      rw [q_T_st, if_neg (by omega), q_T_cL, q_T_nw, if_pos (by show m + (k + 1) = m + 1 + k; omega), ← hs7, it]
    · rw [q_T_st, if_neg (by omega), q_T_cL, q_T_nw, if_neg (by show ¬ m + i = m + 1 + k; omega)]
      exact e4 i t i0 (by omega) it
  · rw [q_T_st, if_neg b1, q_T_cL, q_T_nw, if_neg (by show ¬ b = m + 1 + k; omega)]
    exact e5 b b0 b1
  · rw [q_I_st, q_I_cL, q_I_nw, if_neg (by show ¬ b = m + 1 + k; omega)]
    exact (e6 b b0 x).1
  · rw [q_L_st, q_L_cL, if_neg (by omega), q_L_nw, if_neg (by show ¬ b = m + 1 + k; omega)]
    exact (e6 b b0 x).2
  · rw [q_I_st, q_I_cL, q_I_nw, if_neg (by show ¬ m + i = m + 1 + k; omega)]
    exact (e7 i i0 (by omega) x x0 x1).1 i7
  · by_cases z : i = k + 1
    · subst z
      rw [q_L_st, q_L_cL, if_pos ⟨by omega, by omega, by omega⟩, q_L_nw, if_neg (by show ¬ c + (k + 1) = m + 1 + k; omega), show (0 : Int) + (x - 0) = x by omega]
      exact (e6 _ (by omega) x).2
    · rw [q_L_st, q_L_cL, if_neg (by omega), q_L_nw, if_neg (by show ¬ m + i = m + 1 + k; omega)]
      exact (e7 i i0 (by omega) x x0 x1).2 i8
theorem d_50 {s : Q_S} {c room R : Nat} {v : CV} (h : VW s 24 c room v) (hR : room < R) (hR2 : R ≤ 20000) (hR3 : 2 * room ≤ R) (hR4 : room + 10 ≤ R) : QW (fun n => g_50 o n 0 s 24 R) (fun q => ∃ c', VW q.1 24 c' R v ∧ FK s c room q.1 c' R) := by
  obtain ⟨hF0, hFa, w1, w2, w3, w4, w5, w6, w7, w8, w9, w10, w11, w12⟩ := h
  obtain ⟨m, hm⟩ : ∃ m, s.1 = m + 1 := ⟨s.1 - 1, by omega⟩
  have g0 : GI s c m room R [some (.ref (c + 1)), some (.ref (c + 2)), some (.ref (c + 3)), some (.ref (c + 4)), some (.ref (c + 5)), some (.ref (c + 6)), some (.ref (c + 7)), some (.ref (c + 8)), some (.ref (c + 9)), some (.ref (c + 10)), none, none, none, none] 0 s :=
    ⟨hm, by omega, hF0, fun i t i0 i1 => absurd i1 (by omega), fun _ _ _ => rfl, fun _ _ _ => ⟨rfl, rfl⟩, fun i i0 i1 => absurd i1 (by omega)⟩
  refine QW_s ?_
  simp only [g_50]
  refine GI_I g0 (by omega) w10 (by omega) (by omega) (hFa _ _ rfl) hR (by omega) rfl rfl rfl (fun s1 g1 => ?_)
  refine GI_I g1 (by omega) w10 (by omega) (by omega) (hFa _ _ rfl) hR (by omega) rfl rfl rfl (fun s2 g2 => ?_)
  refine GI_I g2 (by omega) w10 (by omega) (by omega) (hFa _ _ rfl) hR (by omega) rfl rfl rfl (fun s3 g3 => ?_)
  refine GI_I g3 (by omega) w10 (by omega) (by omega) (hFa _ _ rfl) hR (by omega) rfl rfl rfl (fun s4 g4 => ?_)
  refine GI_I g4 (by omega) w10 (by omega) (by omega) (hFa _ _ rfl) hR (by omega) rfl rfl rfl (fun s5 g5 => ?_)
  refine GI_I g5 (by omega) w10 (by omega) (by omega) (hFa _ _ rfl) hR (by omega) rfl rfl rfl (fun s6 g6 => ?_)
  refine GI_I g6 (by omega) w10 (by omega) (by omega) (hFa _ _ rfl) hR (by omega) rfl rfl rfl (fun s7 g7 => ?_)
  refine GI_L g7 (by omega) (by omega) w10 (by omega) (by omega) (hFa _ _ rfl) hR (by omega) rfl rfl rfl (fun s8 g8 => ?_)
  refine GI_L g8 (by omega) (by omega) w10 (by omega) (by omega) (hFa _ _ rfl) hR (by omega) rfl rfl rfl (fun s9 g9 => ?_)
  refine GI_L g9 (by omega) (by omega) w10 (by omega) (by omega) (hFa _ _ rfl) hR (by omega) rfl rfl rfl (fun s10 g10 => ?_)
  obtain ⟨e1, e2, e3, e4, e5, e6, e7⟩ := g10
  have e6' := fun f => e6 24 (by omega) (f : Int)
  refine QW_ret ⟨m, ⟨?_, fun i t it => ?_, fun i x i0 i1 x0 x1 => ?_, fun i x i0 i1 x0 x1 => ?_, (e6 24 (by omega) _).1.trans w3, (e6 24 (by omega) _).1.trans w4, (e6 24 (by omega) _).1.trans w5, (e6 24 (by omega) _).1.trans w6, w7, by omega, by omega, by omega, by show m + 10 < s10.1; omega, by show 80 < s10.1; omega⟩, by show s.1 ≤ s10.1; omega, by omega, by show s10.1 + room ≤ s.1 + R; omega, by show s10.2.1 + 20 * room ≤ s.2.1 + 20 * R; omega, Or.inr ⟨by omega, by show m + 10 < s10.1; omega⟩, fun a a0 a1 a2 => ⟨e5 a (by omega) a1, fun j => e6 a (by omega) j⟩⟩
  · rw [e3]
    rfl
  · have i0 : 1 ≤ i ∧ i ≤ 10 := by
      unfold shFa at it
      split at it <;> first | omega | cases it
    exact e4 i t i0.1 i0.2 it
  · rw [(e7 i (by omega) (by omega) x x0 (by omega)).1 i1]
    exact w1 i x i0 i1 x0 x1
  · rw [(e7 i (by omega) i1 x x0 (by omega)).2 i0]
    exact w2 i x i0 i1 x0 x1
end CGR
