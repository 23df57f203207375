/-! THE REFERENCE'S begin -/
section RB1
variable {o : X_O} {Ps : Int → PT} {szs : Int → Int → Int} {nP sec : Int} {sig : Int → Int64} {G : GT} {s : Q_S} {P : PT} {base u b : Int} {m p : Int} {d : DT} {st : List FR} {xs RX RB : List Int}
theorem r_eP (hG : GM Ps nP sec sig G s) (hg : GW Ps szs nP sec G) (hP : Ps (G_pg G) = P) : m_P s (q_F s 38 18) = P ∧ 0 ≤ q_F s 38 18 ∧ q_F s 38 18 < 20 := by
  obtain ⟨g1, g2, g3, g4, g5, g6, g7, g8, g9, g10, g11, g12⟩ := hG
  obtain ⟨w1, w2, w3, w4, w5, w6, w7, w8⟩ := hg
  rw [g10]
  exact ⟨(g3 _ w6 w7).trans hP, w6, by omega⟩
theorem r_w (hs : SH s) (hG : GM Ps nP sec sig G s) (hg : GW Ps szs nP sec G) (hP : Ps (G_pg G) = P) (h0 : 0 ≤ p) (h1 : p < 500) : QW (fun n => g_111 o n 0 s 38 p) (fun q => q = (s, P_w P p)) := by
  obtain ⟨e, e1, e2⟩ := r_eP hG hg hP
  rw [← e]
  exact m_what hs (by omega) (by omega)
theorem r_1 (hs : SH s) (hG : GM Ps nP sec sig G s) (hg : GW Ps szs nP sec G) (hP : Ps (G_pg G) = P) (h0 : 0 ≤ p) (h1 : p < 500) : QW (fun n => g_112 o n 0 s 38 p) (fun q => q = (s, P_1 P p)) := by
  obtain ⟨e, e1, e2⟩ := r_eP hG hg hP
  rw [← e]
  exact m_112 hs (by omega) (by omega)
theorem r_2 (hs : SH s) (hG : GM Ps nP sec sig G s) (hg : GW Ps szs nP sec G) (hP : Ps (G_pg G) = P) (h0 : 0 ≤ p) (h1 : p < 500) : QW (fun n => g_116 o n 0 s 38 p) (fun q => q = (s, P_2 P p)) := by
  obtain ⟨e, e1, e2⟩ := r_eP hG hg hP
  rw [← e]
  exact m_116 hs (by omega) (by omega)
theorem r_3 (hs : SH s) (hG : GM Ps nP sec sig G s) (hg : GW Ps szs nP sec G) (hP : Ps (G_pg G) = P) (h0 : 0 ≤ p) (h1 : p < 500) : QW (fun n => g_119 o n 0 s 38 p) (fun q => q = (s, P_3 P p)) := by
  obtain ⟨e, e1, e2⟩ := r_eP hG hg hP
  rw [← e]
  exact m_119 hs (by omega) (by omega)
theorem r_u (hs : SH s) (hG : GM Ps nP sec sig G s) (hg : GW Ps szs nP sec G) (hP : Ps (G_pg G) = P) (h0 : 0 ≤ p) (h1 : p < 500) : QW (fun n => g_130 o n 0 s 38 p) (fun q => q = (s, P_u P p)) := by
  obtain ⟨e, e1, e2⟩ := r_eP hG hg hP
  rw [← e]
  exact m_130 hs (by omega) (by omega)
theorem r_v (hs : SH s) (hG : GM Ps nP sec sig G s) (hg : GW Ps szs nP sec G) (hP : Ps (G_pg G) = P) (h0 : 0 ≤ p) (h1 : p < 500) : QW (fun n => g_124 o n 0 s 38 p) (fun q => q = (s, (P_v P p).toInt)) := by
  obtain ⟨e, e1, e2⟩ := r_eP hG hg hP
  rw [← e]
  exact m_124 hs (by omega) (by omega)
theorem GW.begun (hg : GW Ps szs nP sec G) (h : ¬ G_bg G = 500) : GW Ps szs nP sec (G_begun G) := by
  obtain ⟨w1, w2, w3, w4, w5, w6, w7, w8, w9, w10, w11⟩ := hg
  refine ⟨w1, w2, w3, w4, w5, w6, w7, w8, ?_, ?_, w11⟩
  · show 0 ≤ G_bg G + 1
    omega
  · show G_bg G + 1 ≤ 500
    omega
theorem RS.top (h : RS Ps nP sec sig s G base u b (m, p, d, st) xs RX RB) : q_I s 64 b = -1 ∨ (0 ≤ q_I s 64 b ∧ q_I s 64 b < 6144 ∧ q_I s 61 (q_I s 64 b) = 1) := by
  obtain ⟨h1, h2, ⟨b1, b2, b3, b4, b5, b6⟩, h4, h5, h6, h7, h8, h9, h10, h11, h12⟩ := h
  cases st with
  | nil =>
    cases xs with
    | nil =>
      have e : q_I s 64 b = u := b6
      rw [e]
      rcases h9 with h9 | h9
      · exact Or.inl h9.1
      · refine Or.inr ⟨h9.1, h9.2.1, (h6.2 u h9.1 h9.2.1).mpr ?_⟩
        rcases h10 with z | z
        · omega
        · simpa using z
    | cons y ys => exact b6.elim
  | cons f t =>
    obtain ⟨q, a⟩ := f
    cases xs with
    | nil => exact b6.elim
    | cons y ys =>
      obtain ⟨e1, e2, e3, e4⟩ := b6
      rw [e1]
      exact Or.inr ⟨e2, e3, (h6.2 y e2 e3).mpr (by simp)⟩
/-- a push, in the run's words -/
theorem RS.push {q : Int} (h : RS Ps nP sec sig s G base u b (m, p, d, st) xs RX RB) (hd : 0 ≤ base ∧ base + st.length ≤ 60) (hl : (xs ++ RX).length < 6144) :
    QW (fun n => g_126 o n 0 s 38 b q) (fun r => if base + st.length = 60 then r = (m_flt s 4 q, 0) else ∃ x, r = (m_psh s b q x, 1) ∧ RS Ps nP sec sig (m_psh s b q x) G base u b (m, p, d, (q, 0) :: st) (x :: xs) RX RB ∧ ST s (m_psh s b q x) RX RB) := by
  have ht := h.top
  have h' := h
  obtain ⟨h1, h2, ⟨b1, b2, b3, b4, b5, b6⟩, h4, h5, h6, h7, h8, h9, h10, h11, h12⟩ := h
  obtain ⟨t1, t2, t3⟩ := rpS_top h9 (show rpS s base u st xs (q_I s 64 b) from b6)
  obtain ⟨x, x0, x1, x2⟩ := l_free 6144 (xs ++ RX) hl
  have hx : q_I s 61 x = 0 := by
    rcases h6.1 x x0 x1 with z | z
    · exact z
    · exact absurd ((h6.2 x x0 x1).mp z) x2
  refine QW_m (m_126 h1 b1 b2 ht h6.1 (by rw [t1]; omega) h11 h12 ⟨x, x0, x1, hx⟩) (fun r hr => ?_)
  rw [t1] at hr
  by_cases e : base + (st.length : Int) = 60
  · rw [if_pos e] at hr ⊢
    exact hr
  · rw [if_neg e] at hr ⊢
    obtain ⟨y, y0, y1, y2, rfl⟩ := hr
    exact ⟨y, rfl, h'.psh y0 y1 y2⟩
end RB1
/-- what tells whether a row is used is 0 or 1 -/
def BLi (s : Q_S) : Prop := (∀ x, 0 ≤ x → x < 6144 → q_I s 61 x = 0 ∨ q_I s 61 x = 1) ∧ (∀ x, 0 ≤ x → x < 104 → q_I s 69 x = 0 ∨ q_I s 69 x = 1)
/-- a fault's end: the numbers are as they were, but begun -/
def FltP (Ps : Int → PT) (nP sec : Int) (sig : Int → Int64) (G : GT) (s s' : Q_S) (x : Int × Int) : Prop :=
  KP s s' ∧ (GM Ps nP sec sig G s' ∨ GM Ps nP sec sig (G_begun G) s') ∧ q_F s' 38 47 = 1 ∧ q_F s' 38 22 = 1 ∧ q_F s' 38 23 = sec ∧ q_F s' 38 24 = x.1 ∧ q_F s' 38 25 = x.2 ∧ BLi s'
section FLT
variable {Ps : Int → PT} {nP sec : Int} {sig : Int → Int64} {G : GT} {s s1 : Q_S} {k p : Int}
theorem m_flt_KP : KP s (m_flt s k p) := ((((KP.sf (by decide)).tr (KP.sf (by decide))).tr (KP.sf (by decide))).tr (KP.sf (by decide))).tr (KP.sf (by decide))
theorem m_flt_GM (h : GM Ps nP sec sig G s) : GM Ps nP sec sig G (m_flt s k p) := by
  refine h.kp m_flt_KP (fun _ => rfl) (fun _ => rfl) (fun i => ?_) (fun f hf => ?_) ⟨fun z => by rw [m_flt_47] at z; exact absurd z (by decide), by have := h.1.2.2; simpa [m_flt, q_F_sf] using this⟩
  · simp [m_flt, q_I_sf]
  · simp only [List.mem_cons, List.not_mem_nil, or_false] at hf
    rcases hf with e | e | e | e | e <;> subst e <;> simp [m_flt, q_F_sf]
theorem FltP.a (h : GM Ps nP sec sig G s) (hb : BLi s) : FltP Ps nP sec sig G s (m_flt s k p) (k, p) := by
  refine ⟨m_flt_KP, Or.inl (m_flt_GM h), m_flt_47 s k p, ?_, ?_, ?_, ?_, hb⟩
  · simp [m_flt, q_F_sf]
  · have := h.2.1
    simp [m_flt, q_F_sf, this]
  · simp [m_flt, q_F_sf]
  · simp [m_flt, q_F_sf]
theorem FltP.b (h : GM Ps nP sec sig (G_begun G) s1) (hK : KP s s1) (hb : BLi s1) : FltP Ps nP sec sig G s (m_flt s1 k p) (k, p) := by
  refine ⟨hK.tr m_flt_KP, Or.inr (m_flt_GM h), m_flt_47 s1 k p, ?_, ?_, ?_, ?_, hb⟩
  · simp [m_flt, q_F_sf]
  · have := h.2.1
    simp [m_flt, q_F_sf, this]
  · simp [m_flt, q_F_sf]
  · simp [m_flt, q_F_sf]
end FLT
