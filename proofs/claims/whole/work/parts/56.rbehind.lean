/-! isOver, phaseOver, behind -/
section RBH
variable {o : X_O} {Ps : Int → PT} {szs : Int → Int → Int} {nP sec : Int} {sig : Int → Int64} {G : GT} {s : Q_S} {P : PT} {base u b : Int} {m p : Int} {d : DT} {st : List FR} {xs RX RB : List Int} {k : Nat}
/-- isOver -/
theorem r_over (hR : RS Ps nP sec sig s G base u b (1, p, d, st) xs RX RB) (hg : GW Ps szs nP sec G) (hP : Ps (G_pg G) = P) (h0 : 0 ≤ p) (h1 : p < P_n P) (hw : P_w P p = 12 ∨ P_w P p = 13) (hdt : 0 ≤ d.1 ∧ d.1 ≤ sec ∧ 1 ≤ d.2.1) {a1 : Int64} {a3 a5 : Int} {a4 : Int64} :
    QW (fun n => g_134 o n 0 s 38 b a1 .null a3 a4 a5) (fun q => q.2 = (if (standA Ps sec G p d).2 = true then 1 else 0) ∧ RS Ps nP sec sig q.1 (standA Ps sec G p d).1 base u b (1, p, d, st) xs RX RB ∧ ST s q.1 RX RB) := by
  have hR' := hR
  obtain ⟨hs, hG, ⟨b1, b2, b3, b4, b5, b6⟩, h4, h5, h6, h7, h8, h9, h10, hf, h12⟩ := hR
  have e63 : q_I s 63 b = p := b4
  obtain ⟨d1, d2, d3⟩ := b5 rfl
  have d1' : q_I s 65 b = d.1 := d1
  have d2' : q_L s 66 b = d.2.1 := d2
  have hW : WP P (szs (G_pg G)) := by rw [← hP]; exact hg.2.2.2.2.1 _ hg.2.2.2.2.2.1 hg.2.2.2.2.2.2.1
  have hn := hW.2.1
  have hp := hW.2.2.2.2.2.1 p h0 h1
  have hsec : q_F s 38 19 = sec := hG.2.1
  have hsr : 0 ≤ sec ∧ sec ≤ 100000000 := ⟨hg.2.2.1, hg.2.2.2.1⟩
  have e2 : ∀ s' : Q_S, SH s' → q_L s' 66 b = d.2.1 → QW (fun n => g_134 o n 2 s' 38 b (Int64.ofInt (sec - d.1)) .null 0 0 0) (fun q => q = (s', if d.2.1 ≤ Int64.ofInt (sec - d.1) then 1 else 0)) := by
    intro s' hs' hl
    refine QW_s ?_
    simp only [g_134]
    refine QW_p (k_gv (hs' _ _ rfl) rfl rfl) ?_
    refine QW_p (k_la (hs' _ _ rfl) b1 b2 (by decide)) ?_
    rw [hl]
    refine QW_by (fun c => ?_) (fun c => ?_)
    · refine QW_s ?_
      simp only [g_134]
      repeat (first | (refine QW_g (by first | omega | decide | (simp only [q_F_sf, q_F_si, q_F_sl, q_F_st, q_F_cL, q_I_sf, q_L_sf, q_T_sf, q_I_si, q_I_sl, q_I_st, q_I_cI, q_I_cL, q_L_si, q_L_sl, q_L_st, q_L_cI, q_L_cL, q_T_si, q_T_sl]; omega)) ?_) | (refine QW_it (by first | omega | decide | (simp only [q_F_sf, q_F_si, q_F_sl, q_F_st, q_F_cL, q_I_sf, q_L_sf, q_T_sf, q_I_si, q_I_sl, q_I_st, q_I_cI, q_I_cL, q_L_si, q_L_sl, q_L_st, q_L_cI, q_L_cL, q_T_si, q_T_sl]; omega)) ?_) | (refine QW_if (by first | omega | decide | (simp only [q_F_sf, q_F_si, q_F_sl, q_F_st, q_F_cL, q_I_sf, q_L_sf, q_T_sf, q_I_si, q_I_sl, q_I_st, q_I_cI, q_I_cL, q_L_si, q_L_sl, q_L_st, q_L_cI, q_L_cL, q_T_si, q_T_sl]; omega)) ?_))
      refine QW_ret ?_
      rw [if_neg (Int64.not_le.mpr c)]
    · refine QW_s ?_
      simp only [g_134]
      repeat (first | (refine QW_g (by first | omega | decide | (simp only [q_F_sf, q_F_si, q_F_sl, q_F_st, q_F_cL, q_I_sf, q_L_sf, q_T_sf, q_I_si, q_I_sl, q_I_st, q_I_cI, q_I_cL, q_L_si, q_L_sl, q_L_st, q_L_cI, q_L_cL, q_T_si, q_T_sl]; omega)) ?_) | (refine QW_it (by first | omega | decide | (simp only [q_F_sf, q_F_si, q_F_sl, q_F_st, q_F_cL, q_I_sf, q_L_sf, q_T_sf, q_I_si, q_I_sl, q_I_st, q_I_cI, q_I_cL, q_L_si, q_L_sl, q_L_st, q_L_cI, q_L_cL, q_T_si, q_T_sl]; omega)) ?_) | (refine QW_if (by first | omega | decide | (simp only [q_F_sf, q_F_si, q_F_sl, q_F_st, q_F_cL, q_I_sf, q_L_sf, q_T_sf, q_I_si, q_I_sl, q_I_st, q_I_cI, q_I_cL, q_L_si, q_L_sl, q_L_st, q_L_cI, q_L_cL, q_T_si, q_T_sl]; omega)) ?_))
      refine QW_ret ?_
      rw [if_pos (Int64.not_lt.mp c)]
  refine QW_s ?_
  simp only [g_134]
  refine QW_p (k_gi (hs _ _ rfl) rfl) ?_
  refine QW_p (k_gv (hs _ _ rfl) rfl rfl) ?_
  refine QW_p (k_ia (hs _ _ rfl) b1 b2 (by decide)) ?_
  rw [hsec, d1']
  refine QW_g (by omega) ?_
  refine QW_p (k_gv (hs _ _ rfl) rfl rfl) ?_
  refine QW_p (k_ia (hs _ _ rfl) b1 b2 (by decide)) ?_
  rw [e63]
  refine QW_p (k_rc (hs _ _ rfl)) ?_
  refine QW_e (r_w hs hG hg hP h0 (by omega)) ?_
  dsimp only
  refine QW_g (by omega) ?_
  rcases hw with hw | hw
  · rw [hw]
    refine QW_it (by decide) ?_
    refine QW_m (e2 s hs d2') (fun q hq => ?_)
    subst hq
    have e : (standA Ps sec G p d).1 = G := by simp [standA, hP, hw]
    rw [e]
    refine ⟨?_, hR', ST.rf _ _ _⟩
    simp [standA]
  · rw [hw]
    have hrgv : 0 ≤ (P_v P p).toInt ∧ (P_v P p).toInt < 8 := by
      rcases hp.2.2 with h | h | h | h | h | h | h | h | h | h | h | h | h | h | h | h
      all_goals first
        | (exfalso; have := h.1; have := h.2.1; omega)
        | (exfalso; have := h.1; omega)
        | exact h.2.2.2.2.1
    obtain ⟨d3a, d4a⟩ := d3 (by rw [hP]; exact hw)
    have d3' : q_L s 67 b = d.2.2.1 := d3a
    have d4' : q_L s 68 b = d.2.2.2 := d4a
    refine QW_if (by decide) ?_
    refine QW_p (k_gv (hs _ _ rfl) rfl rfl) ?_
    refine QW_p (k_gv (hs _ _ rfl) rfl rfl) ?_
    refine QW_p (k_ia (hs _ _ rfl) b1 b2 (by decide)) ?_
    rw [e63]
    refine QW_p (k_rc (hs _ _ rfl)) ?_
    refine QW_e (r_v hs hG hg hP h0 (by omega)) ?_
    dsimp only
    refine QW_p (k_gv (hs _ _ rfl) rfl rfl) ?_
    refine QW_p (k_la (hs _ _ rfl) b1 b2 (by decide)) ?_
    rw [d2']
    have hnz : ¬ d.2.1 = 0 := fun e => by
      have := hdt.2.2
      rw [e] at this
      exact absurd this (by decide)
    refine QW_by (fun c => ?_) (fun c => ?_)
    · refine QW_p (k_gv (hs _ _ rfl) rfl rfl) ?_
      refine QW_p (k_la (hs _ _ rfl) b1 b2 (by decide)) ?_
      refine QW_p (k_gv (hs _ _ rfl) rfl rfl) ?_
      refine QW_p (k_la (hs _ _ rfl) b1 b2 (by decide)) ?_
      refine QW_p (k_gv (hs _ _ rfl) rfl rfl) ?_
      refine QW_p (k_la (hs _ _ rfl) b1 b2 (by decide)) ?_
      refine QW_p (k_gv (hs _ _ rfl) rfl rfl) ?_
      refine QW_p (k_la (hs _ _ rfl) b1 b2 (by decide)) ?_
      rw [d2', d3', d4']
      refine QW_g hnz ?_
      refine QW_s ?_
      simp only [g_134]
      refine QW_p (k_ls (hs _ _ rfl) hrgv.1 hrgv.2 (by decide)) ?_
      obtain ⟨r0, t0⟩ := hR'.out (j := (P_v P p).toInt) (v := d.2.2.1 + (d.2.2.2 - d.2.2.1) * Int64.ofInt (sec - d.1) / d.2.1)
      refine QW_m (e2 _ r0.1 (by simpa [q_L_sl] using d2')) (fun q hq => ?_)
      subst hq
      have cn : ¬ d.2.1 ≤ Int64.ofInt (sec - d.1) := Int64.not_le.mpr c
      have e : (standA Ps sec G p d).1 = G_setO G (P_v P p).toInt (d.2.2.1 + (d.2.2.2 - d.2.2.1) * Int64.ofInt (sec - d.1) / d.2.1) := by simp only [standA, hP, hw, if_true]; first | rw [if_neg cn] | rw [if_pos cn]
      rw [e]
      refine ⟨?_, r0, t0⟩
      simp [standA]
    · refine QW_p (k_gv (hs _ _ rfl) rfl rfl) ?_
      refine QW_p (k_la (hs _ _ rfl) b1 b2 (by decide)) ?_
      rw [d4']
      refine QW_s ?_
      simp only [g_134]
      refine QW_p (k_ls (hs _ _ rfl) hrgv.1 hrgv.2 (by decide)) ?_
      obtain ⟨r0, t0⟩ := hR'.out (j := (P_v P p).toInt) (v := d.2.2.2)
      refine QW_m (e2 _ r0.1 (by simpa [q_L_sl] using d2')) (fun q hq => ?_)
      subst hq
      have cn : d.2.1 ≤ Int64.ofInt (sec - d.1) := Int64.not_lt.mp c
      have e : (standA Ps sec G p d).1 = G_setO G (P_v P p).toInt d.2.2.2 := by simp only [standA, hP, hw, if_true]; first | rw [if_neg cn] | rw [if_pos cn]
      rw [e]
      refine ⟨?_, r0, t0⟩
      simp [standA]
end RBH
theorem q_si_self {s : Q_S} {a : Nat} {j : Int} : q_si s a j (q_I s a j) = s := by
  obtain ⟨n, z, T, I, L⟩ := s
  simp only [q_si, q_I, Prod.mk.injEq, true_and, and_true]
  funext k i
  split
  · rename_i h
    rw [h.1, h.2]
  · rfl
theorem phA_rg {P : PT} : ∀ (f : Nat) (p n : Int), 0 ≤ p → phA P f p n = -1 ∨ (p ≤ phA P f p n ∧ phA P f p n < p + f ∧ phA P f p n < P_n P ∧ isPh P (phA P f p n) = true) := by
  intro f
  induction f with
  | zero => intro p n h; exact Or.inl rfl
  | succ f ih =>
    intro p n h
    simp only [phA]
    by_cases c : P_n P ≤ p
    · rw [if_pos c]; exact Or.inl rfl
    · rw [if_neg c]
      by_cases c2 : isPh P p = true
      · rw [if_pos c2]
        by_cases c3 : n - 1 = 0
        · rw [if_pos c3]; exact Or.inr ⟨by omega, by omega, by omega, c2⟩
        · rw [if_neg c3]
          rcases ih (p + 1) (n - 1) (by omega) with z | z
          · exact Or.inl z
          · exact Or.inr ⟨by omega, by omega, z.2.2.1, z.2.2.2⟩
      · rw [if_neg c2]
        rcases ih (p + 1) n (by omega) with z | z
        · exact Or.inl z
        · exact Or.inr ⟨by omega, by omega, z.2.2.1, z.2.2.2⟩
/-- the names are unbound -/
def m_nm8 (s : Q_S) (i : Int) : Q_S := (s.1, s.2.1, s.2.2.1, (fun c k => if c = 54 ∧ i ≤ k ∧ k < 8 then -1 else s.2.2.2.1 c k), s.2.2.2.2)
theorem m_nm8_si {s : Q_S} {i : Int} (h1 : i < 8) : m_nm8 (q_si s 54 i (-1)) (i + 1) = m_nm8 s i := by
  obtain ⟨n, z, T, I, L⟩ := s
  simp only [m_nm8, q_si, Prod.mk.injEq, true_and, and_true]
  funext c k
  by_cases e : c = 54
  · subst e
    by_cases e2 : k = i
    · subst e2
      rw [if_neg (by omega), if_pos ⟨rfl, rfl⟩, if_pos ⟨rfl, by omega, by omega⟩]
    · by_cases e3 : i ≤ k ∧ k < 8
      · rw [if_pos ⟨rfl, by omega, by omega⟩, if_pos ⟨rfl, e3⟩]
      · rw [if_neg (by omega), if_neg (by omega), if_neg (by omega)]
  · rw [if_neg (fun z => e z.1), if_neg (fun z => e z.1), if_neg (fun z => e z.1)]
theorem m_nm8_8 {s : Q_S} : m_nm8 s 8 = s := by
  obtain ⟨n, z, T, I, L⟩ := s
  simp only [m_nm8, Prod.mk.injEq, true_and, and_true]
  funext c k
  rw [if_neg (by omega)]
theorem q_I_nm {s : Q_S} {i k : Int} {c : Nat} : q_I (m_nm8 s i) c k = if c = 54 ∧ i ≤ k ∧ k < 8 then -1 else q_I s c k := rfl
theorem q_F_nm {s : Q_S} {i : Int} {f : Nat} : q_F (m_nm8 s i) 38 f = q_F s 38 f := by
  show (if (38 : Nat) = 54 ∧ i ≤ (f : Int) ∧ (f : Int) < 8 then -1 else q_F s 38 f) = _
  rw [if_neg (fun z => by have := z.1; omega)]
section RPH
variable {o : X_O} {Ps : Int → PT} {szs : Int → Int → Int} {nP sec : Int} {sig : Int → Int64} {G G' : GT} {s s' : Q_S} {P : PT} {base u b : Int} {m p q : Int} {d : DT} {st : List FR} {c : CT} {xs RX RB : List Int} {k : Nat}
theorem m_132s {Q : Q_S × Unit → Prop} : ∀ (j : Nat) (i : Int) (s : Q_S), SH s → i + j = 8 → 0 ≤ i → QW (fun n => g_132 o n 1 (m_nm8 s i) 38 b 8) Q → QW (fun n => g_132 o n 1 s 38 b i) Q := by
  intro j
  induction j with
  | zero =>
    intro i s hs h h0 K
    have e : i = 8 := by omega
    subst e
    rw [m_nm8_8] at K
    exact K
  | succ j ih =>
    intro i s hs h h0 K
    refine QW_s ?_
    simp only [g_132]
    repeat (first | (refine QW_p (k_gv (hs _ _ rfl) rfl rfl) ?_) | (refine QW_p (k_gi (hs _ _ rfl) rfl) ?_) | (refine QW_p (k_rc (hs _ _ rfl)) ?_) | (refine QW_p (k_pi (hs _ _ rfl) rfl rfl) ?_) | (refine QW_p (k_pz (hs _ _ rfl) rfl rfl (by decide)) ?_) | (refine QW_g (by first | omega | decide | (simp only [q_F_sf, q_F_si, q_F_sl, q_F_st, q_F_cL, q_I_sf, q_L_sf, q_T_sf, q_I_si, q_I_sl, q_I_st, q_I_cI, q_I_cL, q_L_si, q_L_sl, q_L_st, q_L_cI, q_L_cL, q_T_si, q_T_sl]; omega)) ?_) | (refine QW_p (k_ia (hs _ _ rfl) (by first | omega | decide | (simp only [q_F_sf, q_F_si, q_F_sl, q_F_st, q_F_cL, q_I_sf, q_L_sf, q_T_sf, q_I_si, q_I_sl, q_I_st, q_I_cI, q_I_cL, q_L_si, q_L_sl, q_L_st, q_L_cI, q_L_cL, q_T_si, q_T_sl]; omega)) (by first | omega | decide | (simp only [q_F_sf, q_F_si, q_F_sl, q_F_st, q_F_cL, q_I_sf, q_L_sf, q_T_sf, q_I_si, q_I_sl, q_I_st, q_I_cI, q_I_cL, q_L_si, q_L_sl, q_L_st, q_L_cI, q_L_cL, q_T_si, q_T_sl]; omega)) (by decide)) ?_) | (refine QW_p (k_la (hs _ _ rfl) (by first | omega | decide | (simp only [q_F_sf, q_F_si, q_F_sl, q_F_st, q_F_cL, q_I_sf, q_L_sf, q_T_sf, q_I_si, q_I_sl, q_I_st, q_I_cI, q_I_cL, q_L_si, q_L_sl, q_L_st, q_L_cI, q_L_cL, q_T_si, q_T_sl]; omega)) (by first | omega | decide | (simp only [q_F_sf, q_F_si, q_F_sl, q_F_st, q_F_cL, q_I_sf, q_L_sf, q_T_sf, q_I_si, q_I_sl, q_I_st, q_I_cI, q_I_cL, q_L_si, q_L_sl, q_L_st, q_L_cI, q_L_cL, q_T_si, q_T_sl]; omega)) (by decide)) ?_) | (refine QW_p (k_ba (hs _ _ rfl) (by first | omega | decide | (simp only [q_F_sf, q_F_si, q_F_sl, q_F_st, q_F_cL, q_I_sf, q_L_sf, q_T_sf, q_I_si, q_I_sl, q_I_st, q_I_cI, q_I_cL, q_L_si, q_L_sl, q_L_st, q_L_cI, q_L_cL, q_T_si, q_T_sl]; omega)) (by first | omega | decide | (simp only [q_F_sf, q_F_si, q_F_sl, q_F_st, q_F_cL, q_I_sf, q_L_sf, q_T_sf, q_I_si, q_I_sl, q_I_st, q_I_cI, q_I_cL, q_L_si, q_L_sl, q_L_st, q_L_cI, q_L_cL, q_T_si, q_T_sl]; omega)) (by decide)) ?_) | (refine QW_p (k_is (hs _ _ rfl) (by first | omega | decide | (simp only [q_F_sf, q_F_si, q_F_sl, q_F_st, q_F_cL, q_I_sf, q_L_sf, q_T_sf, q_I_si, q_I_sl, q_I_st, q_I_cI, q_I_cL, q_L_si, q_L_sl, q_L_st, q_L_cI, q_L_cL, q_T_si, q_T_sl]; omega)) (by first | omega | decide | (simp only [q_F_sf, q_F_si, q_F_sl, q_F_st, q_F_cL, q_I_sf, q_L_sf, q_T_sf, q_I_si, q_I_sl, q_I_st, q_I_cI, q_I_cL, q_L_si, q_L_sl, q_L_st, q_L_cI, q_L_cL, q_T_si, q_T_sl]; omega)) (by decide)) ?_) | (refine QW_p (k_ls (hs _ _ rfl) (by first | omega | decide | (simp only [q_F_sf, q_F_si, q_F_sl, q_F_st, q_F_cL, q_I_sf, q_L_sf, q_T_sf, q_I_si, q_I_sl, q_I_st, q_I_cI, q_I_cL, q_L_si, q_L_sl, q_L_st, q_L_cI, q_L_cL, q_T_si, q_T_sl]; omega)) (by first | omega | decide | (simp only [q_F_sf, q_F_si, q_F_sl, q_F_st, q_F_cL, q_I_sf, q_L_sf, q_T_sf, q_I_si, q_I_sl, q_I_st, q_I_cI, q_I_cL, q_L_si, q_L_sl, q_L_st, q_L_cI, q_L_cL, q_T_si, q_T_sl]; omega)) (by decide)) ?_) | (refine QW_p (k_bs (hs _ _ rfl) (by first | omega | decide | (simp only [q_F_sf, q_F_si, q_F_sl, q_F_st, q_F_cL, q_I_sf, q_L_sf, q_T_sf, q_I_si, q_I_sl, q_I_st, q_I_cI, q_I_cL, q_L_si, q_L_sl, q_L_st, q_L_cI, q_L_cL, q_T_si, q_T_sl]; omega)) (by first | omega | decide | (simp only [q_F_sf, q_F_si, q_F_sl, q_F_st, q_F_cL, q_I_sf, q_L_sf, q_T_sf, q_I_si, q_I_sl, q_I_st, q_I_cI, q_I_cL, q_L_si, q_L_sl, q_L_st, q_L_cI, q_L_cL, q_T_si, q_T_sl]; omega)) (by decide) (by decide)) ?_) | (refine QW_it (by first | omega | decide | (simp only [q_F_sf, q_F_si, q_F_sl, q_F_st, q_F_cL, q_I_sf, q_L_sf, q_T_sf, q_I_si, q_I_sl, q_I_st, q_I_cI, q_I_cL, q_L_si, q_L_sl, q_L_st, q_L_cI, q_L_cL, q_T_si, q_T_sl]; omega)) ?_) | (refine QW_if (by first | omega | decide | (simp only [q_F_sf, q_F_si, q_F_sl, q_F_st, q_F_cL, q_I_sf, q_L_sf, q_T_sf, q_I_si, q_I_sl, q_I_st, q_I_cI, q_I_cL, q_L_si, q_L_sl, q_L_st, q_L_cI, q_L_cL, q_T_si, q_T_sl]; omega)) ?_))
    refine ih (i + 1) _ hs (by omega) (by omega) ?_
    rw [m_nm8_si (by omega)]
    exact K
/-- nothing of the tree is touched, the program may be -/
theorem RS.glob2 (h : RS Ps nP sec sig s G base u b c xs RX RB) (hm : ¬ c.1 = 1) (hK : KP s s') (hG : GM Ps nP sec sig G' s') (hI : ∀ a : Nat, 55 ≤ a → a ≤ 69 → ∀ j, q_I s' a j = q_I s a j ∧ q_L s' a j = q_L s a j) (hf : q_F s' 38 47 = q_F s 38 47) (hn : q_F s' 38 36 = q_F s 38 36) : RS Ps nP sec sig s' G' base u b c xs RX RB := by
  obtain ⟨h1, h2, ⟨b1, b2, b3, b4, b5, b6⟩, h4, h5, h6, h7, h8, h9, h10, h11, h12⟩ := h
  have i := fun a h0 h1 j => (hI a h0 h1 j).1
  have l := fun a h0 h1 j => (hI a h0 h1 j).2
  refine ⟨hK.sh h1, hG, ⟨b1, b2, (i 62 (by omega) (by omega) b).trans b3, (i 63 (by omega) (by omega) b).trans b4, fun z => absurd z hm, ?_⟩, fun x hx => (i 59 (by omega) (by omega) x).trans (h4 x hx), h5, ⟨fun x h0 h1 => ?_, fun x h0 h1 => ?_⟩, h7, ⟨fun x h0 h1 => ?_, fun x h0 h1 => ?_⟩, ?_, h10, hf.trans h11, by rw [hn]; exact h12⟩
  · rw [i 64 (by omega) (by omega) b]
    exact rpS_same _ _ _ (fun y _ => ⟨i 55 (by omega) (by omega) y, i 56 (by omega) (by omega) y, i 57 (by omega) (by omega) y, l 58 (by omega) (by omega) y⟩) b6
  · rw [i 61 (by omega) (by omega) x]; exact h6.1 x h0 h1
  · rw [i 61 (by omega) (by omega) x]; exact h6.2 x h0 h1
  · rw [i 69 (by omega) (by omega) x]; exact h8.1 x h0 h1
  · rw [i 69 (by omega) (by omega) x]; exact h8.2 x h0 h1
  · unfold UD
    rw [i 57 (by omega) (by omega) u]
    exact h9
theorem KP.nm : KP s (m_nm8 s 0) := by
  refine ⟨rfl, rfl, rfl, fun c hc j => ⟨?_, rfl⟩, q_F_nm, q_F_nm, q_F_nm, q_F_nm, q_F_nm, q_F_nm, q_F_nm, q_F_nm⟩
  rw [q_I_nm, if_neg (fun z => by have := z.1; omega)]
theorem GM.phase (g : GM Ps nP sec sig G s) : GM Ps nP sec sig (G_phase G) (q_sf s 38 20 (q_F s 38 20 + 1)) := by
  obtain ⟨g1, g2, g3, g4, g5, g6, g7, g8, g9, g10, g11, g12⟩ := g
  have hK : KP s (q_sf s 38 20 (q_F s 38 20 + 1)) := KP.sf (by decide)
  have hf : ∀ f : Nat, ¬ f = 20 → q_F (q_sf s 38 20 (q_F s 38 20 + 1)) 38 f = q_F s 38 f := fun f h => by rw [q_F_sf, if_neg (fun z => h z.2)]
  refine ⟨⟨(hf 8 (by decide)).trans g1.1, by rw [hf 47 (by decide), hf 22 (by decide), hf 36 (by decide)]; exact g1.2⟩, (hf 19 (by decide)).trans g2, fun k h0 h1 => (hK.mP k).trans (g3 k h0 h1), g4, g5, g6, fun j h0 h1 => ?_, ?_, (hf 21 (by decide)).trans g9, (hf 18 (by decide)).trans g10, (hf 46 (by decide)).trans g11, (hf 45 (by decide)).trans g12⟩
  · rw [q_I_sf, if_neg (fun z => by have := z.1; omega)]
    exact g7 j h0 h1
  · rw [q_F_sf, if_pos ⟨rfl, rfl⟩, g8]
    rfl
theorem GM.over (g : GM Ps nP sec sig G s) : GM Ps nP sec sig (G_over G) (m_nm8 (q_sf (q_sf s 38 18 (q_F s 38 21)) 38 21 (-1)) 0) := by
  have hK : KP s (m_nm8 (q_sf (q_sf s 38 18 (q_F s 38 21)) 38 21 (-1)) 0) := ((KP.sf (by decide)).tr (KP.sf (by decide))).tr KP.nm
  obtain ⟨g1, g2, g3, g4, g5, g6, g7, g8, g9, g10, g11, g12⟩ := g
  refine ⟨⟨?_, ?_⟩, ?_, fun k h0 h1 => (hK.mP k).trans (g3 k h0 h1), g4, g5, g6, fun j h0 h1 => ?_, ?_, ?_, ?_, ?_, ?_⟩
  · rw [q_F_nm]; simpa [q_F_sf] using g1.1
  · rw [q_F_nm, q_F_nm, q_F_nm]; simpa [q_F_sf] using g1.2
  · rw [q_F_nm]; simpa [q_F_sf] using g2
  · rw [q_I_nm, if_pos ⟨rfl, h0, h1⟩]
    rfl
  · rw [q_F_nm]; simp only [q_F_sf]; simp; exact g8
  · rw [q_F_nm]; simp [q_F_sf]; rfl
  · rw [q_F_nm]; simp only [q_F_sf]; simp; exact g9
  · rw [q_F_nm]; simp only [q_F_sf]; simp; exact g11
  · rw [q_F_nm]; simp only [q_F_sf]; simp; exact g12
theorem r_phase (hR : RS Ps nP sec sig s G base u b (3, q, d, st) xs RX RB) (hg : GW Ps szs nP sec G) {a : Int} :
    QW (fun n => g_132 o n 0 s 38 b a) (fun r => RS Ps nP sec sig r.1 (phaseA Ps G q d st).1 base u b (phaseA Ps G q d st).2 xs RX RB ∧ ST s r.1 RX RB) := by
  have hR' := hR
  obtain ⟨hs, hG, ⟨b1, b2, b3, b4, b5, b6⟩, h4, h5, h6, h7, h8, h9, h10, hf, h12⟩ := hR
  have hsw : q_F s 38 21 = G_sw G := hG.2.2.2.2.2.2.2.2.1
  have hph : q_F s 38 20 = G_ph G := hG.2.2.2.2.2.2.2.1
  have hgs := hg.2.2.2.2.2.2.2.1
  have hnP := hg.2.1
  have hphr : 0 ≤ G_ph G ∧ G_ph G ≤ 900000 := ⟨hg.2.2.2.2.2.2.2.2.2.2.2.2.1, hg.2.2.2.2.2.2.2.2.2.2.2.2.2.1⟩
  have hst1 : ST s (q_sf s 38 20 (q_F s 38 20 + 1)) RX RB := ST.sf (by decide)
  have hI1 : ∀ a : Nat, 55 ≤ a → a ≤ 69 → ∀ j, q_I (q_sf s 38 20 (q_F s 38 20 + 1)) a j = q_I s a j ∧ q_L (q_sf s 38 20 (q_F s 38 20 + 1)) a j = q_L s a j := fun a h0 h1 j => ⟨by rw [q_I_sf, if_neg (fun z => by have := z.1; omega)], rfl⟩
  have hR1 : RS Ps nP sec sig (q_sf s 38 20 (q_F s 38 20 + 1)) (G_phase G) base u b (3, q, d, st) xs RX RB := hR'.glob hst1.1 hG.phase rfl hI1 (by simp [q_F_sf]) (by simp [q_F_sf])
  refine QW_s ?_
  simp only [g_132]
  refine QW_p (k_gi (hs _ _ rfl) rfl) ?_
  refine QW_p (k_pi (hs _ _ rfl) rfl rfl) ?_
  have hsw1 : q_F (q_sf s 38 20 (q_F s 38 20 + 1)) 38 21 = G_sw G := by rw [← hsw]; simp [q_F_sf]
  have hph1 : q_F (q_sf s 38 20 (q_F s 38 20 + 1)) 38 20 = G_ph G + 1 := by rw [← hph]; simp [q_F_sf]
  have hs1 : SH (q_sf s 38 20 (q_F s 38 20 + 1)) := hs
  have hG1 : GM Ps nP sec sig (G_phase G) (q_sf s 38 20 (q_F s 38 20 + 1)) := hG.phase
  generalize q_sf s 38 20 (q_F s 38 20 + 1) = s1 at *
  refine QW_p (k_gi (hs1 _ _ rfl) rfl) ?_
  rw [hsw1]
  refine QW_g (by omega) ?_
  by_cases cs : G_sw G = -1
  · refine QW_if (by omega) ?_
    rw [show phaseA Ps G q d st = (G_phase G, (3, q, d, st)) by simp [phaseA, cs]]
    exact QW_ret ⟨hR1, hst1⟩
  · refine QW_it cs ?_
    refine QW_p (k_gi (hs1 _ _ rfl) rfl) ?_
    refine QW_p (k_pi (hs1 _ _ rfl) rfl rfl) ?_
    refine QW_p (k_pi (hs1 _ _ rfl) rfl rfl) ?_
    refine m_132s 8 0 _ hs1 (by omega) (by omega) ?_
    have hG2 := hG1.over
    have hst2 : ST s1 (m_nm8 (q_sf (q_sf s1 38 18 (q_F s1 38 21)) 38 21 (-1)) 0) RX RB := by
      refine ((ST.sf (by decide)).tr (ST.sf (by decide))).tr (ST.glob KP.nm (fun a h0 h1 j => ⟨by rw [q_I_nm, if_neg (fun z => by have := z.1; omega)], rfl⟩))
    have hI2 : ∀ a : Nat, 55 ≤ a → a ≤ 69 → ∀ j, q_I (m_nm8 (q_sf (q_sf s1 38 18 (q_F s1 38 21)) 38 21 (-1)) 0) a j = q_I s1 a j ∧ q_L (m_nm8 (q_sf (q_sf s1 38 18 (q_F s1 38 21)) 38 21 (-1)) 0) a j = q_L s1 a j := fun a h0 h1 j => ⟨by rw [q_I_nm, if_neg (fun z => by have := z.1; omega), q_I_sf, if_neg (fun z => by have := z.1; omega), q_I_sf, if_neg (fun z => by have := z.1; omega)], rfl⟩
    have hR2 : RS Ps nP sec sig (m_nm8 (q_sf (q_sf s1 38 18 (q_F s1 38 21)) 38 21 (-1)) 0) (G_over (G_phase G)) base u b (3, q, d, st) xs RX RB := hR1.glob2 (by simp) hst2.1 hG2 hI2 (by rw [q_F_nm]; simp [q_F_sf]) (by rw [q_F_nm]; simp [q_F_sf])
    have hs2 : SH (m_nm8 (q_sf (q_sf s1 38 18 (q_F s1 38 21)) 38 21 (-1)) 0) := hs1
    have hph2 : q_F (m_nm8 (q_sf (q_sf s1 38 18 (q_F s1 38 21)) 38 21 (-1)) 0) 38 20 = G_ph G + 1 := by rw [q_F_nm]; simpa [q_F_sf] using hph1
    have hpg2 : q_F (m_nm8 (q_sf (q_sf s1 38 18 (q_F s1 38 21)) 38 21 (-1)) 0) 38 18 = G_sw G := by rw [q_F_nm]; simpa [q_F_sf] using hsw1
    have hm2 : m_P (m_nm8 (q_sf (q_sf s1 38 18 (q_F s1 38 21)) 38 21 (-1)) 0) (G_sw G) = Ps (G_sw G) := hG2.2.2.1 _ (by omega) (by omega)
    generalize m_nm8 (q_sf (q_sf s1 38 18 (q_F s1 38 21)) 38 21 (-1)) 0 = s2 at *
    have hW2 := hg.2.2.2.2.1 (G_sw G) (by omega) (by omega)
    have hn2 := hW2.2.1
    have h133 := m_133 (o := o) (sz := szs (G_sw G)) (k := G_ph G + 1) hs2 (by rw [hpg2, hm2]; exact hW2) (by rw [hpg2]; omega) (by omega) (by omega) (a := 0) (b := 0) (c := 0) (d := 0)
    rw [hpg2, hm2] at h133
    refine QW_s ?_
    simp only [g_132]
    refine QW_g (by omega) ?_
    refine QW_it (by omega) ?_
    refine QW_p (k_gi (hs2 _ _ rfl) rfl) ?_
    rw [hph2]
    refine QW_p (k_rc (hs2 _ _ rfl)) ?_
    refine QW_e h133 ?_
    dsimp only
    have hpr := phA_rg (P := Ps (G_sw G)) 501 0 (G_ph G + 1) (by omega)
    refine QW_g (by omega) ?_
    by_cases cp : phA (Ps (G_sw G)) 501 0 (G_ph G + 1) = -1
    · refine QW_if (by omega) ?_
      rw [show phaseA Ps G q d st = (G_over (G_phase G), (0, q, d, st)) by simp [phaseA, cs, cp]]
      refine QW_p (k_gv (hs2 _ _ rfl) rfl rfl) ?_
      refine QW_p (k_is (hs2 _ _ rfl) b1 b2 (by decide)) ?_
      refine QW_s ?_
      simp only [g_132]
      have e : q_si s2 62 b 0 = m_go s2 b 0 q := by
        unfold m_go
        rw [show q = q_I (q_si s2 62 b 0) 63 b by have : q_I s2 63 b = q := hR2.2.2.1.2.2.2.1; simp [q_I_si, this]]
        exact q_si_self.symm
      rw [e]
      obtain ⟨r2, t2⟩ := hR2.go (how := 0) (p := q) (d := d) (fun z => absurd z (by decide))
      exact QW_ret ⟨r2, (hst1.tr hst2).tr t2⟩
    · refine QW_it cp ?_
      rw [show phaseA Ps G q d st = (G_over (G_phase G), (3, phA (Ps (G_sw G)) 501 0 (G_ph G + 1), d, st)) by simp [phaseA, cs, cp]]
      refine QW_p (k_rc (hs2 _ _ rfl)) ?_
      refine QW_e (m_120 hs2 b1 b2) ?_
      dsimp only
      refine QW_s ?_
      simp only [g_132]
      obtain ⟨r2, t2⟩ := hR2.go (how := 3) (p := phA (Ps (G_sw G)) 501 0 (G_ph G + 1)) (d := d) (fun z => absurd z (by decide))
      exact QW_ret ⟨r2, (hst1.tr hst2).tr t2⟩
end RPH
