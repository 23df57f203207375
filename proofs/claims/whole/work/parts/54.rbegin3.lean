/-! begin -/
section RB3
variable {o : X_O} {Ps : Int → PT} {szs : Int → Int → Int} {nP sec : Int} {sig : Int → Int64} {G : GT} {s : Q_S} {P : PT} {base u b : Int} {m p : Int} {d : DT} {st : List FR} {xs RX RB : List Int} {k : Nat}
theorem r_side (hR : RS Ps nP sec sig s G base u b (2, p, d, st) xs RX RB) (hg : GW Ps szs nP sec G) (hP : Ps (G_pg G) = P) (h0 : 0 ≤ p) (h1 : p < P_n P) (hd : 0 ≤ base ∧ base + st.length ≤ 60) (hl : (xs ++ RX).length < 6144) (hrb : (RB.length : Int) = 2 * G_sd G) :
    QW (fun n => g_128 o n 0 s 38 b p) (fun q => if base + st.length = 60 ∨ 1 + 2 * (G_sd G + 1) > 100 then q = (m_flt s 4 p, ()) else ∃ it', RF Ps nP sec sig q.1 (G_side G 1) (k + 2) base u (4, p, d, (p, 0) :: st, some (newB k (P_1 P p), newB k (P_2 P p))) it' RX RB ∧ itB (k + 2) it' = b ∧ ST s q.1 RX RB) := by
  have hR' := hR
  have hpush := hR.push (o := o) (q := p) hd hl
  have htop := hR.top
  obtain ⟨hs, hG, ⟨b1, b2, b3, b4, b5, b6⟩, h4, h5, h6, h7, h8, h9, h10, hf, h12⟩ := hR
  obtain ⟨t1, t2, t3⟩ := rpS_top h9 (show rpS s base u st xs (q_I s 64 b) from b6)
  have hW : WP P (szs (G_pg G)) := by rw [← hP]; exact hg.2.2.2.2.1 _ hg.2.2.2.2.2.1 hg.2.2.2.2.2.2.1
  have hn := hW.2.1
  have hsd : q_F s 38 45 = G_sd G := hG.2.2.2.2.2.2.2.2.2.2.2
  have hsr : 0 ≤ G_sd G ∧ G_sd G ≤ 49 := ⟨hg.2.2.2.2.2.2.2.2.2.2.1, hg.2.2.2.2.2.2.2.2.2.2.2.1⟩
  have hft : QW (fun n => g_128 o n 1 s 38 0 p) (fun q => q = (m_flt s 4 p, ())) := by
    refine QW_s ?_
    simp only [g_128]
    refine QW_p (k_rc (hs _ _ rfl)) ?_
    refine QW_e (m_fault hs hf) ?_
    exact QW_ret rfl
  refine QW_s ?_
  simp only [g_128]
  repeat (first | (refine QW_p (k_gv (hs _ _ rfl) rfl rfl) ?_) | (refine QW_p (k_gi (hs _ _ rfl) rfl) ?_) | (refine QW_p (k_rc (hs _ _ rfl)) ?_) | (refine QW_p (k_pi (hs _ _ rfl) rfl rfl) ?_) | (refine QW_p (k_pz (hs _ _ rfl) rfl rfl (by decide)) ?_) | (refine QW_g (by first | omega | decide | (simp only [q_F_sf, q_F_si, q_F_sl, q_F_st, q_F_cL, q_I_sf, q_L_sf, q_T_sf, q_I_si, q_I_sl, q_I_st, q_I_cI, q_I_cL, q_L_si, q_L_sl, q_L_st, q_L_cI, q_L_cL, q_T_si, q_T_sl]; omega)) ?_) | (refine QW_p (k_ia (hs _ _ rfl) (by first | omega | decide | (simp only [q_F_sf, q_F_si, q_F_sl, q_F_st, q_F_cL, q_I_sf, q_L_sf, q_T_sf, q_I_si, q_I_sl, q_I_st, q_I_cI, q_I_cL, q_L_si, q_L_sl, q_L_st, q_L_cI, q_L_cL, q_T_si, q_T_sl]; omega)) (by first | omega | decide | (simp only [q_F_sf, q_F_si, q_F_sl, q_F_st, q_F_cL, q_I_sf, q_L_sf, q_T_sf, q_I_si, q_I_sl, q_I_st, q_I_cI, q_I_cL, q_L_si, q_L_sl, q_L_st, q_L_cI, q_L_cL, q_T_si, q_T_sl]; omega)) (by decide)) ?_) | (refine QW_p (k_la (hs _ _ rfl) (by first | omega | decide | (simp only [q_F_sf, q_F_si, q_F_sl, q_F_st, q_F_cL, q_I_sf, q_L_sf, q_T_sf, q_I_si, q_I_sl, q_I_st, q_I_cI, q_I_cL, q_L_si, q_L_sl, q_L_st, q_L_cI, q_L_cL, q_T_si, q_T_sl]; omega)) (by first | omega | decide | (simp only [q_F_sf, q_F_si, q_F_sl, q_F_st, q_F_cL, q_I_sf, q_L_sf, q_T_sf, q_I_si, q_I_sl, q_I_st, q_I_cI, q_I_cL, q_L_si, q_L_sl, q_L_st, q_L_cI, q_L_cL, q_T_si, q_T_sl]; omega)) (by decide)) ?_) | (refine QW_p (k_ba (hs _ _ rfl) (by first | omega | decide | (simp only [q_F_sf, q_F_si, q_F_sl, q_F_st, q_F_cL, q_I_sf, q_L_sf, q_T_sf, q_I_si, q_I_sl, q_I_st, q_I_cI, q_I_cL, q_L_si, q_L_sl, q_L_st, q_L_cI, q_L_cL, q_T_si, q_T_sl]; omega)) (by first | omega | decide | (simp only [q_F_sf, q_F_si, q_F_sl, q_F_st, q_F_cL, q_I_sf, q_L_sf, q_T_sf, q_I_si, q_I_sl, q_I_st, q_I_cI, q_I_cL, q_L_si, q_L_sl, q_L_st, q_L_cI, q_L_cL, q_T_si, q_T_sl]; omega)) (by decide)) ?_) | (refine QW_p (k_is (hs _ _ rfl) (by first | omega | decide | (simp only [q_F_sf, q_F_si, q_F_sl, q_F_st, q_F_cL, q_I_sf, q_L_sf, q_T_sf, q_I_si, q_I_sl, q_I_st, q_I_cI, q_I_cL, q_L_si, q_L_sl, q_L_st, q_L_cI, q_L_cL, q_T_si, q_T_sl]; omega)) (by first | omega | decide | (simp only [q_F_sf, q_F_si, q_F_sl, q_F_st, q_F_cL, q_I_sf, q_L_sf, q_T_sf, q_I_si, q_I_sl, q_I_st, q_I_cI, q_I_cL, q_L_si, q_L_sl, q_L_st, q_L_cI, q_L_cL, q_T_si, q_T_sl]; omega)) (by decide)) ?_) | (refine QW_p (k_ls (hs _ _ rfl) (by first | omega | decide | (simp only [q_F_sf, q_F_si, q_F_sl, q_F_st, q_F_cL, q_I_sf, q_L_sf, q_T_sf, q_I_si, q_I_sl, q_I_st, q_I_cI, q_I_cL, q_L_si, q_L_sl, q_L_st, q_L_cI, q_L_cL, q_T_si, q_T_sl]; omega)) (by first | omega | decide | (simp only [q_F_sf, q_F_si, q_F_sl, q_F_st, q_F_cL, q_I_sf, q_L_sf, q_T_sf, q_I_si, q_I_sl, q_I_st, q_I_cI, q_I_cL, q_L_si, q_L_sl, q_L_st, q_L_cI, q_L_cL, q_T_si, q_T_sl]; omega)) (by decide)) ?_) | (refine QW_p (k_bs (hs _ _ rfl) (by first | omega | decide | (simp only [q_F_sf, q_F_si, q_F_sl, q_F_st, q_F_cL, q_I_sf, q_L_sf, q_T_sf, q_I_si, q_I_sl, q_I_st, q_I_cI, q_I_cL, q_L_si, q_L_sl, q_L_st, q_L_cI, q_L_cL, q_T_si, q_T_sl]; omega)) (by first | omega | decide | (simp only [q_F_sf, q_F_si, q_F_sl, q_F_st, q_F_cL, q_I_sf, q_L_sf, q_T_sf, q_I_si, q_I_sl, q_I_st, q_I_cI, q_I_cL, q_L_si, q_L_sl, q_L_st, q_L_cI, q_L_cL, q_T_si, q_T_sl]; omega)) (by decide) (by decide)) ?_) | (refine QW_it (by first | omega | decide | (simp only [q_F_sf, q_F_si, q_F_sl, q_F_st, q_F_cL, q_I_sf, q_L_sf, q_T_sf, q_I_si, q_I_sl, q_I_st, q_I_cI, q_I_cL, q_L_si, q_L_sl, q_L_st, q_L_cI, q_L_cL, q_T_si, q_T_sl]; omega)) ?_) | (refine QW_if (by first | omega | decide | (simp only [q_F_sf, q_F_si, q_F_sl, q_F_st, q_F_cL, q_I_sf, q_L_sf, q_T_sf, q_I_si, q_I_sl, q_I_st, q_I_cI, q_I_cL, q_L_si, q_L_sl, q_L_st, q_L_cI, q_L_cL, q_T_si, q_T_sl]; omega)) ?_))
  refine QW_e (m_127 hs (by omega)) ?_
  dsimp only
  rw [t1]
  repeat (first | (refine QW_p (k_gv (hs _ _ rfl) rfl rfl) ?_) | (refine QW_p (k_gi (hs _ _ rfl) rfl) ?_) | (refine QW_p (k_rc (hs _ _ rfl)) ?_) | (refine QW_p (k_pi (hs _ _ rfl) rfl rfl) ?_) | (refine QW_p (k_pz (hs _ _ rfl) rfl rfl (by decide)) ?_) | (refine QW_g (by first | omega | decide | (simp only [q_F_sf, q_F_si, q_F_sl, q_F_st, q_F_cL, q_I_sf, q_L_sf, q_T_sf, q_I_si, q_I_sl, q_I_st, q_I_cI, q_I_cL, q_L_si, q_L_sl, q_L_st, q_L_cI, q_L_cL, q_T_si, q_T_sl]; omega)) ?_) | (refine QW_p (k_ia (hs _ _ rfl) (by first | omega | decide | (simp only [q_F_sf, q_F_si, q_F_sl, q_F_st, q_F_cL, q_I_sf, q_L_sf, q_T_sf, q_I_si, q_I_sl, q_I_st, q_I_cI, q_I_cL, q_L_si, q_L_sl, q_L_st, q_L_cI, q_L_cL, q_T_si, q_T_sl]; omega)) (by first | omega | decide | (simp only [q_F_sf, q_F_si, q_F_sl, q_F_st, q_F_cL, q_I_sf, q_L_sf, q_T_sf, q_I_si, q_I_sl, q_I_st, q_I_cI, q_I_cL, q_L_si, q_L_sl, q_L_st, q_L_cI, q_L_cL, q_T_si, q_T_sl]; omega)) (by decide)) ?_) | (refine QW_p (k_la (hs _ _ rfl) (by first | omega | decide | (simp only [q_F_sf, q_F_si, q_F_sl, q_F_st, q_F_cL, q_I_sf, q_L_sf, q_T_sf, q_I_si, q_I_sl, q_I_st, q_I_cI, q_I_cL, q_L_si, q_L_sl, q_L_st, q_L_cI, q_L_cL, q_T_si, q_T_sl]; omega)) (by first | omega | decide | (simp only [q_F_sf, q_F_si, q_F_sl, q_F_st, q_F_cL, q_I_sf, q_L_sf, q_T_sf, q_I_si, q_I_sl, q_I_st, q_I_cI, q_I_cL, q_L_si, q_L_sl, q_L_st, q_L_cI, q_L_cL, q_T_si, q_T_sl]; omega)) (by decide)) ?_) | (refine QW_p (k_ba (hs _ _ rfl) (by first | omega | decide | (simp only [q_F_sf, q_F_si, q_F_sl, q_F_st, q_F_cL, q_I_sf, q_L_sf, q_T_sf, q_I_si, q_I_sl, q_I_st, q_I_cI, q_I_cL, q_L_si, q_L_sl, q_L_st, q_L_cI, q_L_cL, q_T_si, q_T_sl]; omega)) (by first | omega | decide | (simp only [q_F_sf, q_F_si, q_F_sl, q_F_st, q_F_cL, q_I_sf, q_L_sf, q_T_sf, q_I_si, q_I_sl, q_I_st, q_I_cI, q_I_cL, q_L_si, q_L_sl, q_L_st, q_L_cI, q_L_cL, q_T_si, q_T_sl]; omega)) (by decide)) ?_) | (refine QW_p (k_is (hs _ _ rfl) (by first | omega | decide | (simp only [q_F_sf, q_F_si, q_F_sl, q_F_st, q_F_cL, q_I_sf, q_L_sf, q_T_sf, q_I_si, q_I_sl, q_I_st, q_I_cI, q_I_cL, q_L_si, q_L_sl, q_L_st, q_L_cI, q_L_cL, q_T_si, q_T_sl]; omega)) (by first | omega | decide | (simp only [q_F_sf, q_F_si, q_F_sl, q_F_st, q_F_cL, q_I_sf, q_L_sf, q_T_sf, q_I_si, q_I_sl, q_I_st, q_I_cI, q_I_cL, q_L_si, q_L_sl, q_L_st, q_L_cI, q_L_cL, q_T_si, q_T_sl]; omega)) (by decide)) ?_) | (refine QW_p (k_ls (hs _ _ rfl) (by first | omega | decide | (simp only [q_F_sf, q_F_si, q_F_sl, q_F_st, q_F_cL, q_I_sf, q_L_sf, q_T_sf, q_I_si, q_I_sl, q_I_st, q_I_cI, q_I_cL, q_L_si, q_L_sl, q_L_st, q_L_cI, q_L_cL, q_T_si, q_T_sl]; omega)) (by first | omega | decide | (simp only [q_F_sf, q_F_si, q_F_sl, q_F_st, q_F_cL, q_I_sf, q_L_sf, q_T_sf, q_I_si, q_I_sl, q_I_st, q_I_cI, q_I_cL, q_L_si, q_L_sl, q_L_st, q_L_cI, q_L_cL, q_T_si, q_T_sl]; omega)) (by decide)) ?_) | (refine QW_p (k_bs (hs _ _ rfl) (by first | omega | decide | (simp only [q_F_sf, q_F_si, q_F_sl, q_F_st, q_F_cL, q_I_sf, q_L_sf, q_T_sf, q_I_si, q_I_sl, q_I_st, q_I_cI, q_I_cL, q_L_si, q_L_sl, q_L_st, q_L_cI, q_L_cL, q_T_si, q_T_sl]; omega)) (by first | omega | decide | (simp only [q_F_sf, q_F_si, q_F_sl, q_F_st, q_F_cL, q_I_sf, q_L_sf, q_T_sf, q_I_si, q_I_sl, q_I_st, q_I_cI, q_I_cL, q_L_si, q_L_sl, q_L_st, q_L_cI, q_L_cL, q_T_si, q_T_sl]; omega)) (by decide) (by decide)) ?_) | (refine QW_it (by first | omega | decide | (simp only [q_F_sf, q_F_si, q_F_sl, q_F_st, q_F_cL, q_I_sf, q_L_sf, q_T_sf, q_I_si, q_I_sl, q_I_st, q_I_cI, q_I_cL, q_L_si, q_L_sl, q_L_st, q_L_cI, q_L_cL, q_T_si, q_T_sl]; omega)) ?_) | (refine QW_if (by first | omega | decide | (simp only [q_F_sf, q_F_si, q_F_sl, q_F_st, q_F_cL, q_I_sf, q_L_sf, q_T_sf, q_I_si, q_I_sl, q_I_st, q_I_cI, q_I_cL, q_L_si, q_L_sl, q_L_st, q_L_cI, q_L_cL, q_T_si, q_T_sl]; omega)) ?_))
  refine QW_by (fun c => ?_) (fun c => ?_)
  · simp only [if_pos (Or.inl c : base + (st.length : Int) = 60 ∨ 1 + 2 * (G_sd G + 1) > 100)]
    exact hft
  · refine QW_p (k_gi (hs _ _ rfl) rfl) ?_
    rw [hsd]
    repeat (first | (refine QW_p (k_gv (hs _ _ rfl) rfl rfl) ?_) | (refine QW_p (k_gi (hs _ _ rfl) rfl) ?_) | (refine QW_p (k_rc (hs _ _ rfl)) ?_) | (refine QW_p (k_pi (hs _ _ rfl) rfl rfl) ?_) | (refine QW_p (k_pz (hs _ _ rfl) rfl rfl (by decide)) ?_) | (refine QW_g (by first | omega | decide | (simp only [q_F_sf, q_F_si, q_F_sl, q_F_st, q_F_cL, q_I_sf, q_L_sf, q_T_sf, q_I_si, q_I_sl, q_I_st, q_I_cI, q_I_cL, q_L_si, q_L_sl, q_L_st, q_L_cI, q_L_cL, q_T_si, q_T_sl]; omega)) ?_) | (refine QW_p (k_ia (hs _ _ rfl) (by first | omega | decide | (simp only [q_F_sf, q_F_si, q_F_sl, q_F_st, q_F_cL, q_I_sf, q_L_sf, q_T_sf, q_I_si, q_I_sl, q_I_st, q_I_cI, q_I_cL, q_L_si, q_L_sl, q_L_st, q_L_cI, q_L_cL, q_T_si, q_T_sl]; omega)) (by first | omega | decide | (simp only [q_F_sf, q_F_si, q_F_sl, q_F_st, q_F_cL, q_I_sf, q_L_sf, q_T_sf, q_I_si, q_I_sl, q_I_st, q_I_cI, q_I_cL, q_L_si, q_L_sl, q_L_st, q_L_cI, q_L_cL, q_T_si, q_T_sl]; omega)) (by decide)) ?_) | (refine QW_p (k_la (hs _ _ rfl) (by first | omega | decide | (simp only [q_F_sf, q_F_si, q_F_sl, q_F_st, q_F_cL, q_I_sf, q_L_sf, q_T_sf, q_I_si, q_I_sl, q_I_st, q_I_cI, q_I_cL, q_L_si, q_L_sl, q_L_st, q_L_cI, q_L_cL, q_T_si, q_T_sl]; omega)) (by first | omega | decide | (simp only [q_F_sf, q_F_si, q_F_sl, q_F_st, q_F_cL, q_I_sf, q_L_sf, q_T_sf, q_I_si, q_I_sl, q_I_st, q_I_cI, q_I_cL, q_L_si, q_L_sl, q_L_st, q_L_cI, q_L_cL, q_T_si, q_T_sl]; omega)) (by decide)) ?_) | (refine QW_p (k_ba (hs _ _ rfl) (by first | omega | decide | (simp only [q_F_sf, q_F_si, q_F_sl, q_F_st, q_F_cL, q_I_sf, q_L_sf, q_T_sf, q_I_si, q_I_sl, q_I_st, q_I_cI, q_I_cL, q_L_si, q_L_sl, q_L_st, q_L_cI, q_L_cL, q_T_si, q_T_sl]; omega)) (by first | omega | decide | (simp only [q_F_sf, q_F_si, q_F_sl, q_F_st, q_F_cL, q_I_sf, q_L_sf, q_T_sf, q_I_si, q_I_sl, q_I_st, q_I_cI, q_I_cL, q_L_si, q_L_sl, q_L_st, q_L_cI, q_L_cL, q_T_si, q_T_sl]; omega)) (by decide)) ?_) | (refine QW_p (k_is (hs _ _ rfl) (by first | omega | decide | (simp only [q_F_sf, q_F_si, q_F_sl, q_F_st, q_F_cL, q_I_sf, q_L_sf, q_T_sf, q_I_si, q_I_sl, q_I_st, q_I_cI, q_I_cL, q_L_si, q_L_sl, q_L_st, q_L_cI, q_L_cL, q_T_si, q_T_sl]; omega)) (by first | omega | decide | (simp only [q_F_sf, q_F_si, q_F_sl, q_F_st, q_F_cL, q_I_sf, q_L_sf, q_T_sf, q_I_si, q_I_sl, q_I_st, q_I_cI, q_I_cL, q_L_si, q_L_sl, q_L_st, q_L_cI, q_L_cL, q_T_si, q_T_sl]; omega)) (by decide)) ?_) | (refine QW_p (k_ls (hs _ _ rfl) (by first | omega | decide | (simp only [q_F_sf, q_F_si, q_F_sl, q_F_st, q_F_cL, q_I_sf, q_L_sf, q_T_sf, q_I_si, q_I_sl, q_I_st, q_I_cI, q_I_cL, q_L_si, q_L_sl, q_L_st, q_L_cI, q_L_cL, q_T_si, q_T_sl]; omega)) (by first | omega | decide | (simp only [q_F_sf, q_F_si, q_F_sl, q_F_st, q_F_cL, q_I_sf, q_L_sf, q_T_sf, q_I_si, q_I_sl, q_I_st, q_I_cI, q_I_cL, q_L_si, q_L_sl, q_L_st, q_L_cI, q_L_cL, q_T_si, q_T_sl]; omega)) (by decide)) ?_) | (refine QW_p (k_bs (hs _ _ rfl) (by first | omega | decide | (simp only [q_F_sf, q_F_si, q_F_sl, q_F_st, q_F_cL, q_I_sf, q_L_sf, q_T_sf, q_I_si, q_I_sl, q_I_st, q_I_cI, q_I_cL, q_L_si, q_L_sl, q_L_st, q_L_cI, q_L_cL, q_T_si, q_T_sl]; omega)) (by first | omega | decide | (simp only [q_F_sf, q_F_si, q_F_sl, q_F_st, q_F_cL, q_I_sf, q_L_sf, q_T_sf, q_I_si, q_I_sl, q_I_st, q_I_cI, q_I_cL, q_L_si, q_L_sl, q_L_st, q_L_cI, q_L_cL, q_T_si, q_T_sl]; omega)) (by decide) (by decide)) ?_) | (refine QW_it (by first | omega | decide | (simp only [q_F_sf, q_F_si, q_F_sl, q_F_st, q_F_cL, q_I_sf, q_L_sf, q_T_sf, q_I_si, q_I_sl, q_I_st, q_I_cI, q_I_cL, q_L_si, q_L_sl, q_L_st, q_L_cI, q_L_cL, q_T_si, q_T_sl]; omega)) ?_) | (refine QW_if (by first | omega | decide | (simp only [q_F_sf, q_F_si, q_F_sl, q_F_st, q_F_cL, q_I_sf, q_L_sf, q_T_sf, q_I_si, q_I_sl, q_I_st, q_I_cI, q_I_cL, q_L_si, q_L_sl, q_L_st, q_L_cI, q_L_cL, q_T_si, q_T_sl]; omega)) ?_))
    refine QW_by (fun c2 => ?_) (fun c2 => ?_)
    · simp only [if_neg (show ¬ (base + (st.length : Int) = 60 ∨ 1 + 2 * (G_sd G + 1) > 100) by omega)]
      refine QW_p (k_rc (hs _ _ rfl)) ?_
      refine QW_c hpush (fun q hq => ?_)
      rw [if_neg c] at hq
      obtain ⟨x, rfl, hR1, hst1⟩ := hq
      dsimp only
      have hR1' := hR1
      obtain ⟨hs1, hG1, ⟨_, _, _, _, _, f6⟩, _, _, f9, f10, f11, _, _, ff1, _⟩ := hR1
      obtain ⟨y1, y2, y3, _⟩ := f6
      generalize hss : m_psh s b p x = s1 at *
      have hsd1 : q_F s1 38 45 = G_sd G := hG1.2.2.2.2.2.2.2.2.2.2.2
      have hfree1 : ∃ z, 0 ≤ z ∧ z < 104 ∧ q_I s1 69 z = 0 := by
        obtain ⟨z, z0, z1, z2⟩ := l_free 104 (b :: RB) (by simp; omega)
        refine ⟨z, z0, z1, ?_⟩
        rcases f11.1 z z0 z1 with e | e
        · exact e
        · exact absurd ((f11.2 z z0 z1).mp e) z2
      refine QW_p (k_gi (hs1 _ _ rfl) rfl) ?_
      refine QW_p (k_pi (hs1 _ _ rfl) rfl rfl) ?_
      have hs2 : SH (q_sf s1 38 45 (q_F s1 38 45 + 1)) := hs1
      have hG2 := hG1.sid (n := 1)
      have e64 : ∀ y, q_I (q_sf s1 38 45 (q_F s1 38 45 + 1)) 64 y = q_I s1 64 y := fun y => by simp [q_I_sf]
      have e69 : ∀ y, q_I (q_sf s1 38 45 (q_F s1 38 45 + 1)) 69 y = q_I s1 69 y := fun y => by simp [q_I_sf]
      have hg2 : GW Ps szs nP sec (G_side G 1) := by
        obtain ⟨w1, w2, w3, w4, w5, w6, w7, w8, w9, w10, w11, w12, w13⟩ := hg
        exact ⟨w1, w2, w3, w4, w5, w6, w7, w8, w9, w10, (by show 0 ≤ G_sd G + 1; omega), (by show G_sd G + 1 ≤ 49; omega), w13⟩
      refine QW_p (k_gv (hs2 _ _ rfl) rfl rfl) ?_
      refine QW_p (k_gv (hs2 _ _ rfl) rfl rfl) ?_
      refine QW_p (k_ia (hs2 _ _ rfl) b1 b2 (by decide)) ?_
      refine QW_p (k_gv (hs2 _ _ rfl) rfl rfl) ?_
      refine QW_p (k_ia (hs2 _ _ rfl) b1 b2 (by decide)) ?_
      rw [e64, y1]
      refine QW_p (k_rc (hs2 _ _ rfl)) ?_
      refine QW_e (r_1 hs2 hG2 hg2 hP h0 (by omega)) ?_
      dsimp only
      refine QW_p (k_rc (hs2 _ _ rfl)) ?_
      refine QW_c (m_107 hs2 (fun z z0 z1 => by rw [e69]; exact f11.1 z z0 z1) (by simp only [e69]; exact hfree1)) (fun q hq => ?_)
      obtain ⟨c1, c10, c11, c12, rfl⟩ := hq
      rw [e69] at c12
      dsimp only
      have hs3 : SH (m_brn (q_sf s1 38 45 (q_F s1 38 45 + 1)) c1 x (P_1 P p)) := hs1
      refine QW_p (k_is (hs3 _ _ rfl) y2 y3 (by decide)) ?_
      have hs4 : SH (q_si (m_brn (q_sf s1 38 45 (q_F s1 38 45 + 1)) c1 x (P_1 P p)) 59 x c1) := hs1
      have hG4 := (hG2.brn (b1 := c1) (x := x) (q := P_1 P p)).si (a := 59) (j := x) (v := c1) (by omega)
      have hu1 : c1 ∉ b :: RB := fun z => by have := (f11.2 c1 c10 c11).mpr z; omega
      have nb : ¬ b = c1 := fun z => hu1 (by rw [← z]; exact List.mem_cons_self)
      have e64' : q_I (q_si (m_brn (q_sf s1 38 45 (q_F s1 38 45 + 1)) c1 x (P_1 P p)) 59 x c1) 64 b = x := by simp [m_brn, q_I_si, q_I_sf, nb, y1]
      have e69' : ∀ y, ¬ y = c1 → q_I (q_si (m_brn (q_sf s1 38 45 (q_F s1 38 45 + 1)) c1 x (P_1 P p)) 59 x c1) 69 y = q_I s1 69 y := fun y hy => by simp [m_brn, q_I_si, q_I_sf, hy]
      have e69c : q_I (q_si (m_brn (q_sf s1 38 45 (q_F s1 38 45 + 1)) c1 x (P_1 P p)) 59 x c1) 69 c1 = 1 := by simp [m_brn, q_I_si, q_I_sf]
      have hfree2 : ∃ z, 0 ≤ z ∧ z < 104 ∧ q_I (q_si (m_brn (q_sf s1 38 45 (q_F s1 38 45 + 1)) c1 x (P_1 P p)) 59 x c1) 69 z = 0 := by
        obtain ⟨z, z0, z1, z2⟩ := l_free 104 (c1 :: b :: RB) (by simp; omega)
        have z3 : ¬ z = c1 := fun e => z2 (by rw [e]; exact List.mem_cons_self)
        refine ⟨z, z0, z1, ?_⟩
        rw [e69' z z3]
        rcases f11.1 z z0 z1 with e | e
        · exact e
        · exact absurd ((f11.2 z z0 z1).mp e) (fun y => z2 (List.mem_cons_of_mem _ y))
      refine QW_p (k_gv (hs4 _ _ rfl) rfl rfl) ?_
      refine QW_p (k_gv (hs4 _ _ rfl) rfl rfl) ?_
      refine QW_p (k_ia (hs4 _ _ rfl) b1 b2 (by decide)) ?_
      refine QW_p (k_gv (hs4 _ _ rfl) rfl rfl) ?_
      refine QW_p (k_ia (hs4 _ _ rfl) b1 b2 (by decide)) ?_
      rw [e64']
      refine QW_p (k_rc (hs4 _ _ rfl)) ?_
      refine QW_e (r_2 hs4 hG4 hg2 hP h0 (by omega)) ?_
      dsimp only
      refine QW_p (k_rc (hs4 _ _ rfl)) ?_
      refine QW_c (m_107 hs4 (fun z z0 z1 => ?_) hfree2) (fun q hq => ?_)
      · by_cases z3 : z = c1
        · rw [z3]; exact Or.inr e69c
        · rw [e69' z z3]; exact f11.1 z z0 z1
      obtain ⟨c2, c20, c21, c22, rfl⟩ := hq
      dsimp only
      have hs5 : SH (m_brn (q_si (m_brn (q_sf s1 38 45 (q_F s1 38 45 + 1)) c1 x (P_1 P p)) 59 x c1) c2 x (P_2 P p)) := hs1
      refine QW_p (k_is (hs5 _ _ rfl) y2 y3 (by decide)) ?_
      refine QW_p (k_gv (hs5 _ _ rfl) rfl rfl) ?_
      refine QW_p (k_is (hs5 _ _ rfl) b1 b2 (by decide)) ?_
      obtain ⟨r1, r2⟩ := hR1'.side (k := k) (o1 := P_1 P p) (o2 := P_2 P p) c10 c11 c12 c20 c21 c22
      exact QW_ret ⟨_, r1, rfl, hst1.tr r2⟩
    · simp only [if_pos (show (base + (st.length : Int) = 60 ∨ 1 + 2 * (G_sd G + 1) > 100) by omega)]
      exact hft
end RB3
