/-! THE CLASS'S SMALL CALLS: what each answers and leaves -/
section CSML
variable {o : X_O} {s : Q_S} {rw wt : Value}
theorem d_5 (hs : SH s) {k : Int} {v : Int64} (hk : q_in k) : QW (fun n => g_5 o n 0 s 0 k v) (fun q => q = if 0 ≤ k ∧ k ≤ 15 then (q_sl s 19 k v, 1) else (s, 0)) := by
  by_cases c : 0 ≤ k ∧ k ≤ 15
  · rw [if_pos c]
    repeat (refine QW_s ?_; simp only [g_5]; repeat (first | (refine QW_p (k_gv (hs _ _ rfl) rfl rfl) ?_) | (refine QW_p (k_gi (hs _ _ rfl) rfl) ?_) | (refine QW_p (k_rc (hs _ _ rfl)) ?_) | (refine QW_p (k_pi (hs _ _ rfl) rfl rfl) ?_) | (refine QW_p (k_pz (hs _ _ rfl) rfl rfl (by decide)) ?_) | (refine QW_g (by first | omega | decide | (simp only [q_F_sf, q_F_si, q_F_sl, q_F_st, q_F_cL, q_I_sf, q_L_sf, q_T_sf, q_I_si, q_I_sl, q_I_st, q_I_cI, q_I_cL, q_L_si, q_L_sl, q_L_st, q_L_cI, q_L_cL, q_T_si, q_T_sl]; omega)) ?_) | (refine QW_p (k_ia (hs _ _ rfl) (by first | omega | decide | (simp only [q_F_sf, q_F_si, q_F_sl, q_F_st, q_F_cL, q_I_sf, q_L_sf, q_T_sf, q_I_si, q_I_sl, q_I_st, q_I_cI, q_I_cL, q_L_si, q_L_sl, q_L_st, q_L_cI, q_L_cL, q_T_si, q_T_sl]; omega)) (by first | omega | decide | (simp only [q_F_sf, q_F_si, q_F_sl, q_F_st, q_F_cL, q_I_sf, q_L_sf, q_T_sf, q_I_si, q_I_sl, q_I_st, q_I_cI, q_I_cL, q_L_si, q_L_sl, q_L_st, q_L_cI, q_L_cL, q_T_si, q_T_sl]; omega)) (by decide)) ?_) | (refine QW_p (k_la (hs _ _ rfl) (by first | omega | decide | (simp only [q_F_sf, q_F_si, q_F_sl, q_F_st, q_F_cL, q_I_sf, q_L_sf, q_T_sf, q_I_si, q_I_sl, q_I_st, q_I_cI, q_I_cL, q_L_si, q_L_sl, q_L_st, q_L_cI, q_L_cL, q_T_si, q_T_sl]; omega)) (by first | omega | decide | (simp only [q_F_sf, q_F_si, q_F_sl, q_F_st, q_F_cL, q_I_sf, q_L_sf, q_T_sf, q_I_si, q_I_sl, q_I_st, q_I_cI, q_I_cL, q_L_si, q_L_sl, q_L_st, q_L_cI, q_L_cL, q_T_si, q_T_sl]; omega)) (by decide)) ?_) | (refine QW_p (k_ba (hs _ _ rfl) (by first | omega | decide | (simp only [q_F_sf, q_F_si, q_F_sl, q_F_st, q_F_cL, q_I_sf, q_L_sf, q_T_sf, q_I_si, q_I_sl, q_I_st, q_I_cI, q_I_cL, q_L_si, q_L_sl, q_L_st, q_L_cI, q_L_cL, q_T_si, q_T_sl]; omega)) (by first | omega | decide | (simp only [q_F_sf, q_F_si, q_F_sl, q_F_st, q_F_cL, q_I_sf, q_L_sf, q_T_sf, q_I_si, q_I_sl, q_I_st, q_I_cI, q_I_cL, q_L_si, q_L_sl, q_L_st, q_L_cI, q_L_cL, q_T_si, q_T_sl]; omega)) (by decide)) ?_) | (refine QW_p (k_is (hs _ _ rfl) (by first | omega | decide | (simp only [q_F_sf, q_F_si, q_F_sl, q_F_st, q_F_cL, q_I_sf, q_L_sf, q_T_sf, q_I_si, q_I_sl, q_I_st, q_I_cI, q_I_cL, q_L_si, q_L_sl, q_L_st, q_L_cI, q_L_cL, q_T_si, q_T_sl]; omega)) (by first | omega | decide | (simp only [q_F_sf, q_F_si, q_F_sl, q_F_st, q_F_cL, q_I_sf, q_L_sf, q_T_sf, q_I_si, q_I_sl, q_I_st, q_I_cI, q_I_cL, q_L_si, q_L_sl, q_L_st, q_L_cI, q_L_cL, q_T_si, q_T_sl]; omega)) (by decide)) ?_) | (refine QW_p (k_ls (hs _ _ rfl) (by first | omega | decide | (simp only [q_F_sf, q_F_si, q_F_sl, q_F_st, q_F_cL, q_I_sf, q_L_sf, q_T_sf, q_I_si, q_I_sl, q_I_st, q_I_cI, q_I_cL, q_L_si, q_L_sl, q_L_st, q_L_cI, q_L_cL, q_T_si, q_T_sl]; omega)) (by first | omega | decide | (simp only [q_F_sf, q_F_si, q_F_sl, q_F_st, q_F_cL, q_I_sf, q_L_sf, q_T_sf, q_I_si, q_I_sl, q_I_st, q_I_cI, q_I_cL, q_L_si, q_L_sl, q_L_st, q_L_cI, q_L_cL, q_T_si, q_T_sl]; omega)) (by decide)) ?_) | (refine QW_p (k_bs (hs _ _ rfl) (by first | omega | decide | (simp only [q_F_sf, q_F_si, q_F_sl, q_F_st, q_F_cL, q_I_sf, q_L_sf, q_T_sf, q_I_si, q_I_sl, q_I_st, q_I_cI, q_I_cL, q_L_si, q_L_sl, q_L_st, q_L_cI, q_L_cL, q_T_si, q_T_sl]; omega)) (by first | omega | decide | (simp only [q_F_sf, q_F_si, q_F_sl, q_F_st, q_F_cL, q_I_sf, q_L_sf, q_T_sf, q_I_si, q_I_sl, q_I_st, q_I_cI, q_I_cL, q_L_si, q_L_sl, q_L_st, q_L_cI, q_L_cL, q_T_si, q_T_sl]; omega)) (by decide) (by decide)) ?_) | (refine QW_it (by first | omega | decide | (simp only [q_F_sf, q_F_si, q_F_sl, q_F_st, q_F_cL, q_I_sf, q_L_sf, q_T_sf, q_I_si, q_I_sl, q_I_st, q_I_cI, q_I_cL, q_L_si, q_L_sl, q_L_st, q_L_cI, q_L_cL, q_T_si, q_T_sl]; omega)) ?_) | (refine QW_if (by first | omega | decide | (simp only [q_F_sf, q_F_si, q_F_sl, q_F_st, q_F_cL, q_I_sf, q_L_sf, q_T_sf, q_I_si, q_I_sl, q_I_st, q_I_cI, q_I_cL, q_L_si, q_L_sl, q_L_st, q_L_cI, q_L_cL, q_T_si, q_T_sl]; omega)) ?_)))
    exact QW_ret rfl
  · rw [if_neg c]
    by_cases c1 : k < 0
    · repeat (refine QW_s ?_; simp only [g_5]; repeat (first | (refine QW_p (k_gv (hs _ _ rfl) rfl rfl) ?_) | (refine QW_p (k_gi (hs _ _ rfl) rfl) ?_) | (refine QW_p (k_rc (hs _ _ rfl)) ?_) | (refine QW_p (k_pi (hs _ _ rfl) rfl rfl) ?_) | (refine QW_p (k_pz (hs _ _ rfl) rfl rfl (by decide)) ?_) | (refine QW_g (by first | omega | decide | (simp only [q_F_sf, q_F_si, q_F_sl, q_F_st, q_F_cL, q_I_sf, q_L_sf, q_T_sf, q_I_si, q_I_sl, q_I_st, q_I_cI, q_I_cL, q_L_si, q_L_sl, q_L_st, q_L_cI, q_L_cL, q_T_si, q_T_sl]; omega)) ?_) | (refine QW_p (k_ia (hs _ _ rfl) (by first | omega | decide | (simp only [q_F_sf, q_F_si, q_F_sl, q_F_st, q_F_cL, q_I_sf, q_L_sf, q_T_sf, q_I_si, q_I_sl, q_I_st, q_I_cI, q_I_cL, q_L_si, q_L_sl, q_L_st, q_L_cI, q_L_cL, q_T_si, q_T_sl]; omega)) (by first | omega | decide | (simp only [q_F_sf, q_F_si, q_F_sl, q_F_st, q_F_cL, q_I_sf, q_L_sf, q_T_sf, q_I_si, q_I_sl, q_I_st, q_I_cI, q_I_cL, q_L_si, q_L_sl, q_L_st, q_L_cI, q_L_cL, q_T_si, q_T_sl]; omega)) (by decide)) ?_) | (refine QW_p (k_la (hs _ _ rfl) (by first | omega | decide | (simp only [q_F_sf, q_F_si, q_F_sl, q_F_st, q_F_cL, q_I_sf, q_L_sf, q_T_sf, q_I_si, q_I_sl, q_I_st, q_I_cI, q_I_cL, q_L_si, q_L_sl, q_L_st, q_L_cI, q_L_cL, q_T_si, q_T_sl]; omega)) (by first | omega | decide | (simp only [q_F_sf, q_F_si, q_F_sl, q_F_st, q_F_cL, q_I_sf, q_L_sf, q_T_sf, q_I_si, q_I_sl, q_I_st, q_I_cI, q_I_cL, q_L_si, q_L_sl, q_L_st, q_L_cI, q_L_cL, q_T_si, q_T_sl]; omega)) (by decide)) ?_) | (refine QW_p (k_ba (hs _ _ rfl) (by first | omega | decide | (simp only [q_F_sf, q_F_si, q_F_sl, q_F_st, q_F_cL, q_I_sf, q_L_sf, q_T_sf, q_I_si, q_I_sl, q_I_st, q_I_cI, q_I_cL, q_L_si, q_L_sl, q_L_st, q_L_cI, q_L_cL, q_T_si, q_T_sl]; omega)) (by first | omega | decide | (simp only [q_F_sf, q_F_si, q_F_sl, q_F_st, q_F_cL, q_I_sf, q_L_sf, q_T_sf, q_I_si, q_I_sl, q_I_st, q_I_cI, q_I_cL, q_L_si, q_L_sl, q_L_st, q_L_cI, q_L_cL, q_T_si, q_T_sl]; omega)) (by decide)) ?_) | (refine QW_p (k_is (hs _ _ rfl) (by first | omega | decide | (simp only [q_F_sf, q_F_si, q_F_sl, q_F_st, q_F_cL, q_I_sf, q_L_sf, q_T_sf, q_I_si, q_I_sl, q_I_st, q_I_cI, q_I_cL, q_L_si, q_L_sl, q_L_st, q_L_cI, q_L_cL, q_T_si, q_T_sl]; omega)) (by first | omega | decide | (simp only [q_F_sf, q_F_si, q_F_sl, q_F_st, q_F_cL, q_I_sf, q_L_sf, q_T_sf, q_I_si, q_I_sl, q_I_st, q_I_cI, q_I_cL, q_L_si, q_L_sl, q_L_st, q_L_cI, q_L_cL, q_T_si, q_T_sl]; omega)) (by decide)) ?_) | (refine QW_p (k_ls (hs _ _ rfl) (by first | omega | decide | (simp only [q_F_sf, q_F_si, q_F_sl, q_F_st, q_F_cL, q_I_sf, q_L_sf, q_T_sf, q_I_si, q_I_sl, q_I_st, q_I_cI, q_I_cL, q_L_si, q_L_sl, q_L_st, q_L_cI, q_L_cL, q_T_si, q_T_sl]; omega)) (by first | omega | decide | (simp only [q_F_sf, q_F_si, q_F_sl, q_F_st, q_F_cL, q_I_sf, q_L_sf, q_T_sf, q_I_si, q_I_sl, q_I_st, q_I_cI, q_I_cL, q_L_si, q_L_sl, q_L_st, q_L_cI, q_L_cL, q_T_si, q_T_sl]; omega)) (by decide)) ?_) | (refine QW_p (k_bs (hs _ _ rfl) (by first | omega | decide | (simp only [q_F_sf, q_F_si, q_F_sl, q_F_st, q_F_cL, q_I_sf, q_L_sf, q_T_sf, q_I_si, q_I_sl, q_I_st, q_I_cI, q_I_cL, q_L_si, q_L_sl, q_L_st, q_L_cI, q_L_cL, q_T_si, q_T_sl]; omega)) (by first | omega | decide | (simp only [q_F_sf, q_F_si, q_F_sl, q_F_st, q_F_cL, q_I_sf, q_L_sf, q_T_sf, q_I_si, q_I_sl, q_I_st, q_I_cI, q_I_cL, q_L_si, q_L_sl, q_L_st, q_L_cI, q_L_cL, q_T_si, q_T_sl]; omega)) (by decide) (by decide)) ?_) | (refine QW_it (by first | omega | decide | (simp only [q_F_sf, q_F_si, q_F_sl, q_F_st, q_F_cL, q_I_sf, q_L_sf, q_T_sf, q_I_si, q_I_sl, q_I_st, q_I_cI, q_I_cL, q_L_si, q_L_sl, q_L_st, q_L_cI, q_L_cL, q_T_si, q_T_sl]; omega)) ?_) | (refine QW_if (by first | omega | decide | (simp only [q_F_sf, q_F_si, q_F_sl, q_F_st, q_F_cL, q_I_sf, q_L_sf, q_T_sf, q_I_si, q_I_sl, q_I_st, q_I_cI, q_I_cL, q_L_si, q_L_sl, q_L_st, q_L_cI, q_L_cL, q_T_si, q_T_sl]; omega)) ?_)))
      exact QW_ret rfl
    · repeat (refine QW_s ?_; simp only [g_5]; repeat (first | (refine QW_p (k_gv (hs _ _ rfl) rfl rfl) ?_) | (refine QW_p (k_gi (hs _ _ rfl) rfl) ?_) | (refine QW_p (k_rc (hs _ _ rfl)) ?_) | (refine QW_p (k_pi (hs _ _ rfl) rfl rfl) ?_) | (refine QW_p (k_pz (hs _ _ rfl) rfl rfl (by decide)) ?_) | (refine QW_g (by first | omega | decide | (simp only [q_F_sf, q_F_si, q_F_sl, q_F_st, q_F_cL, q_I_sf, q_L_sf, q_T_sf, q_I_si, q_I_sl, q_I_st, q_I_cI, q_I_cL, q_L_si, q_L_sl, q_L_st, q_L_cI, q_L_cL, q_T_si, q_T_sl]; omega)) ?_) | (refine QW_p (k_ia (hs _ _ rfl) (by first | omega | decide | (simp only [q_F_sf, q_F_si, q_F_sl, q_F_st, q_F_cL, q_I_sf, q_L_sf, q_T_sf, q_I_si, q_I_sl, q_I_st, q_I_cI, q_I_cL, q_L_si, q_L_sl, q_L_st, q_L_cI, q_L_cL, q_T_si, q_T_sl]; omega)) (by first | omega | decide | (simp only [q_F_sf, q_F_si, q_F_sl, q_F_st, q_F_cL, q_I_sf, q_L_sf, q_T_sf, q_I_si, q_I_sl, q_I_st, q_I_cI, q_I_cL, q_L_si, q_L_sl, q_L_st, q_L_cI, q_L_cL, q_T_si, q_T_sl]; omega)) (by decide)) ?_) | (refine QW_p (k_la (hs _ _ rfl) (by first | omega | decide | (simp only [q_F_sf, q_F_si, q_F_sl, q_F_st, q_F_cL, q_I_sf, q_L_sf, q_T_sf, q_I_si, q_I_sl, q_I_st, q_I_cI, q_I_cL, q_L_si, q_L_sl, q_L_st, q_L_cI, q_L_cL, q_T_si, q_T_sl]; omega)) (by first | omega | decide | (simp only [q_F_sf, q_F_si, q_F_sl, q_F_st, q_F_cL, q_I_sf, q_L_sf, q_T_sf, q_I_si, q_I_sl, q_I_st, q_I_cI, q_I_cL, q_L_si, q_L_sl, q_L_st, q_L_cI, q_L_cL, q_T_si, q_T_sl]; omega)) (by decide)) ?_) | (refine QW_p (k_ba (hs _ _ rfl) (by first | omega | decide | (simp only [q_F_sf, q_F_si, q_F_sl, q_F_st, q_F_cL, q_I_sf, q_L_sf, q_T_sf, q_I_si, q_I_sl, q_I_st, q_I_cI, q_I_cL, q_L_si, q_L_sl, q_L_st, q_L_cI, q_L_cL, q_T_si, q_T_sl]; omega)) (by first | omega | decide | (simp only [q_F_sf, q_F_si, q_F_sl, q_F_st, q_F_cL, q_I_sf, q_L_sf, q_T_sf, q_I_si, q_I_sl, q_I_st, q_I_cI, q_I_cL, q_L_si, q_L_sl, q_L_st, q_L_cI, q_L_cL, q_T_si, q_T_sl]; omega)) (by decide)) ?_) | (refine QW_p (k_is (hs _ _ rfl) (by first | omega | decide | (simp only [q_F_sf, q_F_si, q_F_sl, q_F_st, q_F_cL, q_I_sf, q_L_sf, q_T_sf, q_I_si, q_I_sl, q_I_st, q_I_cI, q_I_cL, q_L_si, q_L_sl, q_L_st, q_L_cI, q_L_cL, q_T_si, q_T_sl]; omega)) (by first | omega | decide | (simp only [q_F_sf, q_F_si, q_F_sl, q_F_st, q_F_cL, q_I_sf, q_L_sf, q_T_sf, q_I_si, q_I_sl, q_I_st, q_I_cI, q_I_cL, q_L_si, q_L_sl, q_L_st, q_L_cI, q_L_cL, q_T_si, q_T_sl]; omega)) (by decide)) ?_) | (refine QW_p (k_ls (hs _ _ rfl) (by first | omega | decide | (simp only [q_F_sf, q_F_si, q_F_sl, q_F_st, q_F_cL, q_I_sf, q_L_sf, q_T_sf, q_I_si, q_I_sl, q_I_st, q_I_cI, q_I_cL, q_L_si, q_L_sl, q_L_st, q_L_cI, q_L_cL, q_T_si, q_T_sl]; omega)) (by first | omega | decide | (simp only [q_F_sf, q_F_si, q_F_sl, q_F_st, q_F_cL, q_I_sf, q_L_sf, q_T_sf, q_I_si, q_I_sl, q_I_st, q_I_cI, q_I_cL, q_L_si, q_L_sl, q_L_st, q_L_cI, q_L_cL, q_T_si, q_T_sl]; omega)) (by decide)) ?_) | (refine QW_p (k_bs (hs _ _ rfl) (by first | omega | decide | (simp only [q_F_sf, q_F_si, q_F_sl, q_F_st, q_F_cL, q_I_sf, q_L_sf, q_T_sf, q_I_si, q_I_sl, q_I_st, q_I_cI, q_I_cL, q_L_si, q_L_sl, q_L_st, q_L_cI, q_L_cL, q_T_si, q_T_sl]; omega)) (by first | omega | decide | (simp only [q_F_sf, q_F_si, q_F_sl, q_F_st, q_F_cL, q_I_sf, q_L_sf, q_T_sf, q_I_si, q_I_sl, q_I_st, q_I_cI, q_I_cL, q_L_si, q_L_sl, q_L_st, q_L_cI, q_L_cL, q_T_si, q_T_sl]; omega)) (by decide) (by decide)) ?_) | (refine QW_it (by first | omega | decide | (simp only [q_F_sf, q_F_si, q_F_sl, q_F_st, q_F_cL, q_I_sf, q_L_sf, q_T_sf, q_I_si, q_I_sl, q_I_st, q_I_cI, q_I_cL, q_L_si, q_L_sl, q_L_st, q_L_cI, q_L_cL, q_T_si, q_T_sl]; omega)) ?_) | (refine QW_if (by first | omega | decide | (simp only [q_F_sf, q_F_si, q_F_sl, q_F_st, q_F_cL, q_I_sf, q_L_sf, q_T_sf, q_I_si, q_I_sl, q_I_st, q_I_cI, q_I_cL, q_L_si, q_L_sl, q_L_st, q_L_cI, q_L_cL, q_T_si, q_T_sl]; omega)) ?_)))
      exact QW_ret rfl
theorem d_7 (hs : SH s) {k t : Int} (hk : q_in k) (hn : 0 ≤ q_F s 0 3 ∧ q_F s 0 3 ≤ 20) : QW (fun n => g_7 o n 0 s 0 k t) (fun q => q = (s, if 0 ≤ k ∧ k < q_F s 0 3 then 1 else 0)) := by
  by_cases c : 0 ≤ k ∧ k < q_F s 0 3
  · rw [if_pos c]
    repeat (refine QW_s ?_; simp only [g_7]; repeat (first | (refine QW_p (k_gv (hs _ _ rfl) rfl rfl) ?_) | (refine QW_p (k_gi (hs _ _ rfl) rfl) ?_) | (refine QW_p (k_rc (hs _ _ rfl)) ?_) | (refine QW_p (k_pi (hs _ _ rfl) rfl rfl) ?_) | (refine QW_p (k_pz (hs _ _ rfl) rfl rfl (by decide)) ?_) | (refine QW_g (by first | omega | decide | (simp only [q_F_sf, q_F_si, q_F_sl, q_F_st, q_F_cL, q_I_sf, q_L_sf, q_T_sf, q_I_si, q_I_sl, q_I_st, q_I_cI, q_I_cL, q_L_si, q_L_sl, q_L_st, q_L_cI, q_L_cL, q_T_si, q_T_sl]; omega)) ?_) | (refine QW_p (k_ia (hs _ _ rfl) (by first | omega | decide | (simp only [q_F_sf, q_F_si, q_F_sl, q_F_st, q_F_cL, q_I_sf, q_L_sf, q_T_sf, q_I_si, q_I_sl, q_I_st, q_I_cI, q_I_cL, q_L_si, q_L_sl, q_L_st, q_L_cI, q_L_cL, q_T_si, q_T_sl]; omega)) (by first | omega | decide | (simp only [q_F_sf, q_F_si, q_F_sl, q_F_st, q_F_cL, q_I_sf, q_L_sf, q_T_sf, q_I_si, q_I_sl, q_I_st, q_I_cI, q_I_cL, q_L_si, q_L_sl, q_L_st, q_L_cI, q_L_cL, q_T_si, q_T_sl]; omega)) (by decide)) ?_) | (refine QW_p (k_la (hs _ _ rfl) (by first | omega | decide | (simp only [q_F_sf, q_F_si, q_F_sl, q_F_st, q_F_cL, q_I_sf, q_L_sf, q_T_sf, q_I_si, q_I_sl, q_I_st, q_I_cI, q_I_cL, q_L_si, q_L_sl, q_L_st, q_L_cI, q_L_cL, q_T_si, q_T_sl]; omega)) (by first | omega | decide | (simp only [q_F_sf, q_F_si, q_F_sl, q_F_st, q_F_cL, q_I_sf, q_L_sf, q_T_sf, q_I_si, q_I_sl, q_I_st, q_I_cI, q_I_cL, q_L_si, q_L_sl, q_L_st, q_L_cI, q_L_cL, q_T_si, q_T_sl]; omega)) (by decide)) ?_) | (refine QW_p (k_ba (hs _ _ rfl) (by first | omega | decide | (simp only [q_F_sf, q_F_si, q_F_sl, q_F_st, q_F_cL, q_I_sf, q_L_sf, q_T_sf, q_I_si, q_I_sl, q_I_st, q_I_cI, q_I_cL, q_L_si, q_L_sl, q_L_st, q_L_cI, q_L_cL, q_T_si, q_T_sl]; omega)) (by first | omega | decide | (simp only [q_F_sf, q_F_si, q_F_sl, q_F_st, q_F_cL, q_I_sf, q_L_sf, q_T_sf, q_I_si, q_I_sl, q_I_st, q_I_cI, q_I_cL, q_L_si, q_L_sl, q_L_st, q_L_cI, q_L_cL, q_T_si, q_T_sl]; omega)) (by decide)) ?_) | (refine QW_p (k_is (hs _ _ rfl) (by first | omega | decide | (simp only [q_F_sf, q_F_si, q_F_sl, q_F_st, q_F_cL, q_I_sf, q_L_sf, q_T_sf, q_I_si, q_I_sl, q_I_st, q_I_cI, q_I_cL, q_L_si, q_L_sl, q_L_st, q_L_cI, q_L_cL, q_T_si, q_T_sl]; omega)) (by first | omega | decide | (simp only [q_F_sf, q_F_si, q_F_sl, q_F_st, q_F_cL, q_I_sf, q_L_sf, q_T_sf, q_I_si, q_I_sl, q_I_st, q_I_cI, q_I_cL, q_L_si, q_L_sl, q_L_st, q_L_cI, q_L_cL, q_T_si, q_T_sl]; omega)) (by decide)) ?_) | (refine QW_p (k_ls (hs _ _ rfl) (by first | omega | decide | (simp only [q_F_sf, q_F_si, q_F_sl, q_F_st, q_F_cL, q_I_sf, q_L_sf, q_T_sf, q_I_si, q_I_sl, q_I_st, q_I_cI, q_I_cL, q_L_si, q_L_sl, q_L_st, q_L_cI, q_L_cL, q_T_si, q_T_sl]; omega)) (by first | omega | decide | (simp only [q_F_sf, q_F_si, q_F_sl, q_F_st, q_F_cL, q_I_sf, q_L_sf, q_T_sf, q_I_si, q_I_sl, q_I_st, q_I_cI, q_I_cL, q_L_si, q_L_sl, q_L_st, q_L_cI, q_L_cL, q_T_si, q_T_sl]; omega)) (by decide)) ?_) | (refine QW_p (k_bs (hs _ _ rfl) (by first | omega | decide | (simp only [q_F_sf, q_F_si, q_F_sl, q_F_st, q_F_cL, q_I_sf, q_L_sf, q_T_sf, q_I_si, q_I_sl, q_I_st, q_I_cI, q_I_cL, q_L_si, q_L_sl, q_L_st, q_L_cI, q_L_cL, q_T_si, q_T_sl]; omega)) (by first | omega | decide | (simp only [q_F_sf, q_F_si, q_F_sl, q_F_st, q_F_cL, q_I_sf, q_L_sf, q_T_sf, q_I_si, q_I_sl, q_I_st, q_I_cI, q_I_cL, q_L_si, q_L_sl, q_L_st, q_L_cI, q_L_cL, q_T_si, q_T_sl]; omega)) (by decide) (by decide)) ?_) | (refine QW_it (by first | omega | decide | (simp only [q_F_sf, q_F_si, q_F_sl, q_F_st, q_F_cL, q_I_sf, q_L_sf, q_T_sf, q_I_si, q_I_sl, q_I_st, q_I_cI, q_I_cL, q_L_si, q_L_sl, q_L_st, q_L_cI, q_L_cL, q_T_si, q_T_sl]; omega)) ?_) | (refine QW_if (by first | omega | decide | (simp only [q_F_sf, q_F_si, q_F_sl, q_F_st, q_F_cL, q_I_sf, q_L_sf, q_T_sf, q_I_si, q_I_sl, q_I_st, q_I_cI, q_I_cL, q_L_si, q_L_sl, q_L_st, q_L_cI, q_L_cL, q_T_si, q_T_sl]; omega)) ?_)))
    exact QW_ret rfl
  · rw [if_neg c]
    by_cases c1 : k < 0
    · repeat (refine QW_s ?_; simp only [g_7]; repeat (first | (refine QW_p (k_gv (hs _ _ rfl) rfl rfl) ?_) | (refine QW_p (k_gi (hs _ _ rfl) rfl) ?_) | (refine QW_p (k_rc (hs _ _ rfl)) ?_) | (refine QW_p (k_pi (hs _ _ rfl) rfl rfl) ?_) | (refine QW_p (k_pz (hs _ _ rfl) rfl rfl (by decide)) ?_) | (refine QW_g (by first | omega | decide | (simp only [q_F_sf, q_F_si, q_F_sl, q_F_st, q_F_cL, q_I_sf, q_L_sf, q_T_sf, q_I_si, q_I_sl, q_I_st, q_I_cI, q_I_cL, q_L_si, q_L_sl, q_L_st, q_L_cI, q_L_cL, q_T_si, q_T_sl]; omega)) ?_) | (refine QW_p (k_ia (hs _ _ rfl) (by first | omega | decide | (simp only [q_F_sf, q_F_si, q_F_sl, q_F_st, q_F_cL, q_I_sf, q_L_sf, q_T_sf, q_I_si, q_I_sl, q_I_st, q_I_cI, q_I_cL, q_L_si, q_L_sl, q_L_st, q_L_cI, q_L_cL, q_T_si, q_T_sl]; omega)) (by first | omega | decide | (simp only [q_F_sf, q_F_si, q_F_sl, q_F_st, q_F_cL, q_I_sf, q_L_sf, q_T_sf, q_I_si, q_I_sl, q_I_st, q_I_cI, q_I_cL, q_L_si, q_L_sl, q_L_st, q_L_cI, q_L_cL, q_T_si, q_T_sl]; omega)) (by decide)) ?_) | (refine QW_p (k_la (hs _ _ rfl) (by first | omega | decide | (simp only [q_F_sf, q_F_si, q_F_sl, q_F_st, q_F_cL, q_I_sf, q_L_sf, q_T_sf, q_I_si, q_I_sl, q_I_st, q_I_cI, q_I_cL, q_L_si, q_L_sl, q_L_st, q_L_cI, q_L_cL, q_T_si, q_T_sl]; omega)) (by first | omega | decide | (simp only [q_F_sf, q_F_si, q_F_sl, q_F_st, q_F_cL, q_I_sf, q_L_sf, q_T_sf, q_I_si, q_I_sl, q_I_st, q_I_cI, q_I_cL, q_L_si, q_L_sl, q_L_st, q_L_cI, q_L_cL, q_T_si, q_T_sl]; omega)) (by decide)) ?_) | (refine QW_p (k_ba (hs _ _ rfl) (by first | omega | decide | (simp only [q_F_sf, q_F_si, q_F_sl, q_F_st, q_F_cL, q_I_sf, q_L_sf, q_T_sf, q_I_si, q_I_sl, q_I_st, q_I_cI, q_I_cL, q_L_si, q_L_sl, q_L_st, q_L_cI, q_L_cL, q_T_si, q_T_sl]; omega)) (by first | omega | decide | (simp only [q_F_sf, q_F_si, q_F_sl, q_F_st, q_F_cL, q_I_sf, q_L_sf, q_T_sf, q_I_si, q_I_sl, q_I_st, q_I_cI, q_I_cL, q_L_si, q_L_sl, q_L_st, q_L_cI, q_L_cL, q_T_si, q_T_sl]; omega)) (by decide)) ?_) | (refine QW_p (k_is (hs _ _ rfl) (by first | omega | decide | (simp only [q_F_sf, q_F_si, q_F_sl, q_F_st, q_F_cL, q_I_sf, q_L_sf, q_T_sf, q_I_si, q_I_sl, q_I_st, q_I_cI, q_I_cL, q_L_si, q_L_sl, q_L_st, q_L_cI, q_L_cL, q_T_si, q_T_sl]; omega)) (by first | omega | decide | (simp only [q_F_sf, q_F_si, q_F_sl, q_F_st, q_F_cL, q_I_sf, q_L_sf, q_T_sf, q_I_si, q_I_sl, q_I_st, q_I_cI, q_I_cL, q_L_si, q_L_sl, q_L_st, q_L_cI, q_L_cL, q_T_si, q_T_sl]; omega)) (by decide)) ?_) | (refine QW_p (k_ls (hs _ _ rfl) (by first | omega | decide | (simp only [q_F_sf, q_F_si, q_F_sl, q_F_st, q_F_cL, q_I_sf, q_L_sf, q_T_sf, q_I_si, q_I_sl, q_I_st, q_I_cI, q_I_cL, q_L_si, q_L_sl, q_L_st, q_L_cI, q_L_cL, q_T_si, q_T_sl]; omega)) (by first | omega | decide | (simp only [q_F_sf, q_F_si, q_F_sl, q_F_st, q_F_cL, q_I_sf, q_L_sf, q_T_sf, q_I_si, q_I_sl, q_I_st, q_I_cI, q_I_cL, q_L_si, q_L_sl, q_L_st, q_L_cI, q_L_cL, q_T_si, q_T_sl]; omega)) (by decide)) ?_) | (refine QW_p (k_bs (hs _ _ rfl) (by first | omega | decide | (simp only [q_F_sf, q_F_si, q_F_sl, q_F_st, q_F_cL, q_I_sf, q_L_sf, q_T_sf, q_I_si, q_I_sl, q_I_st, q_I_cI, q_I_cL, q_L_si, q_L_sl, q_L_st, q_L_cI, q_L_cL, q_T_si, q_T_sl]; omega)) (by first | omega | decide | (simp only [q_F_sf, q_F_si, q_F_sl, q_F_st, q_F_cL, q_I_sf, q_L_sf, q_T_sf, q_I_si, q_I_sl, q_I_st, q_I_cI, q_I_cL, q_L_si, q_L_sl, q_L_st, q_L_cI, q_L_cL, q_T_si, q_T_sl]; omega)) (by decide) (by decide)) ?_) | (refine QW_it (by first | omega | decide | (simp only [q_F_sf, q_F_si, q_F_sl, q_F_st, q_F_cL, q_I_sf, q_L_sf, q_T_sf, q_I_si, q_I_sl, q_I_st, q_I_cI, q_I_cL, q_L_si, q_L_sl, q_L_st, q_L_cI, q_L_cL, q_T_si, q_T_sl]; omega)) ?_) | (refine QW_if (by first | omega | decide | (simp only [q_F_sf, q_F_si, q_F_sl, q_F_st, q_F_cL, q_I_sf, q_L_sf, q_T_sf, q_I_si, q_I_sl, q_I_st, q_I_cI, q_I_cL, q_L_si, q_L_sl, q_L_st, q_L_cI, q_L_cL, q_T_si, q_T_sl]; omega)) ?_)))
      exact QW_ret rfl
    · repeat (refine QW_s ?_; simp only [g_7]; repeat (first | (refine QW_p (k_gv (hs _ _ rfl) rfl rfl) ?_) | (refine QW_p (k_gi (hs _ _ rfl) rfl) ?_) | (refine QW_p (k_rc (hs _ _ rfl)) ?_) | (refine QW_p (k_pi (hs _ _ rfl) rfl rfl) ?_) | (refine QW_p (k_pz (hs _ _ rfl) rfl rfl (by decide)) ?_) | (refine QW_g (by first | omega | decide | (simp only [q_F_sf, q_F_si, q_F_sl, q_F_st, q_F_cL, q_I_sf, q_L_sf, q_T_sf, q_I_si, q_I_sl, q_I_st, q_I_cI, q_I_cL, q_L_si, q_L_sl, q_L_st, q_L_cI, q_L_cL, q_T_si, q_T_sl]; omega)) ?_) | (refine QW_p (k_ia (hs _ _ rfl) (by first | omega | decide | (simp only [q_F_sf, q_F_si, q_F_sl, q_F_st, q_F_cL, q_I_sf, q_L_sf, q_T_sf, q_I_si, q_I_sl, q_I_st, q_I_cI, q_I_cL, q_L_si, q_L_sl, q_L_st, q_L_cI, q_L_cL, q_T_si, q_T_sl]; omega)) (by first | omega | decide | (simp only [q_F_sf, q_F_si, q_F_sl, q_F_st, q_F_cL, q_I_sf, q_L_sf, q_T_sf, q_I_si, q_I_sl, q_I_st, q_I_cI, q_I_cL, q_L_si, q_L_sl, q_L_st, q_L_cI, q_L_cL, q_T_si, q_T_sl]; omega)) (by decide)) ?_) | (refine QW_p (k_la (hs _ _ rfl) (by first | omega | decide | (simp only [q_F_sf, q_F_si, q_F_sl, q_F_st, q_F_cL, q_I_sf, q_L_sf, q_T_sf, q_I_si, q_I_sl, q_I_st, q_I_cI, q_I_cL, q_L_si, q_L_sl, q_L_st, q_L_cI, q_L_cL, q_T_si, q_T_sl]; omega)) (by first | omega | decide | (simp only [q_F_sf, q_F_si, q_F_sl, q_F_st, q_F_cL, q_I_sf, q_L_sf, q_T_sf, q_I_si, q_I_sl, q_I_st, q_I_cI, q_I_cL, q_L_si, q_L_sl, q_L_st, q_L_cI, q_L_cL, q_T_si, q_T_sl]; omega)) (by decide)) ?_) | (refine QW_p (k_ba (hs _ _ rfl) (by first | omega | decide | (simp only [q_F_sf, q_F_si, q_F_sl, q_F_st, q_F_cL, q_I_sf, q_L_sf, q_T_sf, q_I_si, q_I_sl, q_I_st, q_I_cI, q_I_cL, q_L_si, q_L_sl, q_L_st, q_L_cI, q_L_cL, q_T_si, q_T_sl]; omega)) (by first | omega | decide | (simp only [q_F_sf, q_F_si, q_F_sl, q_F_st, q_F_cL, q_I_sf, q_L_sf, q_T_sf, q_I_si, q_I_sl, q_I_st, q_I_cI, q_I_cL, q_L_si, q_L_sl, q_L_st, q_L_cI, q_L_cL, q_T_si, q_T_sl]; omega)) (by decide)) ?_) | (refine QW_p (k_is (hs _ _ rfl) (by first | omega | decide | (simp only [q_F_sf, q_F_si, q_F_sl, q_F_st, q_F_cL, q_I_sf, q_L_sf, q_T_sf, q_I_si, q_I_sl, q_I_st, q_I_cI, q_I_cL, q_L_si, q_L_sl, q_L_st, q_L_cI, q_L_cL, q_T_si, q_T_sl]; omega)) (by first | omega | decide | (simp only [q_F_sf, q_F_si, q_F_sl, q_F_st, q_F_cL, q_I_sf, q_L_sf, q_T_sf, q_I_si, q_I_sl, q_I_st, q_I_cI, q_I_cL, q_L_si, q_L_sl, q_L_st, q_L_cI, q_L_cL, q_T_si, q_T_sl]; omega)) (by decide)) ?_) | (refine QW_p (k_ls (hs _ _ rfl) (by first | omega | decide | (simp only [q_F_sf, q_F_si, q_F_sl, q_F_st, q_F_cL, q_I_sf, q_L_sf, q_T_sf, q_I_si, q_I_sl, q_I_st, q_I_cI, q_I_cL, q_L_si, q_L_sl, q_L_st, q_L_cI, q_L_cL, q_T_si, q_T_sl]; omega)) (by first | omega | decide | (simp only [q_F_sf, q_F_si, q_F_sl, q_F_st, q_F_cL, q_I_sf, q_L_sf, q_T_sf, q_I_si, q_I_sl, q_I_st, q_I_cI, q_I_cL, q_L_si, q_L_sl, q_L_st, q_L_cI, q_L_cL, q_T_si, q_T_sl]; omega)) (by decide)) ?_) | (refine QW_p (k_bs (hs _ _ rfl) (by first | omega | decide | (simp only [q_F_sf, q_F_si, q_F_sl, q_F_st, q_F_cL, q_I_sf, q_L_sf, q_T_sf, q_I_si, q_I_sl, q_I_st, q_I_cI, q_I_cL, q_L_si, q_L_sl, q_L_st, q_L_cI, q_L_cL, q_T_si, q_T_sl]; omega)) (by first | omega | decide | (simp only [q_F_sf, q_F_si, q_F_sl, q_F_st, q_F_cL, q_I_sf, q_L_sf, q_T_sf, q_I_si, q_I_sl, q_I_st, q_I_cI, q_I_cL, q_L_si, q_L_sl, q_L_st, q_L_cI, q_L_cL, q_T_si, q_T_sl]; omega)) (by decide) (by decide)) ?_) | (refine QW_it (by first | omega | decide | (simp only [q_F_sf, q_F_si, q_F_sl, q_F_st, q_F_cL, q_I_sf, q_L_sf, q_T_sf, q_I_si, q_I_sl, q_I_st, q_I_cI, q_I_cL, q_L_si, q_L_sl, q_L_st, q_L_cI, q_L_cL, q_T_si, q_T_sl]; omega)) ?_) | (refine QW_if (by first | omega | decide | (simp only [q_F_sf, q_F_si, q_F_sl, q_F_st, q_F_cL, q_I_sf, q_L_sf, q_T_sf, q_I_si, q_I_sl, q_I_st, q_I_cI, q_I_cL, q_L_si, q_L_sl, q_L_st, q_L_cI, q_L_cL, q_T_si, q_T_sl]; omega)) ?_)))
      exact QW_ret rfl
theorem d_9 (hs : SH s) (h20 : q_T s 20 = some (sh20 rw wt)) {k : Int} {t : Int64} (hk : q_in k) : QW (fun n => g_9 o n 0 s 0 k t) (fun q => q = (s, if k < 0 ∨ 7 < k then 0 else q_L s 22 k)) := by
  have K2 : ∀ x : Int64, QW (fun n => g_9 o n 2 s 0 0 x) (fun q => q = (s, x)) := fun x => by
    refine QW_s ?_
    simp only [g_9]
    exact QW_ret rfl
  have K1 : QW (fun n => g_9 o n 1 s 0 0 0) (fun q => q = (s, 0)) := by
    refine QW_s ?_
    simp only [g_9]
    exact K2 0
  refine QW_s ?_
  simp only [g_9]
  refine QW_g hk ?_
  refine QW_by (fun z => ?_) (fun z => ?_)
  · rw [if_pos (Or.inl z)]
    exact K1
  · refine QW_g hk ?_
    refine QW_by (fun y => ?_) (fun y => ?_)
    · rw [if_neg (by omega)]
      refine QW_p (k_gv (hs _ _ rfl) rfl rfl) ?_
      refine QW_p (k_gv h20 rfl rfl) ?_
      refine QW_p (k_la (hs _ _ rfl) (by omega) (by omega) (by decide)) ?_
      exact K2 _
    · rw [if_pos (by omega)]
      exact K1
theorem d_15 (hs : SH s) (h20 : q_T s 20 = some (sh20 rw wt)) {k : Int} {t : Int64} (hk : q_in k) : QW (fun n => g_15 o n 0 s 0 k t) (fun q => q = (s, if k < 0 ∨ 15 < k then 0 else q_L s 21 k)) := by
  have K2 : ∀ x : Int64, QW (fun n => g_15 o n 2 s 0 0 x) (fun q => q = (s, x)) := fun x => by
    refine QW_s ?_
    simp only [g_15]
    exact QW_ret rfl
  have K1 : QW (fun n => g_15 o n 1 s 0 0 0) (fun q => q = (s, 0)) := by
    refine QW_s ?_
    simp only [g_15]
    exact K2 0
  refine QW_s ?_
  simp only [g_15]
  refine QW_g hk ?_
  refine QW_by (fun z => ?_) (fun z => ?_)
  · rw [if_pos (Or.inl z)]
    exact K1
  · refine QW_g hk ?_
    refine QW_by (fun y => ?_) (fun y => ?_)
    · rw [if_neg (by omega)]
      refine QW_p (k_gv (hs _ _ rfl) rfl rfl) ?_
      refine QW_p (k_gv h20 rfl rfl) ?_
      refine QW_p (k_la (hs _ _ rfl) (by omega) (by omega) (by decide)) ?_
      exact K2 _
    · rw [if_pos (by omega)]
      exact K1
theorem d_11 (hs : SH s) (h20 : q_T s 20 = some (sh20 rw wt)) (h0 : 0 ≤ q_F s 20 0 ∧ q_F s 20 0 ≤ 3) {k w : Int} (hk : q_in k) (hw : q_in w) : QW (fun n => g_11 o n 0 s 0 k w) (fun q => q = (s, if k = 0 ∧ q_F s 20 0 = 2 then (if w = 0 then q_F s 20 5 else if w = 1 then q_F s 20 6 else if w = 2 then q_F s 20 7 else -1) else -1)) := by
  have K1 : QW (fun n => g_11 o n 1 s 0 0 0) (fun q => q = (s, -1)) := by
    refine QW_s ?_
    simp only [g_11]
    exact QW_ret rfl
  refine QW_s ?_
  simp only [g_11]
  refine QW_g hk ?_
  refine QW_by (fun z => ?_) (fun z => ?_)
  · rw [if_neg (fun y => z y.1)]
    exact K1
  · have z := Decidable.of_not_not z
    refine QW_p (k_gv (hs _ _ rfl) rfl rfl) ?_
    refine QW_p (k_gi h20 rfl) ?_
    refine QW_g (by omega) ?_
    refine QW_by (fun y => ?_) (fun y => ?_)
    · have zy : k = 0 ∧ q_F s 20 0 = 2 := ⟨z, y⟩
      rw [if_pos zy]
      refine QW_g hw ?_
      refine QW_by (fun x => ?_) (fun x => ?_)
      · rw [if_neg (by omega), if_neg (by omega), if_neg (by omega)]
        exact QW_ret rfl
      · refine QW_by (fun x0 => ?_) (fun x0 => ?_)
        · rw [if_pos x0]
          refine QW_p (k_gv (hs _ _ rfl) rfl rfl) ?_
          refine QW_p (k_gi h20 rfl) ?_
          exact QW_ret rfl
        · rw [if_neg x0]
          refine QW_by (fun x1 => ?_) (fun x1 => ?_)
          · rw [if_pos x1]
            refine QW_p (k_gv (hs _ _ rfl) rfl rfl) ?_
            refine QW_p (k_gi h20 rfl) ?_
            exact QW_ret rfl
          · rw [if_neg x1]
            refine QW_it (by omega) ?_
            rw [if_pos (show w = 2 by omega)]
            refine QW_p (k_gv (hs _ _ rfl) rfl rfl) ?_
            refine QW_p (k_gi h20 rfl) ?_
            exact QW_ret rfl
    · rw [if_neg (fun x => y x.2)]
      exact K1
/-- the programs, as the cells have them -/
def PA (s : Q_S) (nP : Int) (rc : Int → Nat) : Prop := ∃ g, q_T s 18 = some (.inl (.object "StepRows$Rows", 20, g)) ∧ (∀ k, 0 ≤ k → k < nP → g k.toNat = some (rc k)) ∧ q_F s 0 3 = nP ∧ 0 ≤ nP ∧ nP ≤ 20
theorem d_14 (hs : SH s) (h20 : q_T s 20 = some (sh20 rw wt)) (h0 : 0 ≤ q_F s 20 0 ∧ q_F s 20 0 ≤ 3) {nP : Int} {rc : Int → Nat} (hP : PA s nP rc) {k : Int} (hk : q_in k) : QW (fun n => g_14 o n 0 s 0 k) (fun q => q = if (0 ≤ k ∧ k < nP) ∧ q_F s 20 0 = 1 then (q_st s 20 (sh20 rw (.ref (rc k))), 0) else (s, 1)) := by
  obtain ⟨g, p1, p2, p3, p4, p5⟩ := hP
  have K1 : QW (fun n => g_14 o n 1 s 0 0) (fun q => q = (s, 1)) := by
    refine QW_s ?_
    simp only [g_14]
    exact QW_ret rfl
  refine QW_s ?_
  simp only [g_14]
  refine QW_p (k_rc (hs _ _ rfl)) ?_
  refine QW_e (d_7 hs hk (by omega)) ?_
  dsimp only
  rw [p3]
  by_cases c : 0 ≤ k ∧ k < nP
  · rw [if_pos c]
    refine QW_g (by decide) ?_
    refine QW_if (by decide) ?_
    refine QW_p (k_gv (hs _ _ rfl) rfl rfl) ?_
    refine QW_p (k_rc h20) ?_
    refine QW_e (d_43 h20 h0) ?_
    dsimp only
    by_cases c1 : q_F s 20 0 = 1
    · rw [if_pos c1, if_pos ⟨c, c1⟩]
      refine QW_g (by decide) ?_
      refine QW_it (by decide) ?_
      refine QW_p (k_gv (hs _ _ rfl) rfl rfl) ?_
      refine QW_p (k_gv (hs _ _ rfl) rfl rfl) ?_
      refine QW_p (k_aa p1 c.1 (by omega) (by decide) (by decide)) ?_
      rw [p2 k c.1 c.2]
      refine QW_p (k_pr h20 rfl rfl) ?_
      exact QW_ret rfl
    · rw [if_neg c1, if_neg (fun z => c1 z.2)]
      refine QW_g (by decide) ?_
      refine QW_if (by decide) ?_
      exact K1
  · rw [if_neg c, if_neg (fun z => c z.1)]
    refine QW_g (by decide) ?_
    refine QW_it rfl ?_
    exact K1
theorem d_16 (hs : SH s) {nP : Int} {rc : Int → Nat} (hP : PA s nP rc) (hR : ∀ k, 0 ≤ k → k < nP → q_T s (rc k) = some (shR0 (rc k)) ∧ q_in (q_F s (rc k) 9)) {a b t : Int} (ha : q_in a) (hb : q_in b) : QW (fun n => g_16 o n 0 s 0 a b t) (fun q => q = (s, if (0 ≤ a ∧ a < nP) ∧ (0 ≤ b ∧ b < nP) ∧ q_F s (rc a) 9 = q_F s (rc b) 9 then 1 else 0)) := by
  obtain ⟨g, p1, p2, p3, p4, p5⟩ := hP
  have K2 : ∀ x : Int, x = 0 ∨ x = 1 → QW (fun n => g_16 o n 2 s 0 0 0 x) (fun q => q = (s, x)) := fun x hx => by
    refine QW_s ?_
    simp only [g_16]
    refine QW_g hx ?_
    exact QW_ret rfl
  have K1 : QW (fun n => g_16 o n 1 s 0 0 0 0) (fun q => q = (s, 0)) := by
    refine QW_s ?_
    simp only [g_16]
    exact K2 0 (Or.inl rfl)
  refine QW_s ?_
  simp only [g_16]
  refine QW_p (k_rc (hs _ _ rfl)) ?_
  refine QW_e (d_7 hs ha (by omega)) ?_
  dsimp only
  rw [p3]
  by_cases c : 0 ≤ a ∧ a < nP
  · rw [if_pos c]
    refine QW_g (by decide) ?_
    refine QW_if (by decide) ?_
    refine QW_p (k_rc (hs _ _ rfl)) ?_
    refine QW_e (d_7 hs hb (by omega)) ?_
    dsimp only
    rw [p3]
    by_cases c1 : 0 ≤ b ∧ b < nP
    · rw [if_pos c1]
      refine QW_g (by decide) ?_
      refine QW_if (by decide) ?_
      obtain ⟨r1, r2⟩ := hR a c.1 c.2
      obtain ⟨r3, r4⟩ := hR b c1.1 c1.2
      refine QW_p (k_gv (hs _ _ rfl) rfl rfl) ?_
      refine QW_p (k_aa p1 c.1 (by omega) (by decide) (by decide)) ?_
      rw [p2 a c.1 c.2]
      refine QW_p (k_gi r1 rfl) ?_
      refine QW_p (k_gv (hs _ _ rfl) rfl rfl) ?_
      refine QW_p (k_aa p1 c1.1 (by omega) (by decide) (by decide)) ?_
      rw [p2 b c1.1 c1.2]
      refine QW_p (k_gi r3 rfl) ?_
      refine QW_g ⟨r2, r4⟩ ?_
      refine QW_by (fun z => ?_) (fun z => ?_)
      · rw [if_neg (fun y => z y.2.2)]
        exact K1
      · rw [if_pos ⟨c, c1, Decidable.of_not_not z⟩]
        exact K2 1 (Or.inr rfl)
    · rw [if_neg c1, if_neg (fun z => c1 z.2.1)]
      refine QW_g (by decide) ?_
      refine QW_it rfl ?_
      exact K1
  · rw [if_neg c, if_neg (fun z => c z.1)]
    refine QW_g (by decide) ?_
    refine QW_it rfl ?_
    exact K1
theorem d_17 (hs : SH s) (h20 : q_T s 20 = some (sh20 rw wt)) (hrw : rw = .null ∨ ∃ r, rw = .ref r ∧ q_T s r = some (shR0 r)) (hwt : wt = .null ∨ ∃ r, wt = .ref r) {w t : Int} (hw : q_in w) : QW (fun n => g_17 o n 0 s 0 w t) (fun q => q = (s, if w = 0 then q_F s 20 3 else if w = 1 then q_F s 20 4 else if w = 2 then (match rw with | .ref r => q_F s r 9 | _ => -1) else if w = 3 then (match wt with | .ref _ => 1 | _ => 0) else -1)) := by
  have K1 : ∀ x : Int, QW (fun n => g_17 o n 1 s 0 0 x) (fun q => q = (s, x)) := fun x => by
    refine QW_s ?_
    simp only [g_17]
    exact QW_ret rfl
  have K2 : ∀ x : Int, QW (fun n => g_17 o n 2 s 0 0 x) (fun q => q = (s, x)) := fun x => by
    refine QW_s ?_
    simp only [g_17]
    exact QW_ret rfl
  have yrw : y_rv rw = true := by
    rcases hrw with z | ⟨r, z, _⟩ <;> rw [z] <;> rfl
  have ywt : y_rv wt = true := by
    rcases hwt with z | ⟨r, z⟩ <;> rw [z] <;> rfl
  refine QW_s ?_
  simp only [g_17]
  refine QW_g hw ?_
  refine QW_by (fun x => ?_) (fun x => ?_)
  · rw [if_neg (by omega), if_neg (by omega), if_neg (by omega), if_neg (by omega)]
    exact QW_ret rfl
  · refine QW_by (fun x0 => ?_) (fun x0 => ?_)
    · rw [if_pos x0]
      refine QW_p (k_gv (hs _ _ rfl) rfl rfl) ?_
      refine QW_p (k_gi h20 rfl) ?_
      exact QW_ret rfl
    · rw [if_neg x0]
      refine QW_by (fun x1 => ?_) (fun x1 => ?_)
      · rw [if_pos x1]
        refine QW_p (k_gv (hs _ _ rfl) rfl rfl) ?_
        refine QW_p (k_gi h20 rfl) ?_
        exact QW_ret rfl
      · rw [if_neg x1]
        refine QW_by (fun x2 => ?_) (fun x2 => ?_)
        · rw [if_pos x2]
          refine QW_p (k_gv (hs _ _ rfl) rfl rfl) ?_
          refine QW_p (k_gv h20 rfl yrw) ?_
          rcases hrw with z | ⟨r, z, hr⟩
          · subst z
            refine QW_p (show y_nul .null = some true from rfl) ?_
            refine QW_it rfl ?_
            exact K1 _
          · subst z
            refine QW_p (show y_nul (.ref r) = some false from rfl) ?_
            refine QW_if (by decide) ?_
            refine QW_p (k_gv (hs _ _ rfl) rfl rfl) ?_
            refine QW_p (k_gv h20 rfl rfl) ?_
            refine QW_p (k_gi hr rfl) ?_
            exact K1 _
        · rw [if_neg x2]
          refine QW_it (by omega) ?_
          rw [if_pos (show w = 3 by omega)]
          refine QW_p (k_gv (hs _ _ rfl) rfl rfl) ?_
          refine QW_p (k_gv h20 rfl ywt) ?_
          rcases hwt with z | ⟨r, z⟩
          · subst z
            refine QW_p (show y_nul .null = some true from rfl) ?_
            refine QW_it rfl ?_
            exact K2 _
          · subst z
            refine QW_p (show y_nul (.ref r) = some false from rfl) ?_
            refine QW_if (by decide) ?_
            exact K2 _
/-- tick: what it refuses -/
theorem d_8n {i : Int} (hi : q_in i) (h : i < 0 ∨ 10000 < i) {j : Int} : QW (fun n => g_8 o n 0 s 0 i j) (fun q => q = (s, -1)) := by
  have K1 : QW (fun n => g_8 o n 1 s 0 0 0) (fun q => q = (s, -1)) := by
    refine QW_s ?_
    simp only [g_8]
    exact QW_ret rfl
  refine QW_s ?_
  simp only [g_8]
  refine QW_g hi ?_
  refine QW_by (fun z => K1) (fun z => ?_)
  refine QW_g hi ?_
  refine QW_if (by omega) ?_
  exact K1
theorem d_8y {i : Int} (hi : 0 ≤ i ∧ i ≤ 10000) {j : Int} {Q : Q_S × Int → Prop} (k : QW (fun n => g_8 o n 2 s 0 i 0) Q) : QW (fun n => g_8 o n 0 s 0 i j) Q := by
  refine QW_s ?_
  simp only [g_8]
  refine QW_g (by omega) ?_
  refine QW_if (by omega) ?_
  refine QW_g (by omega) ?_
  refine QW_it (by omega) ?_
  exact k
end CSML
