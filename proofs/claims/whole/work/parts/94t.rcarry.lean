/-! THE REFERENCE'S RUNS SAVED AND PUT BACK: one row at a time -/
theorem si_self {s : Q_S} {a : Nat} {j : Int} : q_si s a j (q_I s a j) = s := by
  obtain ⟨n, m, T, I, L⟩ := s
  unfold q_si
  refine congrArg (fun z => (n, m, T, z, L)) (funext fun c => funext fun i => ?_)
  by_cases h : c = a ∧ i = j
  · rw [if_pos h, h.1, h.2]; rfl
  · rw [if_neg h]
theorem sl_self {s : Q_S} {a : Nat} {j : Int} : q_sl s a j (q_L s a j) = s := by
  obtain ⟨n, m, T, I, L⟩ := s
  unfold q_sl
  refine congrArg (fun z => (n, m, T, I, z)) (funext fun c => funext fun i => ?_)
  by_cases h : c = a ∧ i = j
  · rw [if_pos h, h.1, h.2]; rfl
  · rw [if_neg h]
theorem si_eq {s : Q_S} {a : Nat} {j v : Int} (h : v = q_I s a j) : q_si s a j v = s := by rw [h]; exact si_self
theorem sl_eq {s : Q_S} {a : Nat} {j : Int} {v : Int64} (h : v = q_L s a j) : q_sl s a j v = s := by rw [h]; exact sl_self
/-- a row put back, a row saved -/
def cF0 (s : Q_S) (k i : Int) : Q_S := q_si (q_si (q_si (q_si (q_si (q_sl (q_si s 61 i (q_I s 75 (6144 * k + i))) 58 i (q_L s 74 (6144 * k + i))) 55 i (q_I s 73 (5 * (6144 * k + i)))) 56 i (q_I s 73 (5 * (6144 * k + i) + 1))) 57 i (q_I s 73 (5 * (6144 * k + i) + 2))) 59 i (q_I s 73 (5 * (6144 * k + i) + 3))) 60 i (q_I s 73 (5 * (6144 * k + i) + 4))
def cF1 (s : Q_S) (k i : Int) : Q_S := q_si (q_si (q_si (q_si (q_si (q_sl (q_si s 75 (6144 * k + i) (q_I s 61 i)) 74 (6144 * k + i) (q_L s 58 i)) 73 (5 * (6144 * k + i)) (q_I s 55 i)) 73 (5 * (6144 * k + i) + 1) (q_I s 56 i)) 73 (5 * (6144 * k + i) + 2) (q_I s 57 i)) 73 (5 * (6144 * k + i) + 3) (q_I s 59 i)) 73 (5 * (6144 * k + i) + 4) (q_I s 60 i)
def cH0 (s : Q_S) (k i : Int) : Q_S := q_sl (q_sl (q_sl (q_si (q_si (q_si (q_si (q_si s 69 i (q_I s 78 (104 * k + i))) 62 i (q_I s 76 (4 * (104 * k + i)))) 63 i (q_I s 76 (4 * (104 * k + i) + 1))) 64 i (q_I s 76 (4 * (104 * k + i) + 2))) 65 i (q_I s 76 (4 * (104 * k + i) + 3))) 66 i (q_L s 77 (3 * (104 * k + i)))) 67 i (q_L s 77 (3 * (104 * k + i) + 1))) 68 i (q_L s 77 (3 * (104 * k + i) + 2))
def cH1 (s : Q_S) (k i : Int) : Q_S := q_sl (q_sl (q_sl (q_si (q_si (q_si (q_si (q_si s 78 (104 * k + i) (q_I s 69 i)) 76 (4 * (104 * k + i)) (q_I s 62 i)) 76 (4 * (104 * k + i) + 1) (q_I s 63 i)) 76 (4 * (104 * k + i) + 2) (q_I s 64 i)) 76 (4 * (104 * k + i) + 3) (q_I s 65 i)) 77 (3 * (104 * k + i)) (q_L s 66 i)) 77 (3 * (104 * k + i) + 1) (q_L s 67 i)) 77 (3 * (104 * k + i) + 2) (q_L s 68 i)
section RCA
variable {o : X_O} {s : Q_S} {k i : Int}
set_option maxHeartbeats 2000000 in
theorem car_f0 (hs : SH s) (k0 : 0 ≤ k ∧ k < 8) (i0 : 0 ≤ i ∧ i < 6144) (hb : q_I s 75 (6144 * k + i) = 0 ∨ q_I s 75 (6144 * k + i) = 1) {Q : Q_S × Unit → Prop} (K : QW (fun n => g_144 o n 2 (cF0 s k i) 38 k 0 (i + 1) 0 0 .null 0 0 0) Q) : QW (fun n => g_144 o n 2 s 38 k 0 i 0 0 .null 0 0 0) Q := by
  unfold cF0 at K
  refine QW_s ?_
  simp only [g_144]
  refine QW_g (by omega) ?_
  refine QW_if (by omega) ?_
  refine QW_p (k_gv (hs _ _ rfl) rfl rfl) ?_
  refine QW_g (by decide) ?_
  refine QW_it (by simp) ?_
  refine QW_p (k_gv (hs _ _ rfl) rfl rfl) ?_
  refine QW_p (k_ba (hs _ _ rfl) (by omega) (by omega) (by decide)) ?_
  refine QW_s ?_
  simp only [g_144]
  refine QW_p (k_bs (hs _ _ rfl) (by omega) (by omega) (by decide) (by first | exact hb | (simp only [q_I_si]; simpa using hb))) ?_
  rw [si_self]
  refine QW_p (k_gv (hs _ _ rfl) rfl rfl) ?_
  refine QW_p (k_gv (hs _ _ rfl) rfl rfl) ?_
  refine QW_p (k_ba (hs _ _ rfl) (by omega) (by omega) (by decide)) ?_
  refine QW_p (k_bs (hs _ _ rfl) (by omega) (by omega) (by decide) (by first | exact hb | (simp only [q_I_si]; simpa using hb))) ?_
  refine QW_p (k_gv (hs _ _ rfl) rfl rfl) ?_
  refine QW_g (by decide) ?_
  refine QW_it (by simp) ?_
  refine QW_p (k_gv (hs _ _ rfl) rfl rfl) ?_
  refine QW_p (k_la (hs _ _ rfl) (by omega) (by omega) (by decide)) ?_
  refine QW_s ?_
  simp only [g_144]
  refine QW_p (k_ls (hs _ _ rfl) (by omega) (by omega) (by decide)) ?_
  rw [sl_self]
  refine QW_p (k_gv (hs _ _ rfl) rfl rfl) ?_
  refine QW_p (k_gv (hs _ _ rfl) rfl rfl) ?_
  refine QW_p (k_la (hs _ _ rfl) (by omega) (by omega) (by decide)) ?_
  refine QW_p (k_ls (hs _ _ rfl) (by omega) (by omega) (by decide)) ?_
  refine QW_p (k_gv (hs _ _ rfl) rfl rfl) ?_
  refine QW_g (by decide) ?_
  refine QW_it (by simp) ?_
  refine QW_p (k_gv (hs _ _ rfl) rfl rfl) ?_
  refine QW_p (k_ia (hs _ _ rfl) (by omega) (by omega) (by decide)) ?_
  refine QW_s ?_
  simp only [g_144]
  refine QW_p (k_is (hs _ _ rfl) (by omega) (by omega) (by decide)) ?_
  rw [si_self]
  refine QW_p (k_gv (hs _ _ rfl) rfl rfl) ?_
  refine QW_g (by decide) ?_
  refine QW_it (by simp) ?_
  refine QW_p (k_gv (hs _ _ rfl) rfl rfl) ?_
  refine QW_p (k_ia (hs _ _ rfl) (by omega) (by omega) (by decide)) ?_
  refine QW_s ?_
  simp only [g_144]
  refine QW_p (k_is (hs _ _ rfl) (by omega) (by omega) (by decide)) ?_
  rw [si_self]
  refine QW_p (k_gv (hs _ _ rfl) rfl rfl) ?_
  refine QW_g (by decide) ?_
  refine QW_it (by simp) ?_
  refine QW_p (k_gv (hs _ _ rfl) rfl rfl) ?_
  refine QW_p (k_ia (hs _ _ rfl) (by omega) (by omega) (by decide)) ?_
  refine QW_s ?_
  simp only [g_144]
  refine QW_p (k_is (hs _ _ rfl) (by omega) (by omega) (by decide)) ?_
  rw [si_self]
  refine QW_p (k_gv (hs _ _ rfl) rfl rfl) ?_
  refine QW_g (by decide) ?_
  refine QW_it (by simp) ?_
  refine QW_p (k_gv (hs _ _ rfl) rfl rfl) ?_
  refine QW_p (k_ia (hs _ _ rfl) (by omega) (by omega) (by decide)) ?_
  refine QW_s ?_
  simp only [g_144]
  refine QW_p (k_is (hs _ _ rfl) (by omega) (by omega) (by decide)) ?_
  rw [si_self]
  refine QW_p (k_gv (hs _ _ rfl) rfl rfl) ?_
  refine QW_g (by decide) ?_
  refine QW_it (by simp) ?_
  refine QW_p (k_gv (hs _ _ rfl) rfl rfl) ?_
  refine QW_p (k_ia (hs _ _ rfl) (by omega) (by omega) (by decide)) ?_
  refine QW_s ?_
  simp only [g_144]
  refine QW_p (k_is (hs _ _ rfl) (by omega) (by omega) (by decide)) ?_
  rw [si_self]
  refine QW_p (k_gv (hs _ _ rfl) rfl rfl) ?_
  refine QW_p (k_gv (hs _ _ rfl) rfl rfl) ?_
  refine QW_p (k_ia (hs _ _ rfl) (by omega) (by omega) (by decide)) ?_
  refine QW_p (k_is (hs _ _ rfl) (by omega) (by omega) (by decide)) ?_
  refine QW_p (k_gv (hs _ _ rfl) rfl rfl) ?_
  refine QW_p (k_gv (hs _ _ rfl) rfl rfl) ?_
  refine QW_p (k_ia (hs _ _ rfl) (by omega) (by omega) (by decide)) ?_
  refine QW_p (k_is (hs _ _ rfl) (by omega) (by omega) (by decide)) ?_
  refine QW_p (k_gv (hs _ _ rfl) rfl rfl) ?_
  refine QW_p (k_gv (hs _ _ rfl) rfl rfl) ?_
  refine QW_p (k_ia (hs _ _ rfl) (by omega) (by omega) (by decide)) ?_
  refine QW_p (k_is (hs _ _ rfl) (by omega) (by omega) (by decide)) ?_
  refine QW_p (k_gv (hs _ _ rfl) rfl rfl) ?_
  refine QW_p (k_gv (hs _ _ rfl) rfl rfl) ?_
  refine QW_p (k_ia (hs _ _ rfl) (by omega) (by omega) (by decide)) ?_
  refine QW_p (k_is (hs _ _ rfl) (by omega) (by omega) (by decide)) ?_
  refine QW_p (k_gv (hs _ _ rfl) rfl rfl) ?_
  refine QW_p (k_gv (hs _ _ rfl) rfl rfl) ?_
  refine QW_p (k_ia (hs _ _ rfl) (by omega) (by omega) (by decide)) ?_
  refine QW_p (k_is (hs _ _ rfl) (by omega) (by omega) (by decide)) ?_
  exact K
set_option maxHeartbeats 2000000 in
theorem car_f1 (hs : SH s) (k0 : 0 ≤ k ∧ k < 8) (i0 : 0 ≤ i ∧ i < 6144) (hb : q_I s 61 i = 0 ∨ q_I s 61 i = 1) {Q : Q_S × Unit → Prop} (K : QW (fun n => g_144 o n 2 (cF1 s k i) 38 k 1 (i + 1) 0 0 .null 0 0 0) Q) : QW (fun n => g_144 o n 2 s 38 k 1 i 0 0 .null 0 0 0) Q := by
  unfold cF1 at K
  refine QW_s ?_
  simp only [g_144]
  refine QW_g (by omega) ?_
  refine QW_if (by omega) ?_
  refine QW_p (k_gv (hs _ _ rfl) rfl rfl) ?_
  refine QW_g (by decide) ?_
  refine QW_if (by decide) ?_
  refine QW_p (k_gv (hs _ _ rfl) rfl rfl) ?_
  refine QW_p (k_ba (hs _ _ rfl) (by omega) (by omega) (by decide)) ?_
  refine QW_s ?_
  simp only [g_144]
  refine QW_p (k_bs (hs _ _ rfl) (by omega) (by omega) (by decide) (by first | exact hb | (simp only [q_I_si]; simpa using hb))) ?_
  refine QW_p (k_gv (hs _ _ rfl) rfl rfl) ?_
  refine QW_p (k_gv (hs _ _ rfl) rfl rfl) ?_
  refine QW_p (k_ba (hs _ _ rfl) (by omega) (by omega) (by decide)) ?_
  refine QW_p (k_bs (hs _ _ rfl) (by omega) (by omega) (by decide) (by first | exact hb | (simp only [q_I_si]; simpa using hb))) ?_
  rw [si_eq (by simp [q_I_si, q_L_sl, q_I_sl, q_L_si] <;> (repeat rw [if_neg (by omega)]))]
  refine QW_p (k_gv (hs _ _ rfl) rfl rfl) ?_
  refine QW_g (by decide) ?_
  refine QW_if (by decide) ?_
  refine QW_p (k_gv (hs _ _ rfl) rfl rfl) ?_
  refine QW_p (k_la (hs _ _ rfl) (by omega) (by omega) (by decide)) ?_
  refine QW_s ?_
  simp only [g_144]
  refine QW_p (k_ls (hs _ _ rfl) (by omega) (by omega) (by decide)) ?_
  refine QW_p (k_gv (hs _ _ rfl) rfl rfl) ?_
  refine QW_p (k_gv (hs _ _ rfl) rfl rfl) ?_
  refine QW_p (k_la (hs _ _ rfl) (by omega) (by omega) (by decide)) ?_
  refine QW_p (k_ls (hs _ _ rfl) (by omega) (by omega) (by decide)) ?_
  rw [sl_eq (by simp [q_I_si, q_L_sl, q_I_sl, q_L_si] <;> (repeat rw [if_neg (by omega)]))]
  refine QW_p (k_gv (hs _ _ rfl) rfl rfl) ?_
  refine QW_g (by decide) ?_
  refine QW_if (by decide) ?_
  refine QW_p (k_gv (hs _ _ rfl) rfl rfl) ?_
  refine QW_p (k_ia (hs _ _ rfl) (by omega) (by omega) (by decide)) ?_
  refine QW_s ?_
  simp only [g_144]
  refine QW_p (k_is (hs _ _ rfl) (by omega) (by omega) (by decide)) ?_
  refine QW_p (k_gv (hs _ _ rfl) rfl rfl) ?_
  refine QW_g (by decide) ?_
  refine QW_if (by decide) ?_
  refine QW_p (k_gv (hs _ _ rfl) rfl rfl) ?_
  refine QW_p (k_ia (hs _ _ rfl) (by omega) (by omega) (by decide)) ?_
  refine QW_s ?_
  simp only [g_144]
  refine QW_p (k_is (hs _ _ rfl) (by omega) (by omega) (by decide)) ?_
  refine QW_p (k_gv (hs _ _ rfl) rfl rfl) ?_
  refine QW_g (by decide) ?_
  refine QW_if (by decide) ?_
  refine QW_p (k_gv (hs _ _ rfl) rfl rfl) ?_
  refine QW_p (k_ia (hs _ _ rfl) (by omega) (by omega) (by decide)) ?_
  refine QW_s ?_
  simp only [g_144]
  refine QW_p (k_is (hs _ _ rfl) (by omega) (by omega) (by decide)) ?_
  refine QW_p (k_gv (hs _ _ rfl) rfl rfl) ?_
  refine QW_g (by decide) ?_
  refine QW_if (by decide) ?_
  refine QW_p (k_gv (hs _ _ rfl) rfl rfl) ?_
  refine QW_p (k_ia (hs _ _ rfl) (by omega) (by omega) (by decide)) ?_
  refine QW_s ?_
  simp only [g_144]
  refine QW_p (k_is (hs _ _ rfl) (by omega) (by omega) (by decide)) ?_
  refine QW_p (k_gv (hs _ _ rfl) rfl rfl) ?_
  refine QW_g (by decide) ?_
  refine QW_if (by decide) ?_
  refine QW_p (k_gv (hs _ _ rfl) rfl rfl) ?_
  refine QW_p (k_ia (hs _ _ rfl) (by omega) (by omega) (by decide)) ?_
  refine QW_s ?_
  simp only [g_144]
  refine QW_p (k_is (hs _ _ rfl) (by omega) (by omega) (by decide)) ?_
  refine QW_p (k_gv (hs _ _ rfl) rfl rfl) ?_
  refine QW_p (k_gv (hs _ _ rfl) rfl rfl) ?_
  refine QW_p (k_ia (hs _ _ rfl) (by omega) (by omega) (by decide)) ?_
  refine QW_p (k_is (hs _ _ rfl) (by omega) (by omega) (by decide)) ?_
  rw [si_eq (by simp [q_I_si, q_L_sl, q_I_sl, q_L_si] <;> (repeat rw [if_neg (by omega)]))]
  refine QW_p (k_gv (hs _ _ rfl) rfl rfl) ?_
  refine QW_p (k_gv (hs _ _ rfl) rfl rfl) ?_
  refine QW_p (k_ia (hs _ _ rfl) (by omega) (by omega) (by decide)) ?_
  refine QW_p (k_is (hs _ _ rfl) (by omega) (by omega) (by decide)) ?_
  rw [si_eq (by simp [q_I_si, q_L_sl, q_I_sl, q_L_si] <;> (repeat rw [if_neg (by omega)]))]
  refine QW_p (k_gv (hs _ _ rfl) rfl rfl) ?_
  refine QW_p (k_gv (hs _ _ rfl) rfl rfl) ?_
  refine QW_p (k_ia (hs _ _ rfl) (by omega) (by omega) (by decide)) ?_
  refine QW_p (k_is (hs _ _ rfl) (by omega) (by omega) (by decide)) ?_
  rw [si_eq (by simp [q_I_si, q_L_sl, q_I_sl, q_L_si] <;> (repeat rw [if_neg (by omega)]))]
  refine QW_p (k_gv (hs _ _ rfl) rfl rfl) ?_
  refine QW_p (k_gv (hs _ _ rfl) rfl rfl) ?_
  refine QW_p (k_ia (hs _ _ rfl) (by omega) (by omega) (by decide)) ?_
  refine QW_p (k_is (hs _ _ rfl) (by omega) (by omega) (by decide)) ?_
  rw [si_eq (by simp [q_I_si, q_L_sl, q_I_sl, q_L_si] <;> (repeat rw [if_neg (by omega)]))]
  refine QW_p (k_gv (hs _ _ rfl) rfl rfl) ?_
  refine QW_p (k_gv (hs _ _ rfl) rfl rfl) ?_
  refine QW_p (k_ia (hs _ _ rfl) (by omega) (by omega) (by decide)) ?_
  refine QW_p (k_is (hs _ _ rfl) (by omega) (by omega) (by decide)) ?_
  rw [si_eq (by simp [q_I_si, q_L_sl, q_I_sl, q_L_si] <;> (repeat rw [if_neg (by omega)]))]
  exact K
set_option maxHeartbeats 2000000 in
theorem car_h0 (hs : SH s) (k0 : 0 ≤ k ∧ k < 8) (i0 : 0 ≤ i ∧ i < 104) (hb : q_I s 78 (104 * k + i) = 0 ∨ q_I s 78 (104 * k + i) = 1) {Q : Q_S × Unit → Prop} (K : QW (fun n => g_144 o n 10 (cH0 s k i) 38 k 0 (i + 1) 0 0 .null 0 0 0) Q) : QW (fun n => g_144 o n 10 s 38 k 0 i 0 0 .null 0 0 0) Q := by
  unfold cH0 at K
  refine QW_s ?_
  simp only [g_144]
  refine QW_g (by omega) ?_
  refine QW_if (by omega) ?_
  refine QW_p (k_gv (hs _ _ rfl) rfl rfl) ?_
  refine QW_g (by decide) ?_
  refine QW_it (by simp) ?_
  refine QW_p (k_gv (hs _ _ rfl) rfl rfl) ?_
  refine QW_p (k_ba (hs _ _ rfl) (by omega) (by omega) (by decide)) ?_
  refine QW_s ?_
  simp only [g_144]
  refine QW_p (k_bs (hs _ _ rfl) (by omega) (by omega) (by decide) (by first | exact hb | (simp only [q_I_si]; simpa using hb))) ?_
  rw [si_self]
  refine QW_p (k_gv (hs _ _ rfl) rfl rfl) ?_
  refine QW_p (k_gv (hs _ _ rfl) rfl rfl) ?_
  refine QW_p (k_ba (hs _ _ rfl) (by omega) (by omega) (by decide)) ?_
  refine QW_p (k_bs (hs _ _ rfl) (by omega) (by omega) (by decide) (by first | exact hb | (simp only [q_I_si]; simpa using hb))) ?_
  refine QW_p (k_gv (hs _ _ rfl) rfl rfl) ?_
  refine QW_g (by decide) ?_
  refine QW_it (by simp) ?_
  refine QW_p (k_gv (hs _ _ rfl) rfl rfl) ?_
  refine QW_p (k_ia (hs _ _ rfl) (by omega) (by omega) (by decide)) ?_
  refine QW_s ?_
  simp only [g_144]
  refine QW_p (k_is (hs _ _ rfl) (by omega) (by omega) (by decide)) ?_
  rw [si_self]
  refine QW_p (k_gv (hs _ _ rfl) rfl rfl) ?_
  refine QW_g (by decide) ?_
  refine QW_it (by simp) ?_
  refine QW_p (k_gv (hs _ _ rfl) rfl rfl) ?_
  refine QW_p (k_ia (hs _ _ rfl) (by omega) (by omega) (by decide)) ?_
  refine QW_s ?_
  simp only [g_144]
  refine QW_p (k_is (hs _ _ rfl) (by omega) (by omega) (by decide)) ?_
  rw [si_self]
  refine QW_p (k_gv (hs _ _ rfl) rfl rfl) ?_
  refine QW_g (by decide) ?_
  refine QW_it (by simp) ?_
  refine QW_p (k_gv (hs _ _ rfl) rfl rfl) ?_
  refine QW_p (k_ia (hs _ _ rfl) (by omega) (by omega) (by decide)) ?_
  refine QW_s ?_
  simp only [g_144]
  refine QW_p (k_is (hs _ _ rfl) (by omega) (by omega) (by decide)) ?_
  rw [si_self]
  refine QW_p (k_gv (hs _ _ rfl) rfl rfl) ?_
  refine QW_g (by decide) ?_
  refine QW_it (by simp) ?_
  refine QW_p (k_gv (hs _ _ rfl) rfl rfl) ?_
  refine QW_p (k_ia (hs _ _ rfl) (by omega) (by omega) (by decide)) ?_
  refine QW_s ?_
  simp only [g_144]
  refine QW_p (k_is (hs _ _ rfl) (by omega) (by omega) (by decide)) ?_
  rw [si_self]
  refine QW_p (k_gv (hs _ _ rfl) rfl rfl) ?_
  refine QW_p (k_gv (hs _ _ rfl) rfl rfl) ?_
  refine QW_p (k_ia (hs _ _ rfl) (by omega) (by omega) (by decide)) ?_
  refine QW_p (k_is (hs _ _ rfl) (by omega) (by omega) (by decide)) ?_
  refine QW_p (k_gv (hs _ _ rfl) rfl rfl) ?_
  refine QW_p (k_gv (hs _ _ rfl) rfl rfl) ?_
  refine QW_p (k_ia (hs _ _ rfl) (by omega) (by omega) (by decide)) ?_
  refine QW_p (k_is (hs _ _ rfl) (by omega) (by omega) (by decide)) ?_
  refine QW_p (k_gv (hs _ _ rfl) rfl rfl) ?_
  refine QW_p (k_gv (hs _ _ rfl) rfl rfl) ?_
  refine QW_p (k_ia (hs _ _ rfl) (by omega) (by omega) (by decide)) ?_
  refine QW_p (k_is (hs _ _ rfl) (by omega) (by omega) (by decide)) ?_
  refine QW_p (k_gv (hs _ _ rfl) rfl rfl) ?_
  refine QW_p (k_gv (hs _ _ rfl) rfl rfl) ?_
  refine QW_p (k_ia (hs _ _ rfl) (by omega) (by omega) (by decide)) ?_
  refine QW_p (k_is (hs _ _ rfl) (by omega) (by omega) (by decide)) ?_
  refine QW_p (k_gv (hs _ _ rfl) rfl rfl) ?_
  refine QW_g (by decide) ?_
  refine QW_it (by simp) ?_
  refine QW_p (k_gv (hs _ _ rfl) rfl rfl) ?_
  refine QW_p (k_la (hs _ _ rfl) (by omega) (by omega) (by decide)) ?_
  refine QW_s ?_
  simp only [g_144]
  refine QW_p (k_ls (hs _ _ rfl) (by omega) (by omega) (by decide)) ?_
  rw [sl_self]
  refine QW_p (k_gv (hs _ _ rfl) rfl rfl) ?_
  refine QW_g (by decide) ?_
  refine QW_it (by simp) ?_
  refine QW_p (k_gv (hs _ _ rfl) rfl rfl) ?_
  refine QW_p (k_la (hs _ _ rfl) (by omega) (by omega) (by decide)) ?_
  refine QW_s ?_
  simp only [g_144]
  refine QW_p (k_ls (hs _ _ rfl) (by omega) (by omega) (by decide)) ?_
  rw [sl_self]
  refine QW_p (k_gv (hs _ _ rfl) rfl rfl) ?_
  refine QW_g (by decide) ?_
  refine QW_it (by simp) ?_
  refine QW_p (k_gv (hs _ _ rfl) rfl rfl) ?_
  refine QW_p (k_la (hs _ _ rfl) (by omega) (by omega) (by decide)) ?_
  refine QW_s ?_
  simp only [g_144]
  refine QW_p (k_ls (hs _ _ rfl) (by omega) (by omega) (by decide)) ?_
  rw [sl_self]
  refine QW_p (k_gv (hs _ _ rfl) rfl rfl) ?_
  refine QW_p (k_gv (hs _ _ rfl) rfl rfl) ?_
  refine QW_p (k_la (hs _ _ rfl) (by omega) (by omega) (by decide)) ?_
  refine QW_p (k_ls (hs _ _ rfl) (by omega) (by omega) (by decide)) ?_
  refine QW_p (k_gv (hs _ _ rfl) rfl rfl) ?_
  refine QW_p (k_gv (hs _ _ rfl) rfl rfl) ?_
  refine QW_p (k_la (hs _ _ rfl) (by omega) (by omega) (by decide)) ?_
  refine QW_p (k_ls (hs _ _ rfl) (by omega) (by omega) (by decide)) ?_
  refine QW_p (k_gv (hs _ _ rfl) rfl rfl) ?_
  refine QW_p (k_gv (hs _ _ rfl) rfl rfl) ?_
  refine QW_p (k_la (hs _ _ rfl) (by omega) (by omega) (by decide)) ?_
  refine QW_p (k_ls (hs _ _ rfl) (by omega) (by omega) (by decide)) ?_
  exact K
set_option maxHeartbeats 2000000 in
theorem car_h1 (hs : SH s) (k0 : 0 ≤ k ∧ k < 8) (i0 : 0 ≤ i ∧ i < 104) (hb : q_I s 69 i = 0 ∨ q_I s 69 i = 1) {Q : Q_S × Unit → Prop} (K : QW (fun n => g_144 o n 10 (cH1 s k i) 38 k 1 (i + 1) 0 0 .null 0 0 0) Q) : QW (fun n => g_144 o n 10 s 38 k 1 i 0 0 .null 0 0 0) Q := by
  unfold cH1 at K
  refine QW_s ?_
  simp only [g_144]
  refine QW_g (by omega) ?_
  refine QW_if (by omega) ?_
  refine QW_p (k_gv (hs _ _ rfl) rfl rfl) ?_
  refine QW_g (by decide) ?_
  refine QW_if (by decide) ?_
  refine QW_p (k_gv (hs _ _ rfl) rfl rfl) ?_
  refine QW_p (k_ba (hs _ _ rfl) (by omega) (by omega) (by decide)) ?_
  refine QW_s ?_
  simp only [g_144]
  refine QW_p (k_bs (hs _ _ rfl) (by omega) (by omega) (by decide) (by first | exact hb | (simp only [q_I_si]; simpa using hb))) ?_
  refine QW_p (k_gv (hs _ _ rfl) rfl rfl) ?_
  refine QW_p (k_gv (hs _ _ rfl) rfl rfl) ?_
  refine QW_p (k_ba (hs _ _ rfl) (by omega) (by omega) (by decide)) ?_
  refine QW_p (k_bs (hs _ _ rfl) (by omega) (by omega) (by decide) (by first | exact hb | (simp only [q_I_si]; simpa using hb))) ?_
  rw [si_eq (by simp [q_I_si, q_L_sl, q_I_sl, q_L_si] <;> (repeat rw [if_neg (by omega)]))]
  refine QW_p (k_gv (hs _ _ rfl) rfl rfl) ?_
  refine QW_g (by decide) ?_
  refine QW_if (by decide) ?_
  refine QW_p (k_gv (hs _ _ rfl) rfl rfl) ?_
  refine QW_p (k_ia (hs _ _ rfl) (by omega) (by omega) (by decide)) ?_
  refine QW_s ?_
  simp only [g_144]
  refine QW_p (k_is (hs _ _ rfl) (by omega) (by omega) (by decide)) ?_
  refine QW_p (k_gv (hs _ _ rfl) rfl rfl) ?_
  refine QW_g (by decide) ?_
  refine QW_if (by decide) ?_
  refine QW_p (k_gv (hs _ _ rfl) rfl rfl) ?_
  refine QW_p (k_ia (hs _ _ rfl) (by omega) (by omega) (by decide)) ?_
  refine QW_s ?_
  simp only [g_144]
  refine QW_p (k_is (hs _ _ rfl) (by omega) (by omega) (by decide)) ?_
  refine QW_p (k_gv (hs _ _ rfl) rfl rfl) ?_
  refine QW_g (by decide) ?_
  refine QW_if (by decide) ?_
  refine QW_p (k_gv (hs _ _ rfl) rfl rfl) ?_
  refine QW_p (k_ia (hs _ _ rfl) (by omega) (by omega) (by decide)) ?_
  refine QW_s ?_
  simp only [g_144]
  refine QW_p (k_is (hs _ _ rfl) (by omega) (by omega) (by decide)) ?_
  refine QW_p (k_gv (hs _ _ rfl) rfl rfl) ?_
  refine QW_g (by decide) ?_
  refine QW_if (by decide) ?_
  refine QW_p (k_gv (hs _ _ rfl) rfl rfl) ?_
  refine QW_p (k_ia (hs _ _ rfl) (by omega) (by omega) (by decide)) ?_
  refine QW_s ?_
  simp only [g_144]
  refine QW_p (k_is (hs _ _ rfl) (by omega) (by omega) (by decide)) ?_
  refine QW_p (k_gv (hs _ _ rfl) rfl rfl) ?_
  refine QW_p (k_gv (hs _ _ rfl) rfl rfl) ?_
  refine QW_p (k_ia (hs _ _ rfl) (by omega) (by omega) (by decide)) ?_
  refine QW_p (k_is (hs _ _ rfl) (by omega) (by omega) (by decide)) ?_
  rw [si_eq (by simp [q_I_si, q_L_sl, q_I_sl, q_L_si] <;> (repeat rw [if_neg (by omega)]))]
  refine QW_p (k_gv (hs _ _ rfl) rfl rfl) ?_
  refine QW_p (k_gv (hs _ _ rfl) rfl rfl) ?_
  refine QW_p (k_ia (hs _ _ rfl) (by omega) (by omega) (by decide)) ?_
  refine QW_p (k_is (hs _ _ rfl) (by omega) (by omega) (by decide)) ?_
  rw [si_eq (by simp [q_I_si, q_L_sl, q_I_sl, q_L_si] <;> (repeat rw [if_neg (by omega)]))]
  refine QW_p (k_gv (hs _ _ rfl) rfl rfl) ?_
  refine QW_p (k_gv (hs _ _ rfl) rfl rfl) ?_
  refine QW_p (k_ia (hs _ _ rfl) (by omega) (by omega) (by decide)) ?_
  refine QW_p (k_is (hs _ _ rfl) (by omega) (by omega) (by decide)) ?_
  rw [si_eq (by simp [q_I_si, q_L_sl, q_I_sl, q_L_si] <;> (repeat rw [if_neg (by omega)]))]
  refine QW_p (k_gv (hs _ _ rfl) rfl rfl) ?_
  refine QW_p (k_gv (hs _ _ rfl) rfl rfl) ?_
  refine QW_p (k_ia (hs _ _ rfl) (by omega) (by omega) (by decide)) ?_
  refine QW_p (k_is (hs _ _ rfl) (by omega) (by omega) (by decide)) ?_
  rw [si_eq (by simp [q_I_si, q_L_sl, q_I_sl, q_L_si] <;> (repeat rw [if_neg (by omega)]))]
  refine QW_p (k_gv (hs _ _ rfl) rfl rfl) ?_
  refine QW_g (by decide) ?_
  refine QW_if (by decide) ?_
  refine QW_p (k_gv (hs _ _ rfl) rfl rfl) ?_
  refine QW_p (k_la (hs _ _ rfl) (by omega) (by omega) (by decide)) ?_
  refine QW_s ?_
  simp only [g_144]
  refine QW_p (k_ls (hs _ _ rfl) (by omega) (by omega) (by decide)) ?_
  refine QW_p (k_gv (hs _ _ rfl) rfl rfl) ?_
  refine QW_g (by decide) ?_
  refine QW_if (by decide) ?_
  refine QW_p (k_gv (hs _ _ rfl) rfl rfl) ?_
  refine QW_p (k_la (hs _ _ rfl) (by omega) (by omega) (by decide)) ?_
  refine QW_s ?_
  simp only [g_144]
  refine QW_p (k_ls (hs _ _ rfl) (by omega) (by omega) (by decide)) ?_
  refine QW_p (k_gv (hs _ _ rfl) rfl rfl) ?_
  refine QW_g (by decide) ?_
  refine QW_if (by decide) ?_
  refine QW_p (k_gv (hs _ _ rfl) rfl rfl) ?_
  refine QW_p (k_la (hs _ _ rfl) (by omega) (by omega) (by decide)) ?_
  refine QW_s ?_
  simp only [g_144]
  refine QW_p (k_ls (hs _ _ rfl) (by omega) (by omega) (by decide)) ?_
  refine QW_p (k_gv (hs _ _ rfl) rfl rfl) ?_
  refine QW_p (k_gv (hs _ _ rfl) rfl rfl) ?_
  refine QW_p (k_la (hs _ _ rfl) (by omega) (by omega) (by decide)) ?_
  refine QW_p (k_ls (hs _ _ rfl) (by omega) (by omega) (by decide)) ?_
  rw [sl_eq (by simp [q_I_si, q_L_sl, q_I_sl, q_L_si] <;> (repeat rw [if_neg (by omega)]))]
  refine QW_p (k_gv (hs _ _ rfl) rfl rfl) ?_
  refine QW_p (k_gv (hs _ _ rfl) rfl rfl) ?_
  refine QW_p (k_la (hs _ _ rfl) (by omega) (by omega) (by decide)) ?_
  refine QW_p (k_ls (hs _ _ rfl) (by omega) (by omega) (by decide)) ?_
  rw [sl_eq (by simp [q_I_si, q_L_sl, q_I_sl, q_L_si] <;> (repeat rw [if_neg (by omega)]))]
  refine QW_p (k_gv (hs _ _ rfl) rfl rfl) ?_
  refine QW_p (k_gv (hs _ _ rfl) rfl rfl) ?_
  refine QW_p (k_la (hs _ _ rfl) (by omega) (by omega) (by decide)) ?_
  refine QW_p (k_ls (hs _ _ rfl) (by omega) (by omega) (by decide)) ?_
  rw [sl_eq (by simp [q_I_si, q_L_sl, q_I_sl, q_L_si] <;> (repeat rw [if_neg (by omega)]))]
  exact K
end RCA
