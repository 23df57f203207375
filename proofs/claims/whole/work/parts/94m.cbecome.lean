/-! THE CLASS'S RUNS COPIED: a run becomes another -/
def shU (A : Nat) (rw wt : Value) : Y_T := .inr (4, [none, some rw, some wt, none, none, none, none, none, some (.ref (A + 1)), some (.ref (A + 2)), some (.ref (A + 3)), some (.ref (A + 4))])
/-- the arrays of a run -/
def UA (s : Q_S) (A : Nat) : Prop := q_T s (A + 1) = some (.inl (.long, 16, fun _ => none)) ∧ q_T s (A + 2) = some (.inl (.long, 8, fun _ => none)) ∧ q_T s (A + 3) = some (.inl (.int, 8, fun _ => none))
section CBM
variable {o : X_O} {s : Q_S} {A B cA cB RA RB : Nat} {rwA wtA rwB wtB : Value} {v : CV}
set_option maxHeartbeats 4000000 in
theorem d_46 (hA : q_T s A = some (shU A rwA wtA)) (hB : q_T s B = some (shU B rwB wtB)) (uA : UA s A) (uB : UA s B) (hfB : VW s (B + 4) cB RB v) (hFA : q_T s (A + 4) = some (shF0 cA)) (ha : ∀ i t, shFa RA i = some t → q_T s (cA + i) = some t) (hd : cA + 10 ≤ cB ∨ cB + 10 ≤ cA) (hAB : A + 4 < B ∨ B + 4 < A) (hAc : A + 4 ≤ cA ∨ cA + 10 < A) (hBc : B + 4 ≤ cA ∨ cA + 10 < B) (hAd : A + 4 ≤ cB ∨ cB + 10 < A) (hU : v_u v ≤ RA) (rA : RA ≤ 20000) (hcA : cA = 24 ∨ 80 ≤ cA) (hn : cA + 10 < s.1) (yr : y_rv rwB = true) (yw : y_rv wtB = true) (fr : x_fit (x_fty 4 1) rwB = true) (fw : x_fit (x_fty 4 2) wtB = true) :
    QW (fun n => g_46 o n 0 s A (.ref B)) (fun q => q.1.1 = s.1 ∧ q.1.2.1 = s.2.1 ∧ q_T q.1 A = some (shU A rwB wtB) ∧ (∀ a, a ≠ A → q_T q.1 a = q_T s a) ∧ (∀ f : Nat, f = 0 ∨ f = 3 ∨ f = 4 ∨ f = 5 ∨ f = 6 ∨ f = 7 → q_F q.1 A f = q_F s B f) ∧
      (∀ j, 0 ≤ j → j < 16 → q_L q.1 (A + 1) j = q_L s (B + 1) j) ∧ (∀ j, 0 ≤ j → j < 8 → q_L q.1 (A + 2) j = q_L s (B + 2) j) ∧ (∀ j, 0 ≤ j → j < 8 → q_I q.1 (A + 3) j = q_I s (B + 3) j) ∧ VW q.1 (A + 4) cA RA v ∧
      (∀ a, ¬ (A ≤ a ∧ a ≤ A + 4) → ¬ (cA < a ∧ a ≤ cA + 10) → ∀ j, q_I q.1 a j = q_I s a j ∧ q_L q.1 a j = q_L s a j)) := by
  have hne : A ≠ B := by omega
  obtain ⟨a1, a2, a3⟩ := uA
  obtain ⟨b1, b2, b3⟩ := uB
  refine QW_s ?_
  simp only [g_46]
  refine QW_p (k_gi hB rfl) ?_
  refine QW_p (k_pi hA rfl rfl) ?_
  refine QW_p (k_gv (show q_T (q_sf s A 0 _) B = some (shU B rwB wtB) from hB) rfl yr) ?_
  refine QW_p (show q_pr (q_sf s A 0 (q_F s B 0)) 4 (.ref A) 1 rwB = some (q_st (q_sf s A 0 (q_F s B 0)) A (shU A rwB wtA)) from k_pr (show q_T (q_sf s A 0 (q_F s B 0)) A = some (shU A rwA wtA) from hA) rfl fr) ?_
  generalize hs1 : q_st (q_sf s A 0 (q_F s B 0)) A (shU A rwB wtA) = s1
  have tB1 : q_T s1 B = some (shU B rwB wtB) := by rw [← hs1, q_T_st, if_neg hne.symm]; exact hB
  have tA1 : q_T s1 A = some (shU A rwB wtA) := by rw [← hs1, q_T_st, if_pos rfl]
  refine QW_p (k_gv tB1 rfl yw) ?_
  refine QW_p (show q_pr s1 4 (.ref A) 2 wtB = some (q_st s1 A (shU A rwB wtB)) from k_pr tA1 rfl fw) ?_
  generalize hs2 : q_st s1 A (shU A rwB wtB) = s2
  have tB2 : q_T s2 B = some (shU B rwB wtB) := by rw [← hs2, q_T_st, if_neg hne.symm]; exact tB1
  have tA2 : q_T s2 A = some (shU A rwB wtB) := by rw [← hs2, q_T_st, if_pos rfl]
  have fB2 : ∀ f : Nat, q_F s2 B f = q_F s B f := fun f => by rw [← hs2, q_F_st, ← hs1, q_F_st, q_F_sf, if_neg (fun z => hne z.1.symm)]
  have T2 : ∀ a, a ≠ A → q_T s2 a = q_T s a := fun a h => by rw [← hs2, q_T_st, if_neg h, ← hs1, q_T_st, if_neg h]; rfl
  have I2 : ∀ a j, a ≠ A → q_I s2 a j = q_I s a j := fun a j h => by rw [← hs2, q_I_st, ← hs1, q_I_st, q_I_sf, if_neg (fun z => h z.1)]
  have L2 : ∀ a j, q_L s2 a j = q_L s a j := fun a j => by rw [← hs2, ← hs1]; rfl
  have n2 : s2.1 = s.1 ∧ s2.2.1 = s.2.1 := by rw [← hs2, ← hs1]; exact ⟨rfl, rfl⟩
  have fA2 : q_F s2 A 0 = q_F s B 0 := by rw [← hs2, q_F_st, ← hs1, q_F_st, q_F_sf, if_pos ⟨rfl, rfl⟩]
  have gB : ∀ (x : Q_S) (f h : Nat) (y : Int), q_F (q_sf x A f y) B h = q_F x B h := fun x f h y => by rw [q_F_sf, if_neg (fun z => hne z.1.symm)]
  refine QW_p (k_gi tB2 rfl) ?_
  refine QW_p (k_pi tA2 rfl rfl) ?_
  refine QW_p (k_gi (show q_T (q_sf s2 A 3 _) B = _ from tB2) rfl) ?_
  refine QW_p (k_pi (show q_T (q_sf s2 A 3 _) A = _ from tA2) rfl rfl) ?_
  refine QW_p (k_gi (show q_T (q_sf (q_sf s2 A 3 _) A 4 _) B = _ from tB2) rfl) ?_
  refine QW_p (k_pi (show q_T (q_sf (q_sf s2 A 3 _) A 4 _) A = _ from tA2) rfl rfl) ?_
  refine QW_p (k_gi (show q_T (q_sf (q_sf (q_sf s2 A 3 _) A 4 _) A 5 _) B = _ from tB2) rfl) ?_
  refine QW_p (k_pi (show q_T (q_sf (q_sf (q_sf s2 A 3 _) A 4 _) A 5 _) A = _ from tA2) rfl rfl) ?_
  refine QW_p (k_gi (show q_T (q_sf (q_sf (q_sf (q_sf s2 A 3 _) A 4 _) A 5 _) A 6 _) B = _ from tB2) rfl) ?_
  refine QW_p (k_pi (show q_T (q_sf (q_sf (q_sf (q_sf s2 A 3 _) A 4 _) A 5 _) A 6 _) A = _ from tA2) rfl rfl) ?_
  simp only [gB, fB2]
  generalize hs3 : q_sf (q_sf (q_sf (q_sf (q_sf s2 A 3 (q_F s B 3)) A 4 (q_F s B 4)) A 5 (q_F s B 5)) A 6 (q_F s B 6)) A 7 (q_F s B 7) = s3
  have T3 : ∀ a, q_T s3 a = q_T s2 a := fun a => by rw [← hs3]; rfl
  have I3 : ∀ a j, a ≠ A → q_I s3 a j = q_I s a j := fun a j h => by
    rw [← hs3, q_I_sf, if_neg (fun z => h z.1), q_I_sf, if_neg (fun z => h z.1), q_I_sf, if_neg (fun z => h z.1), q_I_sf, if_neg (fun z => h z.1), q_I_sf, if_neg (fun z => h z.1)]
    exact I2 a j h
  have L3 : ∀ a j, q_L s3 a j = q_L s a j := fun a j => by rw [← hs3]; exact L2 a j
  have n3 : s3.1 = s.1 ∧ s3.2.1 = s.2.1 := by rw [← hs3]; exact n2
  have F3 : ∀ f : Nat, f = 0 ∨ f = 3 ∨ f = 4 ∨ f = 5 ∨ f = 6 ∨ f = 7 → q_F s3 A f = q_F s B f := fun f hf => by
    rw [← hs3]
    rcases hf with e | e | e | e | e | e <;> subst e <;> simp [q_F_sf, fA2]
  refine QW_p (k_gv ((T3 B).trans tB2) rfl rfl) ?_
  refine QW_p (k_gv ((T3 A).trans tA2) rfl rfl) ?_
  refine QW_p (k_cL ((T3 _).trans ((T2 (B + 1) (by omega)).trans b1)) ((T3 _).trans ((T2 (A + 1) (by omega)).trans a1)) (by decide) (by decide) (by decide) (by decide) (by decide) (by decide) (by decide)) ?_
  refine QW_p (k_gv (show q_T (q_cL s3 _ _ _ _ _) B = _ from (T3 B).trans tB2) rfl rfl) ?_
  refine QW_p (k_gv (show q_T (q_cL s3 _ _ _ _ _) A = _ from (T3 A).trans tA2) rfl rfl) ?_
  refine QW_p (k_cL (show q_T (q_cL s3 _ _ _ _ _) (B + 2) = _ from (T3 _).trans ((T2 (B + 2) (by omega)).trans b2)) (show q_T (q_cL s3 _ _ _ _ _) (A + 2) = _ from (T3 _).trans ((T2 (A + 2) (by omega)).trans a2)) (by decide) (by decide) (by decide) (by decide) (by decide) (by decide) (by decide)) ?_
  refine QW_p (k_gv (show q_T (q_cL (q_cL s3 _ _ _ _ _) _ _ _ _ _) B = _ from (T3 B).trans tB2) rfl rfl) ?_
  refine QW_p (k_gv (show q_T (q_cL (q_cL s3 _ _ _ _ _) _ _ _ _ _) A = _ from (T3 A).trans tA2) rfl rfl) ?_
  refine QW_p (k_cI (show q_T (q_cL (q_cL s3 _ _ _ _ _) _ _ _ _ _) (B + 3) = _ from (T3 _).trans ((T2 (B + 3) (by omega)).trans b3)) (show q_T (q_cL (q_cL s3 _ _ _ _ _) _ _ _ _ _) (A + 3) = _ from (T3 _).trans ((T2 (A + 3) (by omega)).trans a3)) (by decide) (by decide) (by decide) (by decide) (by decide) (by decide) (by decide)) ?_
  generalize hs4 : q_cI (q_cL (q_cL s3 (B + 1) (A + 1) 0 0 16) (B + 2) (A + 2) 0 0 8) (B + 3) (A + 3) 0 0 8 = s4
  have T4 : ∀ a, q_T s4 a = q_T s2 a := fun a => by rw [← hs4]; exact T3 a
  have I4 : ∀ a j, a ≠ A → a ≠ A + 3 → q_I s4 a j = q_I s a j := fun a j h h' => by
    rw [← hs4, q_I_cI, if_neg (fun z => h' z.1), q_I_cL, q_I_cL]
    exact I3 a j h
  have L4 : ∀ a j, a ≠ A + 1 → a ≠ A + 2 → q_L s4 a j = q_L s a j := fun a j h h' => by
    rw [← hs4, q_L_cI, q_L_cL, if_neg (fun z => h' z.1), q_L_cL, if_neg (fun z => h z.1)]
    exact L3 a j
  have n4 : s4.1 = s.1 ∧ s4.2.1 = s.2.1 := by rw [← hs4]; exact n3
  have F4 : ∀ f : Nat, f = 0 ∨ f = 3 ∨ f = 4 ∨ f = 5 ∨ f = 6 ∨ f = 7 → q_F s4 A f = q_F s B f := fun f hf => by
    rw [← F3 f hf, ← hs4]
    show (if A = A + 3 ∧ _ then _ else _) = _
    rw [if_neg (by omega)]
    rfl
  have V4 : ∀ j, 0 ≤ j → j < 16 → q_L s4 (A + 1) j = q_L s (B + 1) j := fun j j0 j1 => by
    rw [← hs4, q_L_cI, q_L_cL, if_neg (by omega), q_L_cL, if_pos ⟨rfl, j0, by omega⟩, show (0 : Int) + (j - 0) = j by omega]
    exact L3 _ j
  have O4 : ∀ j, 0 ≤ j → j < 8 → q_L s4 (A + 2) j = q_L s (B + 2) j := fun j j0 j1 => by
    rw [← hs4, q_L_cI, q_L_cL, if_pos ⟨rfl, j0, by omega⟩, show (0 : Int) + (j - 0) = j by omega, q_L_cL, if_neg (by omega)]
    exact L3 _ j
  have N4 : ∀ j, 0 ≤ j → j < 8 → q_I s4 (A + 3) j = q_I s (B + 3) j := fun j j0 j1 => by
    rw [← hs4, q_I_cI, if_pos ⟨rfl, j0, by omega⟩, show (0 : Int) + (j - 0) = j by omega, q_I_cL, q_I_cL]
    exact I3 _ j (by omega)
  refine QW_p (k_gv ((T4 A).trans tA2) rfl rfl) ?_
  refine QW_p (k_gv ((T4 B).trans tB2) rfl rfl) ?_
  have hFA4 : q_T s4 (A + 4) = some (shF0 cA) := (T4 _).trans ((T2 _ (by omega)).trans hFA)
  refine QW_p (k_rc hFA4) ?_
  have i10 : ∀ {n : Nat} {i : Nat} {t : Y_T}, shFa n i = some t → 1 ≤ i ∧ i ≤ 10 := fun {n i t} e => by
    unfold shFa at e
    split at e <;> first | omega | cases e
  have hvB : VW s4 (B + 4) cB RB v := hfB.same (fun a ha => ⟨(T4 a).trans (T2 a (by omega)), fun j => ⟨I4 a j (by omega) (by omega), L4 a j (by omega) (by omega)⟩⟩) (by rw [n4.1]; exact Nat.le_refl _)
  have ha4 : ∀ i t, shFa RA i = some t → q_T s4 (cA + i) = some t := fun i t e => by
    have := i10 e
    exact (T4 _).trans ((T2 _ (by omega)).trans (ha i t e))
  have C59 : QW (fun n => g_59 o n 0 s4 (A + 4) (.ref (B + 4))) (fun q => q.1.1 = s4.1 ∧ q.1.2.1 = s4.2.1 ∧ (∀ a, q_T q.1 a = q_T s4 a) ∧ (∀ a, a ≠ A + 4 → ¬ (cA < a ∧ a ≤ cA + 10) → ∀ j, q_I q.1 a j = q_I s4 a j ∧ q_L q.1 a j = q_L s4 a j) ∧ VW q.1 (A + 4) cA RA v) := by
    have hv' := hvB
    obtain ⟨w0, wa, w1, w2, w3, w4, w5, w6, w7, w8, w9, w10, w11, w12⟩ := hv'
    refine QW_s ?_
    simp only [g_59]
    refine QW_p (k_gv hFA4 rfl rfl) ?_
    refine QW_p (k_ln (ha4 1 _ rfl) rfl) ?_
    refine QW_p (k_gi w0 rfl) ?_
    rw [w5]
    refine QW_g (by omega) ?_
    refine QW_it hU ?_
    exact d_59b hvB hFA4 ha4 hd (by omega) (by omega) (by omega) (by omega) hU rA hcA (by rw [n4.1]; exact hn)
  refine QW_c C59 (fun q hq => ?_)
  obtain ⟨c1, c2, c3, c4, c5⟩ := hq
  refine QW_ret ⟨c1.trans n4.1, c2.trans n4.2, (c3 A).trans ((T4 A).trans tA2), fun a h => (c3 a).trans ((T4 a).trans (T2 a h)), fun f hf => ?_, fun j j0 j1 => ?_, fun j j0 j1 => ?_, fun j j0 j1 => ?_, c5, fun a h1 h2 j => ?_⟩
  · exact ((c4 A (by omega) (by omega) f).1).trans (F4 f hf)
  · exact ((c4 (A + 1) (by omega) (by omega) j).2).trans (V4 j j0 j1)
  · exact ((c4 (A + 2) (by omega) (by omega) j).2).trans (O4 j j0 j1)
  · exact ((c4 (A + 3) (by omega) (by omega) j).1).trans (N4 j j0 j1)
  · exact ⟨((c4 a (by omega) h2 j).1).trans (I4 a j (by omega) (by omega)), ((c4 a (by omega) h2 j).2).trans (L4 a j (by omega) (by omega))⟩
end CBM
