/-! THE REFERENCE'S start -/
/-- cells filled -/
def fI (s : Q_S) (a : Nat) (n x : Int) : Q_S := (s.1, s.2.1, s.2.2.1, (fun c j => if c = a ∧ 0 ≤ j ∧ j < n then x else q_I s c j), s.2.2.2.2)
def fL (s : Q_S) (a : Nat) (n : Int) (x : Int64) : Q_S := (s.1, s.2.1, s.2.2.1, s.2.2.2.1, (fun c j => if c = a ∧ 0 ≤ j ∧ j < n then x else q_L s c j))
/-- the programs and the signals, as the reference has them -/
def RGl (Ps : Int → PT) (nP : Int) (sig : Int → Int64) (s : Q_S) : Prop := SH s ∧ q_F s 38 8 = nP ∧ (∀ k, 0 ≤ k → k < nP → m_P s k = Ps k) ∧ (∀ j, 0 ≤ j → j < 16 → q_L s 44 j = sig j) ∧ 0 ≤ q_F s 38 36 ∧ q_F s 38 36 < 6144
section RST
variable {o : X_O} {s : Q_S}
theorem fI_I {a c : Nat} {n x j : Int} : q_I (fI s a n x) c j = if c = a ∧ 0 ≤ j ∧ j < n then x else q_I s c j := rfl
theorem fI_L {a c : Nat} {n x j : Int} : q_L (fI s a n x) c j = q_L s c j := rfl
theorem fI_T {a c : Nat} {n x : Int} : q_T (fI s a n x) c = q_T s c := rfl
theorem fL_I {a c : Nat} {n j : Int} {x : Int64} : q_I (fL s a n x) c j = q_I s c j := rfl
theorem fL_L {a c : Nat} {n j : Int} {x : Int64} : q_L (fL s a n x) c j = if c = a ∧ 0 ≤ j ∧ j < n then x else q_L s c j := rfl
theorem fI_st {a : Nat} {i x : Int} (h : 0 ≤ i) : q_si (fI s a i x) a i x = fI s a (i + 1) x := by
  unfold fI q_si
  refine congrArg (fun z => (s.1, s.2.1, s.2.2.1, z, s.2.2.2.2)) (funext fun c => funext fun j => ?_)
  dsimp only
  by_cases z : c = a ∧ j = i
  · rw [if_pos z, if_pos ⟨z.1, by omega, by omega⟩]
  · rw [if_neg z]
    by_cases y : c = a ∧ 0 ≤ j ∧ j < i
    · rw [if_pos y, if_pos ⟨y.1, y.2.1, by omega⟩]
    · rw [if_neg y, if_neg (fun w => ?_)]
      by_cases k : j = i
      · exact z ⟨w.1, k⟩
      · exact y ⟨w.1, w.2.1, by omega⟩
theorem fL_st {a : Nat} {i : Int} {x : Int64} (h : 0 ≤ i) : q_sl (fL s a i x) a i x = fL s a (i + 1) x := by
  unfold fL q_sl
  refine congrArg (fun z => (s.1, s.2.1, s.2.2.1, s.2.2.2.1, z)) (funext fun c => funext fun j => ?_)
  dsimp only
  by_cases z : c = a ∧ j = i
  · rw [if_pos z, if_pos ⟨z.1, by omega, by omega⟩]
  · rw [if_neg z]
    by_cases y : c = a ∧ 0 ≤ j ∧ j < i
    · rw [if_pos y, if_pos ⟨y.1, y.2.1, by omega⟩]
    · rw [if_neg y, if_neg (fun w => ?_)]
      by_cases k : j = i
      · exact z ⟨w.1, k⟩
      · exact y ⟨w.1, w.2.1, by omega⟩
theorem fI_0 {a : Nat} {x : Int} : fI s a 0 x = s := by
  unfold fI
  have : (fun c j => if c = a ∧ 0 ≤ j ∧ j < 0 then x else q_I s c j) = s.2.2.2.1 := funext fun c => funext fun j => by rw [if_neg (by omega)]; rfl
  rw [this]
theorem fL_0 {a : Nat} {x : Int64} : fL s a 0 x = s := by
  unfold fL
  have : (fun c j => if c = a ∧ 0 ≤ j ∧ j < 0 then x else q_L s c j) = s.2.2.2.2 := funext fun c => funext fun j => by rw [if_neg (by omega)]; rfl
  rw [this]
theorem m_107z (hs : SH s) {a p t : Int} (h0 : q_I s 69 0 = 0) : QW (fun n => g_107 o n 0 s 38 a p t) (fun q => q = (m_brn s 0 a p, 0)) := by
  refine QW_s ?_
  simp only [g_107]
  refine QW_s ?_
  simp only [g_107]
  refine QW_p (k_gv (hs _ _ rfl) rfl rfl) ?_
  refine QW_p (k_ba (hs _ _ rfl) (by decide) (by decide) (by decide)) ?_
  rw [h0]
  refine QW_g (by decide) ?_
  refine QW_it rfl ?_
  refine QW_p (k_gv (hs _ _ rfl) rfl rfl) ?_
  refine QW_p (k_bs (hs _ _ rfl) (by decide) (by decide) (by decide) (Or.inr rfl)) ?_
  refine QW_p (k_gv (show q_T (q_si s 69 0 1) 38 = _ from hs _ _ rfl) rfl rfl) ?_
  refine QW_p (k_is (show q_T (q_si s 69 0 1) 62 = _ from hs _ _ rfl) (by decide) (by decide) (by decide)) ?_
  refine QW_p (k_gv (show q_T (q_si (q_si s 69 0 1) 62 0 2) 38 = _ from hs _ _ rfl) rfl rfl) ?_
  refine QW_p (k_is (show q_T (q_si (q_si s 69 0 1) 62 0 2) 63 = _ from hs _ _ rfl) (by decide) (by decide) (by decide)) ?_
  refine QW_p (k_gv (show q_T (q_si (q_si (q_si s 69 0 1) 62 0 2) 63 0 p) 38 = _ from hs _ _ rfl) rfl rfl) ?_
  refine QW_p (k_is (show q_T (q_si (q_si (q_si s 69 0 1) 62 0 2) 63 0 p) 64 = _ from hs _ _ rfl) (by decide) (by decide) (by decide)) ?_
  exact QW_ret rfl
/-- the loops of start -/
theorem m_106_1 (hs : SH s) {Q : Q_S × Int → Prop} (K : QW (fun n => g_106 o n 2 (fL s 53 16 0) 38 0 0) Q) : ∀ (f : Nat) (i : Int), i + f = 16 → 0 ≤ i → QW (fun n => g_106 o n 1 (fL s 53 i 0) 38 0 i) Q := by
  intro f
  induction f with
  | zero =>
    intro i h0 h1
    refine QW_s ?_
    simp only [g_106]
    refine QW_g (by omega) ?_
    refine QW_it (by omega) ?_
    rw [show i = 16 by omega]
    exact K
  | succ f ih =>
    intro i h0 h1
    refine QW_s ?_
    simp only [g_106]
    refine QW_g (by omega) ?_
    refine QW_if (by omega) ?_
    refine QW_p (k_gv (show q_T (fL s 53 i 0) 38 = _ from hs _ _ rfl) rfl rfl) ?_
    refine QW_p (k_ls (show q_T (fL s 53 i 0) 53 = _ from hs _ _ rfl) h1 (by omega) (by decide)) ?_
    rw [fL_st h1]
    exact ih (i + 1) (by omega) (by omega)
theorem m_106_2 (hs : SH s) {Q : Q_S × Int → Prop} (K : QW (fun n => g_106 o n 3 (fI (fL s 52 8 0) 54 8 (-1)) 38 0 0) Q) : ∀ (f : Nat) (i : Int), i + f = 8 → 0 ≤ i → QW (fun n => g_106 o n 2 (fI (fL s 52 i 0) 54 i (-1)) 38 0 i) Q := by
  intro f
  induction f with
  | zero =>
    intro i h0 h1
    refine QW_s ?_
    simp only [g_106]
    refine QW_g (by omega) ?_
    refine QW_it (by omega) ?_
    rw [show i = 8 by omega]
    exact K
  | succ f ih =>
    intro i h0 h1
    refine QW_s ?_
    simp only [g_106]
    refine QW_g (by omega) ?_
    refine QW_if (by omega) ?_
    refine QW_p (k_gv (show q_T (fI (fL s 52 i 0) 54 i (-1)) 38 = _ from hs _ _ rfl) rfl rfl) ?_
    refine QW_p (k_ls (show q_T (fI (fL s 52 i 0) 54 i (-1)) 52 = _ from hs _ _ rfl) h1 (by omega) (by decide)) ?_
    have e : q_sl (fI (fL s 52 i 0) 54 i (-1)) 52 i 0 = fI (fL s 52 (i + 1) 0) 54 i (-1) := by rw [← fL_st h1]; rfl
    rw [e]
    refine QW_p (k_gv (show q_T (fI (fL s 52 (i + 1) 0) 54 i (-1)) 38 = _ from hs _ _ rfl) rfl rfl) ?_
    refine QW_p (k_is (show q_T (fI (fL s 52 (i + 1) 0) 54 i (-1)) 54 = _ from hs _ _ rfl) h1 (by omega) (by decide)) ?_
    rw [fI_st h1]
    exact ih (i + 1) (by omega) (by omega)
theorem m_106_3 (hs : SH s) {Q : Q_S × Int → Prop} (K : QW (fun n => g_106 o n 4 (fI s 61 6144 0) 38 0 0) Q) : ∀ (f : Nat) (i : Int), i + f = 6144 → 0 ≤ i → QW (fun n => g_106 o n 3 (fI s 61 i 0) 38 0 i) Q := by
  intro f
  induction f with
  | zero =>
    intro i h0 h1
    refine QW_s ?_
    simp only [g_106]
    refine QW_g (by omega) ?_
    refine QW_it (by omega) ?_
    rw [show i = 6144 by omega]
    exact K
  | succ f ih =>
    intro i h0 h1
    refine QW_s ?_
    simp only [g_106]
    refine QW_g (by omega) ?_
    refine QW_if (by omega) ?_
    refine QW_p (k_gv (show q_T (fI s 61 i 0) 38 = _ from hs _ _ rfl) rfl rfl) ?_
    refine QW_p (k_bs (show q_T (fI s 61 i 0) 61 = _ from hs _ _ rfl) h1 (by omega) (by decide) (Or.inl rfl)) ?_
    rw [fI_st h1]
    exact ih (i + 1) (by omega) (by omega)
theorem m_106_4 (hs : SH s) : ∀ (f : Nat) (i : Int), i + f = 104 → 0 ≤ i → QW (fun n => g_106 o n 4 (fI s 69 i 0) 38 0 i) (fun q => q = (m_brn (fI s 69 104 0) 0 (-1) 0, 0)) := by
  intro f
  induction f with
  | zero =>
    intro i h0 h1
    refine QW_s ?_
    simp only [g_106]
    refine QW_g (by omega) ?_
    refine QW_it (by omega) ?_
    rw [show i = 104 by omega]
    refine QW_p (k_rc (show q_T (fI s 69 104 0) 38 = _ from hs _ _ rfl)) ?_
    refine QW_e (m_107z (s := fI s 69 104 0) hs (by rw [fI_I, if_pos ⟨rfl, by decide, by decide⟩])) ?_
    exact QW_ret rfl
  | succ f ih =>
    intro i h0 h1
    refine QW_s ?_
    simp only [g_106]
    refine QW_g (by omega) ?_
    refine QW_if (by omega) ?_
    refine QW_p (k_gv (show q_T (fI s 69 i 0) 38 = _ from hs _ _ rfl) rfl rfl) ?_
    refine QW_p (k_bs (show q_T (fI s 69 i 0) 69 = _ from hs _ _ rfl) h1 (by omega) (by decide) (Or.inl rfl)) ?_
    rw [fI_st h1]
    exact ih (i + 1) (by omega) (by omega)
/-- what start puts down -/
def m_stt (s : Q_S) (k : Int) : Q_S := q_sf (q_sf (q_sf (q_sf (q_sf (q_sf (q_sf (q_sf (q_sf s 38 0 0) 38 18 k) 38 17 1) 38 19 0) 38 20 0) 38 21 (-1)) 38 22 0) 38 47 0) 38 45 0
theorem stt_I {k : Int} {a : Nat} {j : Int} (h : a ≠ 38) : q_I (m_stt s k) a j = q_I s a j := by
  unfold m_stt
  simp only [q_I_sf, h, false_and, if_false]
theorem stt_F {k : Int} {f : Nat} (a1 : f ≠ 0) (a2 : f ≠ 18) (a3 : f ≠ 17) (a4 : f ≠ 19) (a5 : f ≠ 20) (a6 : f ≠ 21) (a7 : f ≠ 22) (a8 : f ≠ 47) (a9 : f ≠ 45) : q_F (m_stt s k) 38 f = q_F s 38 f := by
  unfold m_stt
  rw [q_F_sf, if_neg (fun z => a9 z.2), q_F_sf, if_neg (fun z => a8 z.2), q_F_sf, if_neg (fun z => a7 z.2), q_F_sf, if_neg (fun z => a6 z.2), q_F_sf, if_neg (fun z => a5 z.2), q_F_sf, if_neg (fun z => a4 z.2), q_F_sf, if_neg (fun z => a3 z.2), q_F_sf, if_neg (fun z => a2 z.2), q_F_sf, if_neg (fun z => a1 z.2)]
theorem stt_v {k : Int} : q_F (m_stt s k) 38 18 = k ∧ q_F (m_stt s k) 38 17 = 1 ∧ q_F (m_stt s k) 38 19 = 0 ∧ q_F (m_stt s k) 38 20 = 0 ∧ q_F (m_stt s k) 38 21 = -1 ∧ q_F (m_stt s k) 38 22 = 0 ∧ q_F (m_stt s k) 38 47 = 0 ∧ q_F (m_stt s k) 38 45 = 0 := by
  unfold m_stt
  simp only [q_F_sf]
  simp
def m_stS (s : Q_S) (k : Int) : Q_S := m_brn (fI (fI (fI (fL (fL (m_stt s k) 53 16 0) 52 8 0) 54 8 (-1)) 61 6144 0) 69 104 0) 0 (-1) 0
theorem stS_I {k : Int} {a : Nat} {j : Int} (a1 : a ≠ 54) (a2 : a ≠ 61) (a3 : a ≠ 69) (a4 : a ≠ 62) (a5 : a ≠ 63) (a6 : a ≠ 64) : q_I (m_stS s k) a j = q_I (m_stt s k) a j := by
  unfold m_stS m_brn
  rw [q_I_si, if_neg (fun z => a6 z.1), q_I_si, if_neg (fun z => a5 z.1), q_I_si, if_neg (fun z => a4 z.1), q_I_si, if_neg (fun z => a3 z.1), fI_I, if_neg (fun z => a3 z.1), fI_I, if_neg (fun z => a2 z.1), fI_I, if_neg (fun z => a1 z.1), fL_I, fL_I]
theorem stS_L {k : Int} {a : Nat} {j : Int} (a1 : a ≠ 52) (a2 : a ≠ 53) : q_L (m_stS s k) a j = q_L s a j := by
  show q_L (fL (fL (m_stt s k) 53 16 0) 52 8 0) a j = _
  rw [fL_L, if_neg (fun z => a1 z.1), fL_L, if_neg (fun z => a2 z.1)]
  rfl
theorem stS_i {k : Int} : q_I (m_stS s k) 62 0 = 2 ∧ q_I (m_stS s k) 63 0 = 0 ∧ q_I (m_stS s k) 64 0 = -1 := by
  unfold m_stS m_brn
  refine ⟨?_, ?_, ?_⟩
  · rw [q_I_si, if_neg (by omega), q_I_si, if_neg (by omega), q_I_si, if_pos ⟨rfl, rfl⟩]
  · rw [q_I_si, if_neg (by omega), q_I_si, if_pos ⟨rfl, rfl⟩]
  · rw [q_I_si, if_pos ⟨rfl, rfl⟩]
theorem stS_61 {k x : Int} (x0 : 0 ≤ x) (x1 : x < 6144) : q_I (m_stS s k) 61 x = 0 := by
  unfold m_stS m_brn
  rw [q_I_si, if_neg (by omega), q_I_si, if_neg (by omega), q_I_si, if_neg (by omega), q_I_si, if_neg (by omega), fI_I, if_neg (by omega), fI_I, if_pos ⟨rfl, x0, x1⟩]
theorem stS_69 {k x : Int} (x0 : 0 ≤ x) (x1 : x < 104) : q_I (m_stS s k) 69 x = if x = 0 then 1 else 0 := by
  unfold m_stS m_brn
  rw [q_I_si, if_neg (by omega), q_I_si, if_neg (by omega), q_I_si, if_neg (by omega), q_I_si]
  by_cases z : x = 0
  · rw [if_pos ⟨rfl, z⟩, if_pos z]
  · rw [if_neg (fun y => z y.2), if_neg z, fI_I, if_pos ⟨rfl, x0, x1⟩]
theorem stS_54 {k x : Int} (x0 : 0 ≤ x) (x1 : x < 8) : q_I (m_stS s k) 54 x = -1 := by
  unfold m_stS m_brn
  rw [q_I_si, if_neg (by omega), q_I_si, if_neg (by omega), q_I_si, if_neg (by omega), q_I_si, if_neg (by omega), fI_I, if_neg (by omega), fI_I, if_neg (by omega), fI_I, if_pos ⟨rfl, x0, x1⟩]
theorem stS_53 {k x : Int} (x0 : 0 ≤ x) (x1 : x < 16) : q_L (m_stS s k) 53 x = 0 := by
  show q_L (fL (fL (m_stt s k) 53 16 0) 52 8 0) 53 x = _
  rw [fL_L, if_neg (by omega), fL_L, if_pos ⟨rfl, x0, x1⟩]
theorem stS_52 {k x : Int} (x0 : 0 ≤ x) (x1 : x < 8) : q_L (m_stS s k) 52 x = 0 := by
  show q_L (fL (fL (m_stt s k) 53 16 0) 52 8 0) 52 x = _
  rw [fL_L, if_pos ⟨rfl, x0, x1⟩]
theorem stS_P {k : Int} (i : Int) : m_P (m_stS s k) i = m_P s i := by
  unfold m_P
  have g : ∀ a, 45 ≤ a → a ≤ 51 → ∀ j, q_I (m_stS s k) a j = q_I s a j ∧ q_L (m_stS s k) a j = q_L s a j := fun a a0 a1 j => ⟨(stS_I (by omega) (by omega) (by omega) (by omega) (by omega) (by omega)).trans (stt_I (by omega)), stS_L (by omega) (by omega)⟩
  rw [(g 45 (by omega) (by omega) i).1, show (fun p => q_I (m_stS s k) 46 (500 * i + p)) = fun p => q_I s 46 (500 * i + p) from funext fun p => (g 46 (by omega) (by omega) _).1, show (fun p => q_L (m_stS s k) 47 (500 * i + p)) = fun p => q_L s 47 (500 * i + p) from funext fun p => (g 47 (by omega) (by omega) _).2, show (fun p => q_I (m_stS s k) 48 (500 * i + p)) = fun p => q_I s 48 (500 * i + p) from funext fun p => (g 48 (by omega) (by omega) _).1, show (fun p => q_I (m_stS s k) 49 (500 * i + p)) = fun p => q_I s 49 (500 * i + p) from funext fun p => (g 49 (by omega) (by omega) _).1, show (fun p => q_I (m_stS s k) 50 (500 * i + p)) = fun p => q_I s 50 (500 * i + p) from funext fun p => (g 50 (by omega) (by omega) _).1, show (fun p => q_I (m_stS s k) 51 (500 * i + p)) = fun p => q_I s 51 (500 * i + p) from funext fun p => (g 51 (by omega) (by omega) _).1]
theorem stS_F {k : Int} {f : Nat} : q_F (m_stS s k) 38 f = q_F (m_stt s k) 38 f := stS_I (by decide) (by decide) (by decide) (by decide) (by decide) (by decide)
theorem stS_G {k : Int} {f : Nat} (a1 : f ≠ 0) (a2 : f ≠ 18) (a3 : f ≠ 17) (a4 : f ≠ 19) (a5 : f ≠ 20) (a6 : f ≠ 21) (a7 : f ≠ 22) (a8 : f ≠ 47) (a9 : f ≠ 45) : q_F (m_stS s k) 38 f = q_F s 38 f := stS_F.trans (stt_F a1 a2 a3 a4 a5 a6 a7 a8 a9)
section RSU
variable {Ps : Int → PT} {szs : Int → Int → Int} {nP : Int} {sig : Int → Int64}
theorem start_gm (hR : RGl Ps nP sig s) {k : Int} : GM Ps nP 0 sig (G_bgb (G0 k) (q_F s 38 46)) (m_stS s k) := by
  obtain ⟨hs, h8, hP, hsig, h36a, h36b⟩ := hR
  obtain ⟨v18, v17, v19, v20, v21, v22, v47, v45⟩ := stt_v (s := s) (k := k)
  have f36 : q_F (m_stS s k) 38 36 = q_F s 38 36 := stS_G (by decide) (by decide) (by decide) (by decide) (by decide) (by decide) (by decide) (by decide) (by decide)
  exact ⟨⟨(stS_G (by decide) (by decide) (by decide) (by decide) (by decide) (by decide) (by decide) (by decide) (by decide)).trans h8, fun _ => stS_F.trans v22, by rw [f36]; exact h36a, by rw [f36]; exact h36b⟩, stS_F.trans v19, fun i i0 i1 => (stS_P i).trans (hP i i0 i1), fun j j0 j1 => (stS_L (by decide) (by decide)).trans (hsig j j0 j1), fun j j0 j1 => stS_53 j0 j1, fun j j0 j1 => stS_52 j0 j1, fun j j0 j1 => stS_54 j0 j1, stS_F.trans v20, stS_F.trans v21, stS_F.trans v18, stS_G (by decide) (by decide) (by decide) (by decide) (by decide) (by decide) (by decide) (by decide) (by decide), stS_F.trans v45⟩
theorem stt_T {k : Int} {a : Nat} : q_T (m_stt s k) a = q_T s a := by
  unfold m_stt
  rw [q_T_sf, q_T_sf, q_T_sf, q_T_sf, q_T_sf, q_T_sf, q_T_sf, q_T_sf, q_T_sf]
theorem fL_T {a c : Nat} {n : Int} {x : Int64} : q_T (fL s a n x) c = q_T s c := rfl
theorem stS_T {k : Int} {a : Nat} : q_T (m_stS s k) a = q_T s a := by
  unfold m_stS m_brn
  rw [q_T_si, q_T_si, q_T_si, q_T_si, fI_T, fI_T, fI_T, fL_T, fL_T, stt_T]
theorem si_n {a : Nat} {j v : Int} : (q_si s a j v).1 = s.1 ∧ (q_si s a j v).2.1 = s.2.1 ∧ (q_si s a j v).2.2.1 = s.2.2.1 := ⟨rfl, rfl, rfl⟩
theorem sf_n {a f : Nat} {v : Int} : (q_sf s a f v).1 = s.1 ∧ (q_sf s a f v).2.1 = s.2.1 ∧ (q_sf s a f v).2.2.1 = s.2.2.1 := ⟨rfl, rfl, rfl⟩
theorem fI_n {a : Nat} {n x : Int} : (fI s a n x).1 = s.1 ∧ (fI s a n x).2.1 = s.2.1 ∧ (fI s a n x).2.2.1 = s.2.2.1 := ⟨rfl, rfl, rfl⟩
theorem fL_n {a : Nat} {n : Int} {x : Int64} : (fL s a n x).1 = s.1 ∧ (fL s a n x).2.1 = s.2.1 ∧ (fL s a n x).2.2.1 = s.2.2.1 := ⟨rfl, rfl, rfl⟩
theorem stt_n {k : Int} : (m_stt s k).1 = s.1 ∧ (m_stt s k).2.1 = s.2.1 ∧ (m_stt s k).2.2.1 = s.2.2.1 := by
  unfold m_stt
  refine ⟨?_, ?_, ?_⟩
  · rw [sf_n.1, sf_n.1, sf_n.1, sf_n.1, sf_n.1, sf_n.1, sf_n.1, sf_n.1, sf_n.1]
  · rw [sf_n.2.1, sf_n.2.1, sf_n.2.1, sf_n.2.1, sf_n.2.1, sf_n.2.1, sf_n.2.1, sf_n.2.1, sf_n.2.1]
  · rw [sf_n.2.2, sf_n.2.2, sf_n.2.2, sf_n.2.2, sf_n.2.2, sf_n.2.2, sf_n.2.2, sf_n.2.2, sf_n.2.2]
theorem stS_n {k : Int} : (m_stS s k).1 = s.1 ∧ (m_stS s k).2.1 = s.2.1 ∧ (m_stS s k).2.2.1 = s.2.2.1 := by
  unfold m_stS m_brn
  refine ⟨?_, ?_, ?_⟩
  · rw [si_n.1, si_n.1, si_n.1, si_n.1, fI_n.1, fI_n.1, fI_n.1, fL_n.1, fL_n.1, stt_n.1]
  · rw [si_n.2.1, si_n.2.1, si_n.2.1, si_n.2.1, fI_n.2.1, fI_n.2.1, fI_n.2.1, fL_n.2.1, fL_n.2.1, stt_n.2.1]
  · rw [si_n.2.2, si_n.2.2, si_n.2.2, si_n.2.2, fI_n.2.2, fI_n.2.2, fI_n.2.2, fL_n.2.2, fL_n.2.2, stt_n.2.2]
/-- a run that begins, by what its cells say -/
theorem start_of {S : Q_S} {b k : Int} (hS : SH S) (hG : GM Ps nP 0 sig (G_bgb (G0 k) b) S) (i62 : q_I S 62 0 = 2) (i63 : q_I S 63 0 = 0) (i64 : q_I S 64 0 = -1) (i61 : ∀ x, 0 ≤ x → x < 6144 → q_I S 61 x = 0) (i69 : ∀ x, 0 ≤ x → x < 104 → q_I S 69 x = if x = 0 then 1 else 0) (v17 : q_F S 38 17 = 1) (v22 : q_F S 38 22 = 0) (v47 : q_F S 38 47 = 0) (hn : 0 ≤ nP ∧ nP ≤ 20) (hW : ∀ k, 0 ≤ k → k < nP → WP (Ps k) (szs k)) (k0 : 0 ≤ k) (k1 : k < nP) {al : Int × Int × Int} {m : Nat} : MR (K := m + 1) Ps szs nP sig S 1 0 (G0 k) (newB m 0) al := by
  have hF : RF Ps nP 0 sig S (G_bgb (G0 k) b) (m + 1) 0 (-1) (newB m 0) (0, [], none) [] [] := by
    refine ⟨hS, hG, ⟨⟨Int.le_refl _, by decide, i62, i63, fun y => absurd y (by show ¬ (2 : Int) = 1; decide), i64⟩, by show ¬ (2 : Int) = 4; decide, fun x hx => by cases hx⟩, List.nodup_nil, ⟨fun x x0 x1 => Or.inl (i61 x x0 x1), fun x x0 x1 => ?_⟩, by simp [fbI], ⟨fun x x0 x1 => ?_, fun x x0 x1 => ?_⟩, Or.inl ⟨rfl, rfl⟩, Or.inl rfl, v47, hG.1.2.2.1, hG.1.2.2.2⟩
    · rw [i61 x x0 x1]
      simp [fxI]
    · rw [i69 x x0 x1]
      split <;> simp
    · rw [i69 x x0 x1]
      simp only [fbI, List.append_nil, List.mem_singleton]
      constructor
      · intro y
        by_cases w : x = 0
        · exact w
        · rw [if_neg w] at y; exact absurd y (by decide)
      · intro y
        rw [if_pos y]
  obtain ⟨n1, n2, n3⟩ := new_vt (hW k k0 k1) (n := m)
  exact ⟨hS, v17, Or.inr (Or.inl rfl), ⟨G_bgb (G0 k) b, ⟨rfl, rfl, rfl, rfl, rfl, rfl⟩, hG⟩, G0_gw hn hW k0 k1, fun _ => ⟨⟨(0, [], none), b, hF, rfl⟩, n1, rfl⟩, fun y => absurd y (by decide), fun _ => ⟨v47, v22⟩, ⟨fun x x0 x1 => Or.inl (i61 x x0 x1), fun x x0 x1 => by rw [i69 x x0 x1]; split <;> simp⟩⟩
theorem start_mr (hR : RGl Ps nP sig s) (hn : 0 ≤ nP ∧ nP ≤ 20) (hW : ∀ k, 0 ≤ k → k < nP → WP (Ps k) (szs k)) {k : Int} (k0 : 0 ≤ k) (k1 : k < nP) {al : Int × Int × Int} {m : Nat} : MR (K := m + 1) Ps szs nP sig (m_stS s k) 1 0 (G0 k) (newB m 0) al := by
  have hG := start_gm hR (k := k)
  obtain ⟨v18, v17, v19, v20, v21, v22, v47, v45⟩ := stt_v (s := s) (k := k)
  obtain ⟨i62, i63, i64⟩ := stS_i (s := s) (k := k)
  have hS : SH (m_stS s k) := fun a t e => stS_T.trans (hR.1 a t e)
  exact start_of hS hG i62 i63 i64 (fun x x0 x1 => stS_61 x0 x1) (fun x x0 x1 => stS_69 x0 x1) (stS_F.trans v17) (stS_F.trans v22) (stS_F.trans v47) hn hW k0 k1
theorem start_kt {k : Int} : KT s (m_stS s k) := by
  obtain ⟨n1, n2, n3⟩ := stS_n (s := s) (k := k)
  have g1 : q_F (m_stS s k) 38 1 = q_F s 38 1 := stS_G (by decide) (by decide) (by decide) (by decide) (by decide) (by decide) (by decide) (by decide) (by decide)
  have g8 : q_F (m_stS s k) 38 8 = q_F s 38 8 := stS_G (by decide) (by decide) (by decide) (by decide) (by decide) (by decide) (by decide) (by decide) (by decide)
  have g16 : q_F (m_stS s k) 38 16 = q_F s 38 16 := stS_G (by decide) (by decide) (by decide) (by decide) (by decide) (by decide) (by decide) (by decide) (by decide)
  have g49 : q_F (m_stS s k) 38 49 = q_F s 38 49 := stS_G (by decide) (by decide) (by decide) (by decide) (by decide) (by decide) (by decide) (by decide) (by decide)
  have g50 : q_F (m_stS s k) 38 50 = q_F s 38 50 := stS_G (by decide) (by decide) (by decide) (by decide) (by decide) (by decide) (by decide) (by decide) (by decide)
  have hI : ∀ a : Nat, (a < 38 ∨ (39 ≤ a ∧ a ≤ 51) ∨ 71 ≤ a) → ∀ j, q_I (m_stS s k) a j = q_I s a j ∧ q_L (m_stS s k) a j = q_L s a j := fun a ha j => ⟨(stS_I (by omega) (by omega) (by omega) (by omega) (by omega) (by omega)).trans (stt_I (by omega)), stS_L (by omega) (by omega)⟩
  generalize m_stS s k = S at *
  exact ⟨n1, n2, n3, hI, g1, g8, g16, g49, g50⟩
/-- the loops, one after another -/
theorem m_106b (hs : SH s) {k : Int} : QW (fun n => g_106 o n 1 (m_stt s k) 38 0 0) (fun q => q = (m_stS s k, 0)) := by
  have hs9 : SH (m_stt s k) := hs
  have st4 := m_106_4 (o := o) (s := fI (fI (fL (fL (m_stt s k) 53 16 0) 52 8 0) 54 8 (-1)) 61 6144 0) hs9 104 0 (by omega) (by omega)
  rw [fI_0] at st4
  have st3 := m_106_3 (o := o) (s := fI (fL (fL (m_stt s k) 53 16 0) 52 8 0) 54 8 (-1)) hs9 st4 6144 0 (by omega) (by omega)
  rw [fI_0] at st3
  have st2 := m_106_2 (o := o) (s := fL (m_stt s k) 53 16 0) hs9 st3 8 0 (by omega) (by omega)
  rw [fL_0, fI_0] at st2
  have st1 := m_106_1 (o := o) (s := m_stt s k) hs9 st2 16 0 (by omega) (by omega)
  rw [fL_0] at st1
  exact st1
/-- start -/
theorem m_106 (hs : SH s) (hn : 0 ≤ nP ∧ nP ≤ 20) (h8 : q_F s 38 8 = nP) {k : Int} (hk : q_in k) {x : Int} :
    QW (fun n => g_106 o n 0 s 38 k x) (fun q => q = if 0 ≤ k ∧ k < nP then (m_stS s k, 0) else (q_sf s 38 0 0, -1)) := by
  have hs1 : SH (q_sf s 38 0 0) := hs
  have e8 : q_F (q_sf s 38 0 0) 38 8 = nP := by rw [q_F_sf, if_neg (by decide)]; exact h8
  have M := m_103 (o := o) (s := q_sf s 38 0 0) (k := k) (t := 0) hs1 hk (by omega)
  rw [e8] at M
  refine QW_s ?_
  simp only [g_106]
  refine QW_p (k_pi (hs _ _ rfl) rfl rfl) ?_
  refine QW_p (k_rc (hs1 _ _ rfl)) ?_
  refine QW_e M ?_
  dsimp only
  by_cases z : 0 ≤ k ∧ k < nP
  · simp only [if_pos z]
    refine QW_g (by decide) ?_
    refine QW_it (by decide) ?_
    refine QW_p (k_pi (show q_T (q_sf s 38 0 0) 38 = _ from hs _ _ rfl) rfl rfl) ?_
    refine QW_p (k_pi (show q_T (q_sf _ 38 18 k) 38 = _ from hs _ _ rfl) rfl rfl) ?_
    refine QW_p (k_pi (show q_T (q_sf _ 38 17 1) 38 = _ from hs _ _ rfl) rfl rfl) ?_
    refine QW_p (k_pi (show q_T (q_sf _ 38 19 0) 38 = _ from hs _ _ rfl) rfl rfl) ?_
    refine QW_p (k_pi (show q_T (q_sf _ 38 20 0) 38 = _ from hs _ _ rfl) rfl rfl) ?_
    refine QW_p (k_pi (show q_T (q_sf _ 38 21 (-1)) 38 = _ from hs _ _ rfl) rfl rfl) ?_
    refine QW_p (k_pz (show q_T (q_sf _ 38 22 0) 38 = _ from hs _ _ rfl) rfl rfl (Or.inl rfl)) ?_
    refine QW_p (k_pi (show q_T (q_sf _ 38 47 0) 38 = _ from hs _ _ rfl) rfl rfl) ?_
    exact m_106b hs
  · simp only [if_neg z]
    refine QW_g (by decide) ?_
    refine QW_if (by decide) ?_
    exact QW_ret rfl
end RSU
end RST
