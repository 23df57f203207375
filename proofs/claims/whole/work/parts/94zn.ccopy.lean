/-! THE CLASS'S ROWS COPIED -/
def RI (s0 : Q_S) (F n np : Nat) (fs : List (Option Value)) (k : Nat) (s : Q_S) : Prop := s.1 = F + 1 + k ∧ s.2.1 ≤ s0.2.1 + k * 500 ∧ q_T s F = some (.inr (3, fs)) ∧ (∀ i t, 1 ≤ i → i ≤ k → shRa n np i = some t → q_T s (F + i) = some t) ∧ (∀ b, b < F → q_T s b = q_T s0 b) ∧ (∀ b, b < F + 1 → ∀ x, q_I s b x = q_I s0 b x ∧ q_L s b x = q_L s0 b x)
/-- k rows copied -/
def CC (s0 : Q_S) (F n np : Nat) (k : Nat) (s : Q_S) : Prop := s.1 = s0.1 ∧ s.2.1 = s0.2.1 ∧ (∀ a, q_T s a = q_T s0 a) ∧ (∀ a, ¬ (F < a ∧ a ≤ F + k) → ∀ j, q_I s a j = q_I s0 a j ∧ q_L s a j = q_L s0 a j) ∧
  (∀ i, 1 ≤ i → i ≤ k → ∀ j : Int, 0 ≤ j → j < (if i = 7 then np else n : Nat) → (i ≠ 2 → q_I s (F + i) j = q_I s0 (7 + i) j) ∧ (i = 2 → q_L s (F + i) j = q_L s0 (7 + i) j))
section CRC
variable {o : X_O}
theorem ri_I {s0 s : Q_S} {F n np R k : Nat} {fs : List (Option Value)} {ty : FieldType} {u : Value} (h : RI s0 F n np fs k s) (hR : R ≤ 500) (h1 : fs[k]? = some (some u)) (hs7 : shRa n np (k + 1) = some (.inl (ty, R, fun _ => none))) (hty : x_fit (x_fty 3 k) (.ref (F + 1 + k)) = true) {Q : Q_S × Unit → Prop} {K : Nat → Q_S → Option (Q_S × Unit)} (g : ∀ s', RI s0 F n np (fs.set k (some (.ref (F + (k + 1))))) (k + 1) s' → QW (fun n => K n s') Q) :
    QW (fun n => (q_na s ty R).bind fun s1 => (q_pr s1 3 (.ref F) k (.ref s.1)).bind fun s3 => K n s3) Q := by
  obtain ⟨n0, sl, T, I, L⟩ := s
  obtain ⟨e1, e2, e3, e4, e5, e6⟩ := h
  have e1 : n0 = F + 1 + k := e1
  subst e1
  refine QW_p (k_na (by omega) (by omega)) ?_
  rw [show ((R : Int)).toNat = R by omega]
  have t3 : q_T (q_nw (F + 1 + k, sl, T, I, L) R (.inl (ty, R, fun _ => none))) F = some (.inr (3, fs)) := by
    rw [q_T_nw, if_neg (by show ¬ F = F + 1 + k; omega)]
    exact e3
  refine QW_p (k_pr t3 h1 hty) ?_
  apply g
  refine ⟨rfl, ?_, ?_, fun i t i0 i1 it => ?_, fun b b0 => ?_, fun b b0 x => ⟨?_, ?_⟩⟩
  · show sl + R ≤ s0.2.1 + (k + 1) * 500
    have e2 : sl ≤ s0.2.1 + k * 500 := e2
    rw [Nat.add_mul]
    omega
  · rw [q_T_st, if_pos rfl, show F + 1 + k = F + (k + 1) by omega]
  · by_cases z : i = k + 1
    · subst z
      rw [q_T_st, if_neg (by omega), q_T_nw, if_pos (by show F + (k + 1) = F + 1 + k; omega), ← hs7, it]
    · rw [q_T_st, if_neg (by omega), q_T_nw, if_neg (by show ¬ F + i = F + 1 + k; omega)]
      exact e4 i t i0 (by omega) it
  · rw [q_T_st, if_neg (by omega), q_T_nw, if_neg (by show ¬ b = F + 1 + k; omega)]
    exact e5 b b0
  · rw [q_I_st, q_I_nw, if_neg (by show ¬ b = F + 1 + k; omega)]
    exact (e6 b b0 x).1
  · rw [q_L_st, q_L_nw, if_neg (by show ¬ b = F + 1 + k; omega)]
    exact (e6 b b0 x).2
theorem shRa_rg {n np i : Nat} {t : Y_T} (h : shRa n np i = some t) : 1 ≤ i ∧ i ≤ 7 := by
  unfold shRa at h
  split at h <;> first | omega | cases h
/-- rows made -/
theorem d_36 {s : Q_S} {F n np : Nat} (hn : s.1 = F + 1) (hT : q_T s F = some (.inr (3, y_shp 3))) (h5 : n ≤ 500) (hp : np ≤ 500) :
    QW (fun m => g_36 o m 0 s F n np) (fun q => q.1.1 = F + 8 ∧ q.1.2.1 ≤ s.2.1 + 3500 ∧ RSh q.1 F n np ∧ (∀ b, b < F → q_T q.1 b = q_T s b) ∧ (∀ b, b < F + 1 → ∀ j, q_I q.1 b j = q_I s b j ∧ q_L q.1 b j = q_L s b j)) := by
  have h0 : RI s F n np (y_shp 3) 0 s := ⟨hn, by omega, hT, fun i t i0 i1 => by omega, fun _ _ => rfl, fun _ _ _ => ⟨rfl, rfl⟩⟩
  refine QW_s ?_
  simp only [g_36]
  refine ri_I (k := 0) h0 h5 rfl rfl rfl (fun s1 h1 => ?_)
  refine ri_I (k := 1) h1 h5 rfl rfl rfl (fun s2 h2 => ?_)
  refine ri_I (k := 2) h2 h5 rfl rfl rfl (fun s3 h3 => ?_)
  refine ri_I (k := 3) h3 h5 rfl rfl rfl (fun s4 h4 => ?_)
  refine ri_I (k := 4) h4 h5 rfl rfl rfl (fun s5 h5' => ?_)
  refine ri_I (k := 5) h5' h5 rfl rfl rfl (fun s6 h6 => ?_)
  refine ri_I (k := 6) h6 hp rfl rfl rfl (fun s7 h7 => ?_)
  obtain ⟨e1, e2, e3, e4, e5, e6⟩ := h7
  exact QW_ret ⟨e1, e2, ⟨e3, fun i t it => e4 i t (shRa_rg it).1 (shRa_rg it).2 it⟩, e5, e6⟩
theorem CC.I {s0 s : Q_S} {F n np k : Nat} {m : Int} (h : CC s0 F n np k s) (h2 : k + 1 ≠ 2) (hF : 14 < F) (hk : k < 7) (hm : m = (if k + 1 = 7 then np else n : Nat)) : CC s0 F n np (k + 1) (q_cI s (8 + k) (F + (k + 1)) 0 0 m) := by
  obtain ⟨a1, a2, a3, a4, a5⟩ := h
  refine ⟨a1, a2, fun a => a3 a, fun a ha j => ⟨?_, (a4 a (by omega) j).2⟩, fun i i0 i1 j j0 j1 => ⟨fun i2 => ?_, fun i2 => ?_⟩⟩
  · rw [q_I_cI, if_neg (fun z => by omega)]
    exact (a4 a (by omega) j).1
  · by_cases z : i = k + 1
    · subst z
      rw [q_I_cI, if_pos ⟨rfl, by omega, by rw [hm]; omega⟩, show (0 : Int) + (j - 0) = j by omega, show 7 + (k + 1) = 8 + k by omega]
      exact (a4 (8 + k) (by omega) j).1
    · rw [q_I_cI, if_neg (fun w => by omega)]
      exact (a5 i i0 (by omega) j j0 j1).1 i2
  · exact (a5 i i0 (by omega) j j0 j1).2 i2
theorem CC.L {s0 s : Q_S} {F n np : Nat} {m : Int} (h : CC s0 F n np 1 s) (hF : 14 < F) (hm : m = n) : CC s0 F n np 2 (q_cL s 9 (F + 2) 0 0 m) := by
  obtain ⟨a1, a2, a3, a4, a5⟩ := h
  refine ⟨a1, a2, fun a => a3 a, fun a ha j => ⟨(a4 a (by omega) j).1, ?_⟩, fun i i0 i1 j j0 j1 => ⟨fun i2 => ?_, fun i2 => ?_⟩⟩
  · rw [q_L_cL, if_neg (fun z => by omega)]
    exact (a4 a (by omega) j).2
  · exact (a5 i i0 (by omega) j j0 j1).1 i2
  · subst i2
    rw [q_L_cL, if_pos ⟨rfl, by omega, by rw [hm]; simp at j1; omega⟩, show (0 : Int) + (j - 0) = j by omega]
    exact (a4 9 (by omega) j).2
set_option maxHeartbeats 2000000 in
/-- copyFor -/
theorem d_40 {s : Q_S} {n np : Nat} {k : Int} (hs : SH s) (h80 : 80 < s.1) (h5 : n ≤ 500) (hp : np ≤ 500) (f7 : q_F s 7 7 = n) (f8 : q_F s 7 8 = np) :
    QW (fun m => g_40 o m 0 s 7 k) (fun q => q.2 = .ref s.1 ∧ q.1.1 = s.1 + 8 ∧ q.1.2.1 ≤ s.2.1 + 4000 ∧ RSh q.1 s.1 n np ∧ q_F q.1 s.1 7 = n ∧ q_F q.1 s.1 8 = np ∧ q_F q.1 s.1 9 = k ∧ (∀ j : Int, 0 ≤ j → j < n → q_I q.1 (s.1 + 1) j = q_I s 8 j ∧ q_L q.1 (s.1 + 2) j = q_L s 9 j ∧ q_I q.1 (s.1 + 3) j = q_I s 10 j ∧ q_I q.1 (s.1 + 4) j = q_I s 11 j ∧ q_I q.1 (s.1 + 5) j = q_I s 12 j ∧ q_I q.1 (s.1 + 6) j = q_I s 13 j) ∧ (∀ j : Int, 0 ≤ j → j < np → q_I q.1 (s.1 + 7) j = q_I s 14 j) ∧ (∀ b, b < s.1 → q_T q.1 b = q_T s b ∧ ∀ j, q_I q.1 b j = q_I s b j ∧ q_L q.1 b j = q_L s b j)) := by
  generalize hF : s.1 = F at h80
  refine QW_s ?_
  simp only [g_40]
  rw [hF]
  refine QW_p (show q_no s 3 = some (q_nw s (x_dfl 3).length (.inr (3, y_shp 3))) from rfl) ?_
  have a1 : (q_nw s (x_dfl 3).length (.inr (3, y_shp 3))).1 = F + 1 := by show s.1 + 1 = _; rw [hF]
  have a2 : (q_nw s (x_dfl 3).length (.inr (3, y_shp 3))).2.1 = s.2.1 + 10 := rfl
  have a3 : q_T (q_nw s (x_dfl 3).length (.inr (3, y_shp 3))) F = some (.inr (3, y_shp 3)) := by rw [q_T_nw, if_pos hF.symm]
  have a4 : ∀ b, b < F → q_T (q_nw s (x_dfl 3).length (.inr (3, y_shp 3))) b = q_T s b := fun b hb => by rw [q_T_nw, if_neg (by omega)]
  have a5 : ∀ b, b < F → ∀ j, q_I (q_nw s (x_dfl 3).length (.inr (3, y_shp 3))) b j = q_I s b j ∧ q_L (q_nw s (x_dfl 3).length (.inr (3, y_shp 3))) b j = q_L s b j := fun b hb j => ⟨by rw [q_I_nw, if_neg (by omega)], by rw [q_L_nw, if_neg (by omega)]⟩
  generalize q_nw s (x_dfl 3).length (.inr (3, y_shp 3)) = sA at a1 a2 a3 a4 a5
  have A7 : q_T sA 7 = some (shR0 7) := (a4 7 (by omega)).trans (hs 7 _ rfl)
  refine QW_p (k_gi A7 rfl) ?_
  refine QW_p (k_gi A7 rfl) ?_
  rw [show q_F sA 7 7 = n from ((a5 7 (by omega) 7).1).trans f7, show q_F sA 7 8 = np from ((a5 7 (by omega) 8).1).trans f8]
  refine QW_c (d_36 a1 a3 h5 hp) (fun q hq => ?_)
  obtain ⟨b1, b2, ⟨b3, b4⟩, b5, b6⟩ := hq
  generalize q.1 = sB at b1 b2 b3 b4 b5 b6
  have T0 : ∀ b, b < F → q_T sB b = q_T s b := fun b hb => (b5 b hb).trans (a4 b hb)
  have R0 : ∀ b, b < F → ∀ j, q_I sB b j = q_I s b j ∧ q_L sB b j = q_L s b j := fun b hb j => ⟨((b6 b (by omega) j).1).trans (a5 b hb j).1, ((b6 b (by omega) j).2).trans (a5 b hb j).2⟩
  have C0 : CC sB F n np 0 sB := ⟨rfl, rfl, fun _ => rfl, fun _ _ _ => ⟨rfl, rfl⟩, fun i i0 i1 => by omega⟩
  have S7 : q_T sB 7 = some (shR0 7) := (T0 7 (by omega)).trans (hs 7 _ rfl)
  have SF : q_T sB F = some (shR0 F) := b3
  have g7 : ∀ {t : Q_S} {k : Nat}, CC sB F n np k t → q_F t 7 7 = n ∧ q_F t 7 8 = np := fun {t k} h => ⟨((h.2.2.2.1 7 (by omega) 7).1.trans (R0 7 (by omega) 7).1).trans f7, ((h.2.2.2.1 7 (by omega) 8).1.trans (R0 7 (by omega) 8).1).trans f8⟩
  have src : ∀ (a : Nat) (t : Y_T), a < 80 → sh a = some t → q_T sB a = some t := fun a t ha e => (T0 a (by omega)).trans (hs a t e)
  refine QW_p (k_gv ((C0.2.2.1 7).trans S7) rfl rfl) ?_
  refine QW_p (k_gv ((C0.2.2.1 F).trans SF) rfl rfl) ?_
  refine QW_p (k_gi ((C0.2.2.1 7).trans S7) rfl) ?_
  rw [(g7 C0).1]
  refine QW_p (k_cI ((C0.2.2.1 8).trans (src 8 _ (by omega) rfl)) ((C0.2.2.1 (F + 1)).trans (b4 1 _ rfl)) (by omega) (by omega) (by omega) (by omega) (by omega) (by omega) (by omega)) ?_
  have C1 := C0.I (m := (n : Int)) (by omega) (by omega) (by omega) (by simp)
  generalize q_cI sB 8 (F + 1) 0 0 (n : Int) = t1 at C1 ⊢
  refine QW_p (k_gv ((C1.2.2.1 7).trans S7) rfl rfl) ?_
  refine QW_p (k_gv ((C1.2.2.1 F).trans SF) rfl rfl) ?_
  refine QW_p (k_gi ((C1.2.2.1 7).trans S7) rfl) ?_
  rw [(g7 C1).1]
  refine QW_p (k_cL ((C1.2.2.1 9).trans (src 9 _ (by omega) rfl)) ((C1.2.2.1 (F + 2)).trans (b4 2 _ rfl)) (by omega) (by omega) (by omega) (by omega) (by omega) (by omega) (by omega)) ?_
  have C2 := C1.L (m := (n : Int)) (by omega) rfl
  generalize q_cL t1 9 (F + 2) 0 0 (n : Int) = t2 at C2 ⊢
  refine QW_p (k_gv ((C2.2.2.1 7).trans S7) rfl rfl) ?_
  refine QW_p (k_gv ((C2.2.2.1 F).trans SF) rfl rfl) ?_
  refine QW_p (k_gi ((C2.2.2.1 7).trans S7) rfl) ?_
  rw [(g7 C2).1]
  refine QW_p (k_cI ((C2.2.2.1 10).trans (src 10 _ (by omega) rfl)) ((C2.2.2.1 (F + 3)).trans (b4 3 _ rfl)) (by omega) (by omega) (by omega) (by omega) (by omega) (by omega) (by omega)) ?_
  have C3 := C2.I (m := (n : Int)) (by omega) (by omega) (by omega) (by simp)
  generalize q_cI t2 10 (F + 3) 0 0 (n : Int) = t3 at C3 ⊢
  refine QW_p (k_gv ((C3.2.2.1 7).trans S7) rfl rfl) ?_
  refine QW_p (k_gv ((C3.2.2.1 F).trans SF) rfl rfl) ?_
  refine QW_p (k_gi ((C3.2.2.1 7).trans S7) rfl) ?_
  rw [(g7 C3).1]
  refine QW_p (k_cI ((C3.2.2.1 11).trans (src 11 _ (by omega) rfl)) ((C3.2.2.1 (F + 4)).trans (b4 4 _ rfl)) (by omega) (by omega) (by omega) (by omega) (by omega) (by omega) (by omega)) ?_
  have C4 := C3.I (m := (n : Int)) (by omega) (by omega) (by omega) (by simp)
  generalize q_cI t3 11 (F + 4) 0 0 (n : Int) = t4 at C4 ⊢
  refine QW_p (k_gv ((C4.2.2.1 7).trans S7) rfl rfl) ?_
  refine QW_p (k_gv ((C4.2.2.1 F).trans SF) rfl rfl) ?_
  refine QW_p (k_gi ((C4.2.2.1 7).trans S7) rfl) ?_
  rw [(g7 C4).1]
  refine QW_p (k_cI ((C4.2.2.1 12).trans (src 12 _ (by omega) rfl)) ((C4.2.2.1 (F + 5)).trans (b4 5 _ rfl)) (by omega) (by omega) (by omega) (by omega) (by omega) (by omega) (by omega)) ?_
  have C5 := C4.I (m := (n : Int)) (by omega) (by omega) (by omega) (by simp)
  generalize q_cI t4 12 (F + 5) 0 0 (n : Int) = t5 at C5 ⊢
  refine QW_p (k_gv ((C5.2.2.1 7).trans S7) rfl rfl) ?_
  refine QW_p (k_gv ((C5.2.2.1 F).trans SF) rfl rfl) ?_
  refine QW_p (k_gi ((C5.2.2.1 7).trans S7) rfl) ?_
  rw [(g7 C5).1]
  refine QW_p (k_cI ((C5.2.2.1 13).trans (src 13 _ (by omega) rfl)) ((C5.2.2.1 (F + 6)).trans (b4 6 _ rfl)) (by omega) (by omega) (by omega) (by omega) (by omega) (by omega) (by omega)) ?_
  have C6 := C5.I (m := (n : Int)) (by omega) (by omega) (by omega) (by simp)
  generalize q_cI t5 13 (F + 6) 0 0 (n : Int) = t6 at C6 ⊢
  refine QW_p (k_gv ((C6.2.2.1 7).trans S7) rfl rfl) ?_
  refine QW_p (k_gv ((C6.2.2.1 F).trans SF) rfl rfl) ?_
  refine QW_p (k_gi ((C6.2.2.1 7).trans S7) rfl) ?_
  rw [(g7 C6).2]
  refine QW_p (k_cI ((C6.2.2.1 14).trans (src 14 _ (by omega) rfl)) ((C6.2.2.1 (F + 7)).trans (b4 7 _ rfl)) (by omega) (by omega) (by omega) (by omega) (by omega) (by omega) (by omega)) ?_
  have C7 := C6.I (m := (np : Int)) (by omega) (by omega) (by omega) (by simp)
  generalize q_cI t6 14 (F + 7) 0 0 (np : Int) = t7 at C7 ⊢
  have X7 : q_T t7 7 = some (shR0 7) := (C7.2.2.1 7).trans S7
  have XF : q_T t7 F = some (shR0 F) := (C7.2.2.1 F).trans SF
  refine QW_p (k_gi X7 rfl) ?_
  rw [(g7 C7).1]
  refine QW_p (k_pi XF rfl rfl) ?_
  refine QW_p (k_gi (show q_T (q_sf t7 F 7 n) 7 = _ from X7) rfl) ?_
  rw [show q_F (q_sf t7 F 7 n) 7 8 = np by rw [q_F_sf, if_neg (fun z => by omega)]; exact (g7 C7).2]
  refine QW_p (k_pi (show q_T (q_sf t7 F 7 n) F = _ from XF) rfl rfl) ?_
  refine QW_p (k_pi (show q_T (q_sf (q_sf t7 F 7 n) F 8 np) F = _ from XF) rfl rfl) ?_
  refine QW_p (show y_isr (.ref F) = some F from rfl) ?_
  obtain ⟨c1, c2, c3, c4, c5⟩ := C7
  have I9 : ∀ a j, a ≠ F → q_I (q_sf (q_sf (q_sf t7 F 7 n) F 8 np) F 9 k) a j = q_I t7 a j := fun a j ha => by
    rw [q_I_sf, if_neg (fun z => ha z.1), q_I_sf, if_neg (fun z => ha z.1), q_I_sf, if_neg (fun z => ha z.1)]
  refine QW_ret ⟨rfl, ?_, ?_, ⟨XF, fun i t it => (c3 (F + i)).trans (b4 i t it)⟩, ?_, ?_, ?_, fun j j0 j1 => ?_, fun j j0 j1 => ?_, fun b hb => ⟨(c3 b).trans (T0 b hb), fun j => ⟨?_, (c4 b (by omega) j).2.trans (R0 b hb j).2⟩⟩⟩
  · show t7.1 = F + 8
    rw [c1, b1]
  · show t7.2.1 ≤ s.2.1 + 4000
    rw [c2]
    omega
  · rw [q_F_sf, if_neg (by omega), q_F_sf, if_neg (by omega), q_F_sf, if_pos ⟨rfl, rfl⟩]
  · rw [q_F_sf, if_neg (by omega), q_F_sf, if_pos ⟨rfl, rfl⟩]
  · rw [q_F_sf, if_pos ⟨rfl, rfl⟩]
  · have e : ∀ i, 1 ≤ i → i ≤ 6 → (i ≠ 2 → q_I (q_sf (q_sf (q_sf t7 F 7 n) F 8 np) F 9 k) (F + i) j = q_I s (7 + i) j) ∧ (i = 2 → q_L (q_sf (q_sf (q_sf t7 F 7 n) F 8 np) F 9 k) (F + i) j = q_L s (7 + i) j) := fun i i0 i1 => by
      have g := c5 i i0 (by omega) j j0 (by rw [if_neg (by omega)]; exact j1)
      exact ⟨fun z => ((I9 (F + i) j (by omega)).trans (g.1 z)).trans (R0 _ (by omega) j).1, fun z => (g.2 z).trans (R0 _ (by omega) j).2⟩
    exact ⟨(e 1 (by omega) (by omega)).1 (by omega), (e 2 (by omega) (by omega)).2 rfl, (e 3 (by omega) (by omega)).1 (by omega), (e 4 (by omega) (by omega)).1 (by omega), (e 5 (by omega) (by omega)).1 (by omega), (e 6 (by omega) (by omega)).1 (by omega)⟩
  · have g := (c5 7 (by omega) (by omega) j j0 (by rw [if_pos rfl]; exact j1)).1 (by omega)
    exact ((I9 (F + 7) j (by omega)).trans g).trans (R0 _ (by omega) j).1
  · exact ((I9 b j (by omega)).trans (c4 b (by omega) j).1).trans (R0 b hb j).1
end CRC
