/-! THE CLASS'S RUNS MADE -/
def FI (s0 : Q_S) (F R : Nat) (fs : List (Option Value)) (k : Nat) (s : Q_S) : Prop := s.1 = F + 1 + k ∧ s.2.1 = s0.2.1 + k * R ∧ q_T s F = some (.inr (5, fs)) ∧ (∀ i t, 1 ≤ i → i ≤ k → shFa R i = some t → q_T s (F + i) = some t) ∧ (∀ b, b < F → q_T s b = q_T s0 b) ∧ (∀ b, b < F + 1 → ∀ x, q_I s b x = q_I s0 b x ∧ q_L s b x = q_L s0 b x)
section CNW
variable {o : X_O}
theorem fi_I {s0 s : Q_S} {F R k : Nat} {fs : List (Option Value)} {ty : FieldType} {u : Value} (h : FI s0 F R fs k s) (hR : R ≤ 67108864) (h1 : fs[k]? = some (some u)) (hs7 : shFa R (k + 1) = some (.inl (ty, R, fun _ => none))) (hty : x_fit (x_fty 5 k) (.ref (F + 1 + k)) = true) {Q : Q_S × Unit → Prop} {K : Nat → Q_S → Option (Q_S × Unit)} (g : ∀ s', FI s0 F R (fs.set k (some (.ref (F + (k + 1))))) (k + 1) s' → QW (fun n => K n s') Q) :
    QW (fun n => (q_na s ty R).bind fun s1 => (q_pr s1 5 (.ref F) k (.ref s.1)).bind fun s3 => K n s3) Q := by
  obtain ⟨n0, sl, T, I, L⟩ := s
  obtain ⟨e1, e2, e3, e4, e5, e6⟩ := h
  have e1 : n0 = F + 1 + k := e1
  subst e1
  refine QW_p (k_na (by omega) (by omega)) ?_
  rw [show ((R : Int)).toNat = R by omega]
  have t3 : q_T (q_nw (F + 1 + k, sl, T, I, L) R (.inl (ty, R, fun _ => none))) F = some (.inr (5, fs)) := by
    rw [q_T_nw, if_neg (by show ¬ F = F + 1 + k; omega)]
    exact e3
  refine QW_p (k_pr t3 h1 hty) ?_
  apply g
  refine ⟨rfl, ?_, ?_, fun i t i0 i1 it => ?_, fun b b0 => ?_, fun b b0 x => ⟨?_, ?_⟩⟩
  · show sl + R = s0.2.1 + (k + 1) * R
    have e2 : sl = s0.2.1 + k * R := e2
    rw [e2, Nat.add_mul]
    omega
  · rw [q_T_st, if_pos rfl, show F + 1 + k = F + (k + 1) by omega]
  · by_cases z : i = k + 1
    · subst z
      rw [q_T_st, if_neg (by omega), q_T_nw, if_pos (by show F + (k + 1) = F + 1 + k; omega), ← hs7, it]
    · rw [q_T_st, if_neg (by omega), q_T_nw, if_neg (by show ¬ F + i = F + 1 + k; omega)]
      exact e4 i t i0 (by omega) it
  · rw [q_T_st, if_neg (by omega), q_T_nw, if_neg (by show ¬ b = F + 1 + k; omega)]
    exact e5 b b0
  · rw [q_I_st, q_I_nw, if_neg (by show ¬ b = F + 1 + k; omega)]
    exact (e6 b b0 x).1
  · rw [q_L_st, q_L_nw, if_neg (by show ¬ b = F + 1 + k; omega)]
    exact (e6 b b0 x).2
set_option maxHeartbeats 2000000 in
/-- frames made -/
theorem d_47 {s : Q_S} {F R : Nat} (hn : s.1 = F + 1) (hT : q_T s F = some (.inr (5, y_shp 5))) (hR : R ≤ 20000) :
    QW (fun n => g_47 o n 0 s F R) (fun q => q.1.1 = F + 11 ∧ q.1.2.1 = s.2.1 + 10 * R ∧ q_T q.1 F = some (shF0 F) ∧ (∀ i t, shFa R i = some t → q_T q.1 (F + i) = some t) ∧ (∀ b, b < F → q_T q.1 b = q_T s b ∧ ∀ j, q_I q.1 b j = q_I s b j ∧ q_L q.1 b j = q_L s b j)) := by
  have h0 : FI s F R (y_shp 5) 0 s := ⟨hn, by omega, hT, fun i t i0 i1 => by omega, fun _ _ => rfl, fun _ _ _ => ⟨rfl, rfl⟩⟩
  have hR' : R ≤ 67108864 := by omega
  refine QW_s ?_
  simp only [g_47]
  refine fi_I (k := 0) h0 hR' rfl rfl rfl (fun s1 h1 => ?_)
  refine fi_I (k := 1) h1 hR' rfl rfl rfl (fun s2 h2 => ?_)
  refine fi_I (k := 2) h2 hR' rfl rfl rfl (fun s3 h3 => ?_)
  refine fi_I (k := 3) h3 hR' rfl rfl rfl (fun s4 h4 => ?_)
  refine fi_I (k := 4) h4 hR' rfl rfl rfl (fun s5 h5 => ?_)
  refine fi_I (k := 5) h5 hR' rfl rfl rfl (fun s6 h6 => ?_)
  refine fi_I (k := 6) h6 hR' rfl rfl rfl (fun s7 h7 => ?_)
  refine fi_I (k := 7) h7 hR' rfl rfl rfl (fun s8 h8 => ?_)
  refine fi_I (k := 8) h8 hR' rfl rfl rfl (fun s9 h9 => ?_)
  refine fi_I (k := 9) h9 hR' rfl rfl rfl (fun s10 h10 => ?_)
  obtain ⟨e1, e2, e3, e4, e5, e6⟩ := h10
  have e3 : q_T s10 F = some (shF0 F) := e3
  refine QW_p (k_pi e3 rfl rfl) ?_
  refine QW_p (k_pi (show q_T (q_sf s10 F 10 (-1)) F = some (shF0 F) from e3) rfl rfl) ?_
  refine QW_ret ⟨e1, e2, e3, fun i t it => ?_, fun b hb => ⟨e5 b hb, fun j => ⟨?_, (e6 b (by omega) j).2⟩⟩⟩
  · have i0 : 1 ≤ i ∧ i ≤ 10 := by
      unfold shFa at it
      split at it <;> first | omega | cases it
    exact e4 i t i0.1 i0.2 it
  · rw [q_I_sf, if_neg (by omega), q_I_sf, if_neg (by omega)]
    exact (e6 b (by omega) j).1
set_option maxHeartbeats 2000000 in
/-- a run made -/
theorem d_41 {s : Q_S} {r R : Nat} (hn : s.1 = r + 1) (hT : q_T s r = some (.inr (4, y_shp 4))) (hR : R ≤ 20000) :
    QW (fun n => g_41 o n 0 s r R) (fun q => q.1.1 = r + 15 ∧ q.1.2.1 ≤ s.2.1 + 50 + 10 * R ∧ q_T q.1 r = some (shU r .null .null) ∧ UA q.1 r ∧ q_T q.1 (r + 4) = some (shF0 (r + 4)) ∧ (∀ i t, shFa R i = some t → q_T q.1 (r + 4 + i) = some t) ∧ (∀ b, b < r → q_T q.1 b = q_T s b ∧ ∀ j, q_I q.1 b j = q_I s b j ∧ q_L q.1 b j = q_L s b j) ∧ q_F q.1 r 0 = 3) := by
  obtain ⟨n0, sl, T, I, L⟩ := s
  have hn : n0 = r + 1 := hn
  subst hn
  refine QW_s ?_
  simp only [g_41]
  refine QW_p (k_pi hT rfl rfl) ?_
  refine QW_p (k_na (by decide) (by decide)) ?_
  generalize hs1 : q_nw (q_sf (r + 1, sl, T, I, L) r 0 3) (16 : Int).toNat (.inl (.long, (16 : Int).toNat, fun _ => none)) = s1
  have n1 : s1.1 = r + 2 ∧ s1.2.1 = sl + 16 := by rw [← hs1]; exact ⟨rfl, rfl⟩
  have t1 : q_T s1 r = some (.inr (4, y_shp 4)) := by rw [← hs1, q_T_nw, if_neg (by show ¬ r = r + 1; omega)]; exact hT
  have u1 : q_T s1 (r + 1) = some (.inl (.long, 16, fun _ => none)) := by rw [← hs1, q_T_nw, if_pos (by rfl)]; rfl
  have f1 : q_F s1 r 0 = 3 := by rw [← hs1, q_F_nw, if_neg (by show ¬ r = r + 1; omega), q_F_sf, if_pos ⟨rfl, rfl⟩]
  have o1 : ∀ b, b < r → q_T s1 b = q_T (r + 1, sl, T, I, L) b ∧ ∀ j, q_I s1 b j = q_I (r + 1, sl, T, I, L) b j ∧ q_L s1 b j = q_L (r + 1, sl, T, I, L) b j := fun b hb => by
    rw [← hs1]
    refine ⟨by rw [q_T_nw, if_neg (by show ¬ b = r + 1; omega)]; rfl, fun j => ⟨?_, ?_⟩⟩
    · rw [q_I_nw, if_neg (by show ¬ b = r + 1; omega), q_I_sf, if_neg (by omega)]
    · rw [q_L_nw, if_neg (by show ¬ b = r + 1; omega)]; rfl
  refine QW_p (k_pr t1 rfl rfl) ?_
  refine QW_p (k_na (by decide) (by decide)) ?_
  generalize hs2 : q_nw (q_st s1 r (.inr (4, (y_shp 4).set 8 (some (.ref (q_sf (r + 1, sl, T, I, L) r 0 3).1))))) (8 : Int).toNat (.inl (.long, (8 : Int).toNat, fun _ => none)) = s2
  have n2 : s2.1 = r + 3 ∧ s2.2.1 = sl + 24 := by
    rw [← hs2]
    refine ⟨?_, ?_⟩
    · show s1.1 + 1 = r + 3
      omega
    · show s1.2.1 + 8 = sl + 24
      omega
  have t2 : q_T s2 r = some (.inr (4, (y_shp 4).set 8 (some (.ref (r + 1))))) := by
    rw [← hs2, q_T_nw, if_neg (by show ¬ r = s1.1; omega), q_T_st, if_pos rfl]
    rfl
  have u2 : q_T s2 (r + 2) = some (.inl (.long, 8, fun _ => none)) := by rw [← hs2, q_T_nw, if_pos (by show r + 2 = s1.1; omega)]; rfl
  have u21 : q_T s2 (r + 1) = some (.inl (.long, 16, fun _ => none)) := by rw [← hs2, q_T_nw, if_neg (by show ¬ r + 1 = s1.1; omega), q_T_st, if_neg (by omega)]; exact u1
  have f2 : q_F s2 r 0 = 3 := by rw [← hs2, q_F_nw, if_neg (by show ¬ r = s1.1; omega), q_F_st]; exact f1
  have o2 : ∀ b, b < r → q_T s2 b = q_T s1 b ∧ ∀ j, q_I s2 b j = q_I s1 b j ∧ q_L s2 b j = q_L s1 b j := fun b hb => by
    rw [← hs2]
    refine ⟨by rw [q_T_nw, if_neg (by show ¬ b = s1.1; omega), q_T_st, if_neg (by omega)], fun j => ⟨?_, ?_⟩⟩
    · rw [q_I_nw, if_neg (by show ¬ b = s1.1; omega), q_I_st]
    · rw [q_L_nw, if_neg (by show ¬ b = s1.1; omega), q_L_st]
  refine QW_p (k_pr t2 rfl rfl) ?_
  refine QW_p (k_na (by decide) (by decide)) ?_
  generalize hs3 : q_nw (q_st s2 r (.inr (4, ((y_shp 4).set 8 (some (.ref (r + 1)))).set 9 (some (.ref (q_st s1 r (.inr (4, (y_shp 4).set 8 (some (.ref (q_sf (r + 1, sl, T, I, L) r 0 3).1))))).1))))) (8 : Int).toNat (.inl (.int, (8 : Int).toNat, fun _ => none)) = s3
  have n3 : s3.1 = r + 4 ∧ s3.2.1 = sl + 32 := by
    rw [← hs3]
    refine ⟨?_, ?_⟩
    · show s2.1 + 1 = r + 4
      omega
    · show s2.2.1 + 8 = sl + 32
      omega
  have t3 : q_T s3 r = some (.inr (4, ((y_shp 4).set 8 (some (.ref (r + 1)))).set 9 (some (.ref (r + 2))))) := by
    rw [← hs3, q_T_nw, if_neg (by show ¬ r = s2.1; omega), q_T_st, if_pos rfl]
    show some (Sum.inr (4, ((y_shp 4).set 8 (some (.ref (r + 1)))).set 9 (some (.ref s1.1)))) = _
    rw [n1.1]
  have u3 : q_T s3 (r + 3) = some (.inl (.int, 8, fun _ => none)) := by rw [← hs3, q_T_nw, if_pos (by show r + 3 = s2.1; omega)]; rfl
  have u32 : q_T s3 (r + 2) = some (.inl (.long, 8, fun _ => none)) := by rw [← hs3, q_T_nw, if_neg (by show ¬ r + 2 = s2.1; omega), q_T_st, if_neg (by omega)]; exact u2
  have u31 : q_T s3 (r + 1) = some (.inl (.long, 16, fun _ => none)) := by rw [← hs3, q_T_nw, if_neg (by show ¬ r + 1 = s2.1; omega), q_T_st, if_neg (by omega)]; exact u21
  have f3 : q_F s3 r 0 = 3 := by rw [← hs3, q_F_nw, if_neg (by show ¬ r = s2.1; omega), q_F_st]; exact f2
  have o3 : ∀ b, b < r → q_T s3 b = q_T s2 b ∧ ∀ j, q_I s3 b j = q_I s2 b j ∧ q_L s3 b j = q_L s2 b j := fun b hb => by
    rw [← hs3]
    refine ⟨by rw [q_T_nw, if_neg (by show ¬ b = s2.1; omega), q_T_st, if_neg (by omega)], fun j => ⟨?_, ?_⟩⟩
    · rw [q_I_nw, if_neg (by show ¬ b = s2.1; omega), q_I_st]
    · rw [q_L_nw, if_neg (by show ¬ b = s2.1; omega), q_L_st]
  refine QW_p (k_pr t3 rfl rfl) ?_
  generalize hs4 : q_st s3 r (.inr (4, (((y_shp 4).set 8 (some (.ref (r + 1)))).set 9 (some (.ref (r + 2)))).set 10 (some (.ref (q_st s2 r (.inr (4, ((y_shp 4).set 8 (some (.ref (r + 1)))).set 9 (some (.ref (q_st s1 r (.inr (4, (y_shp 4).set 8 (some (.ref (q_sf (r + 1, sl, T, I, L) r 0 3).1))))).1))))).1)))) = s4
  have n4 : s4.1 = r + 4 ∧ s4.2.1 = sl + 32 := by rw [← hs4]; exact n3
  have t4 : q_T s4 r = some (.inr (4, (((y_shp 4).set 8 (some (.ref (r + 1)))).set 9 (some (.ref (r + 2)))).set 10 (some (.ref (r + 3))))) := by
    rw [← hs4, q_T_st, if_pos rfl]
    show some (Sum.inr (4, (((y_shp 4).set 8 (some (.ref (r + 1)))).set 9 (some (.ref (r + 2)))).set 10 (some (.ref s2.1)))) = _
    rw [n2.1]
  have T4 : ∀ b, b ≠ r → q_T s4 b = q_T s3 b := fun b hb => by rw [← hs4, q_T_st, if_neg hb]
  have o4 : ∀ b, ∀ j, q_I s4 b j = q_I s3 b j ∧ q_L s4 b j = q_L s3 b j := fun b j => by rw [← hs4]; exact ⟨rfl, rfl⟩
  refine QW_p (show q_no s4 5 = some (q_nw s4 (x_dfl 5).length (.inr (5, y_shp 5))) from rfl) ?_
  generalize hs5 : q_nw s4 (x_dfl 5).length (.inr (5, y_shp 5)) = s5
  have n5 : s5.1 = r + 4 + 1 ∧ s5.2.1 = sl + 46 := by
    rw [← hs5]
    refine ⟨?_, ?_⟩
    · show s4.1 + 1 = r + 4 + 1
      omega
    · show s4.2.1 + 14 = sl + 46
      omega
  have T5 : ∀ b, b < r + 4 → q_T s5 b = q_T s4 b ∧ ∀ j, q_I s5 b j = q_I s4 b j ∧ q_L s5 b j = q_L s4 b j := fun b hb => by
    rw [← hs5]
    refine ⟨by rw [q_T_nw, if_neg (by omega)], fun j => ⟨?_, ?_⟩⟩
    · rw [q_I_nw, if_neg (by omega)]
    · rw [q_L_nw, if_neg (by omega)]
  have t5 : q_T s5 (r + 4) = some (.inr (5, y_shp 5)) := by rw [← hs5, q_T_nw, if_pos n4.1.symm]
  rw [n4.1]
  refine QW_c (d_47 n5.1 t5 hR) (fun q hq => ?_)
  obtain ⟨c1, c2, c3, c4, c5⟩ := hq
  have tq : q_T q.1 r = some (.inr (4, (((y_shp 4).set 8 (some (.ref (r + 1)))).set 9 (some (.ref (r + 2)))).set 10 (some (.ref (r + 3))))) := (c5 r (by omega)).1.trans ((T5 r (by omega)).1.trans t4)
  refine QW_p (k_pr tq rfl rfl) ?_
  refine QW_ret ⟨by show q.1.1 = r + 15; omega, by show q.1.2.1 ≤ sl + 50 + 10 * R; omega, ?_, ⟨?_, ?_, ?_⟩, ?_, fun i t it => ?_, fun b hb => ⟨?_, fun j => ⟨?_, ?_⟩⟩, ?_⟩
  · rw [q_T_st, if_pos rfl]
    rfl
  · rw [q_T_st, if_neg (by omega), (c5 _ (by omega)).1, (T5 _ (by omega)).1, T4 _ (by omega)]
    exact u31
  · rw [q_T_st, if_neg (by omega), (c5 _ (by omega)).1, (T5 _ (by omega)).1, T4 _ (by omega)]
    exact u32
  · rw [q_T_st, if_neg (by omega), (c5 _ (by omega)).1, (T5 _ (by omega)).1, T4 _ (by omega)]
    exact u3
  · rw [q_T_st, if_neg (by omega)]
    exact c3
  · have i0 : 1 ≤ i ∧ i ≤ 10 := by
      unfold shFa at it
      split at it <;> first | omega | cases it
    rw [q_T_st, if_neg (by omega)]
    exact c4 i t it
  · rw [q_T_st, if_neg (by omega), (c5 b (by omega)).1, (T5 b (by omega)).1, T4 b (by omega), (o3 b hb).1, (o2 b hb).1, (o1 b hb).1]
  · rw [q_I_st, ((c5 b (by omega)).2 j).1, ((T5 b (by omega)).2 j).1, (o4 b j).1, ((o3 b hb).2 j).1, ((o2 b hb).2 j).1, ((o1 b hb).2 j).1]
  · rw [q_L_st, ((c5 b (by omega)).2 j).2, ((T5 b (by omega)).2 j).2, (o4 b j).2, ((o3 b hb).2 j).2, ((o2 b hb).2 j).2, ((o1 b hb).2 j).2]
  · rw [q_F_st]
    exact ((c5 r (by omega)).2 0).1.trans (((T5 r (by omega)).2 0).1.trans ((o4 r 0).1.trans f3))
end CNW
