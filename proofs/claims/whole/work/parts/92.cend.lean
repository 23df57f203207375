/-! THE WALKER ENDS A PART: turns, branches, phases -/
section CFI
variable {o : X_O} {s : Q_S}
theorem d_149 {a n : Nat} {g : Nat → Option Nat} {x : Int} (hT : q_T s a = some (.inl (.int, n, g))) (hn : n ≤ 1000000) {i2 i3 : Int} :
    QW (fun m => g_149 o m 0 s (.ref a) x i2 i3) (fun q => q.1.1 = s.1 ∧ q.1.2.1 = s.2.1 ∧ (∀ b, q_T q.1 b = q_T s b) ∧ (∀ b j, q_L q.1 b j = q_L s b j) ∧ (∀ b j, q_I q.1 b j = if b = a ∧ 0 ≤ j ∧ j < n then x else q_I s b j)) := by
  have L : ∀ (f : Nat) (i : Int) (s' : Q_S), i + f = n → 0 ≤ i → s'.1 = s.1 ∧ s'.2.1 = s.2.1 ∧ (∀ b, q_T s' b = q_T s b) ∧ (∀ b j, q_L s' b j = q_L s b j) ∧ (∀ b j, q_I s' b j = if b = a ∧ 0 ≤ j ∧ j < i then x else q_I s b j) → QW (fun m => g_149 o m 1 s' (.ref a) x i n) (fun q => q.1.1 = s.1 ∧ q.1.2.1 = s.2.1 ∧ (∀ b, q_T q.1 b = q_T s b) ∧ (∀ b j, q_L q.1 b j = q_L s b j) ∧ (∀ b j, q_I q.1 b j = if b = a ∧ 0 ≤ j ∧ j < n then x else q_I s b j)) := by
    intro f
    induction f with
    | zero =>
      intro i s' h0 h1 h
      refine QW_s ?_
      simp only [g_149]
      refine QW_g (by omega) ?_
      refine QW_it (by omega) ?_
      have e : i = n := by omega
      subst e
      exact QW_ret h
    | succ f ih =>
      intro i s' h0 h1 h
      obtain ⟨e1, e2, e3, e4, e5⟩ := h
      refine QW_s ?_
      simp only [g_149]
      refine QW_g (by omega) ?_
      refine QW_if (by omega) ?_
      refine QW_p (k_is ((e3 a).trans hT) h1 (by omega) (by omega)) ?_
      refine ih (i + 1) _ (by omega) (by omega) ⟨e1, e2, e3, e4, fun b j => ?_⟩
      rw [q_I_si, e5]
      by_cases z : b = a ∧ j = i
      · rw [if_pos z, if_pos ⟨z.1, by omega, by omega⟩]
      · rw [if_neg z]
        by_cases y : b = a ∧ 0 ≤ j ∧ j < i
        · rw [if_pos y, if_pos ⟨y.1, y.2.1, by omega⟩]
        · rw [if_neg y, if_neg (fun w => ?_)]
          by_cases k : j = i
          · exact z ⟨w.1, k⟩
          · exact y ⟨w.1, w.2.1, by omega⟩
  refine QW_s ?_
  simp only [g_149]
  refine QW_p (k_ln hT rfl) ?_
  refine L n 0 s (by omega) (by omega) ⟨rfl, rfl, fun _ => rfl, fun _ _ => rfl, fun b j => ?_⟩
  rw [if_neg (by omega)]
theorem d_148 {a n : Nat} {g : Nat → Option Nat} {x : Int64} (hT : q_T s a = some (.inl (.long, n, g))) (hn : n ≤ 1000000) {i2 i3 : Int} :
    QW (fun m => g_148 o m 0 s (.ref a) x i2 i3) (fun q => q.1.1 = s.1 ∧ q.1.2.1 = s.2.1 ∧ (∀ b, q_T q.1 b = q_T s b) ∧ (∀ b j, q_I q.1 b j = q_I s b j) ∧ (∀ b j, q_L q.1 b j = if b = a ∧ 0 ≤ j ∧ j < n then x else q_L s b j)) := by
  have L : ∀ (f : Nat) (i : Int) (s' : Q_S), i + f = n → 0 ≤ i → s'.1 = s.1 ∧ s'.2.1 = s.2.1 ∧ (∀ b, q_T s' b = q_T s b) ∧ (∀ b j, q_I s' b j = q_I s b j) ∧ (∀ b j, q_L s' b j = if b = a ∧ 0 ≤ j ∧ j < i then x else q_L s b j) → QW (fun m => g_148 o m 1 s' (.ref a) x i n) (fun q => q.1.1 = s.1 ∧ q.1.2.1 = s.2.1 ∧ (∀ b, q_T q.1 b = q_T s b) ∧ (∀ b j, q_I q.1 b j = q_I s b j) ∧ (∀ b j, q_L q.1 b j = if b = a ∧ 0 ≤ j ∧ j < n then x else q_L s b j)) := by
    intro f
    induction f with
    | zero =>
      intro i s' h0 h1 h
      refine QW_s ?_
      simp only [g_148]
      refine QW_g (by omega) ?_
      refine QW_it (by omega) ?_
      have e : i = n := by omega
      subst e
      exact QW_ret h
    | succ f ih =>
      intro i s' h0 h1 h
      obtain ⟨e1, e2, e3, e4, e5⟩ := h
      refine QW_s ?_
      simp only [g_148]
      refine QW_g (by omega) ?_
      refine QW_if (by omega) ?_
      refine QW_p (k_ls ((e3 a).trans hT) h1 (by omega) (by omega)) ?_
      refine ih (i + 1) _ (by omega) (by omega) ⟨e1, e2, e3, e4, fun b j => ?_⟩
      rw [q_L_sl, e5]
      by_cases z : b = a ∧ j = i
      · rw [if_pos z, if_pos ⟨z.1, by omega, by omega⟩]
      · rw [if_neg z]
        by_cases y : b = a ∧ 0 ≤ j ∧ j < i
        · rw [if_pos y, if_pos ⟨y.1, y.2.1, by omega⟩]
        · rw [if_neg y, if_neg (fun w => ?_)]
          by_cases k : j = i
          · exact z ⟨w.1, k⟩
          · exact y ⟨w.1, w.2.1, by omega⟩
  refine QW_s ?_
  simp only [g_148]
  refine QW_p (k_ln hT rfl) ?_
  refine L n 0 s (by omega) (by omega) ⟨rfl, rfl, fun _ => rfl, fun _ _ => rfl, fun b j => ?_⟩
  rw [if_neg (by omega)]
end CFI
theorem i64_dec {a : Int64} (ha : 1 ≤ a) : (a - 1).toInt = a.toInt - 1 := by
  rw [Int64.le_iff_toInt_le] at ha
  have e1 : (1 : Int64).toInt = 1 := rfl
  have b1 := Int64.toInt_lt a
  have b2 := Int64.le_toInt a
  rw [Int64.toInt_sub, e1]
  rw [e1] at ha
  exact Int.bmod_eq_of_le (by omega) (by omega)
theorem i64_turn {a : Int64} (ha : 1 ≤ a) : (0 < a - 1) ↔ ¬ a ≤ 1 := by
  have e := i64_dec ha
  rw [Int64.le_iff_toInt_le] at ha
  rw [Int64.lt_iff_toInt_lt, Int64.le_iff_toInt_le]
  have e1 : (1 : Int64).toInt = 1 := rfl
  have e0 : (0 : Int64).toInt = 0 := rfl
  omega
/-- the run is over: what stands then -/
def CEn (Ps : Int → PT) (szs ths : Int → Int → Int) (rc : Int → Nat) (nP sec : Int) (sig : Int → Int64) (s : Q_S) (c room : Nat) (G : GT) (s' : Q_S) : Prop :=
  ∃ s1 c1 room1 v1, s' = q_sf s1 20 0 0 ∧ CG Ps szs ths rc nP sec sig G s1 c1 ∧ VW s1 24 c1 room1 v1 ∧ VB v1 ∧ 9 ≤ room1 ∧ v_u v1 ≤ 6500 ∧ KC s c room s1 c1 room1
section CEN
variable {o : X_O} {Ps : Int → PT} {szs ths : Int → Int → Int} {rc : Int → Nat} {nP sec : Int} {sig : Int → Int64} {G G' : GT} {s s' : Q_S} {c room c' room' : Nat} {v v' : CV} {side : Option Int} {base : Nat} {u N : Int} {r : Bool} {st : List FR} {xs RX : List Int}
theorem CA.en (h : CA Ps szs ths rc nP sec sig G s c room v side base u r N st xs RX) {s0 : Q_S} {c0 room0 : Nat} (k : KC s0 c0 room0 s c room) : CEn Ps szs ths rc nP sec sig s0 c0 room0 G (q_sf s 20 0 0) := by
  have hu := h.us
  obtain ⟨h1, h2, h3, h4, h5, h6, h7, h8, h9, h10, h11⟩ := h
  exact ⟨s, c, room, v, rfl, h1, h2, h3, h4, hu, k⟩
theorem QW_eta {α β : Type} {f : Nat → Option (α × β)} {Q : α × β → Prop} (h : QW f Q) : QW (fun n => (f n).bind fun q => some (q.1, q.2)) Q := QW_c h (fun _ ha => QW_ret ha)
/-- the end of a turn -/
theorem d_85 {p : Int} {a : Int64} {t : List FR} {x : Int} {ys : List Int} (h : CA Ps szs ths rc nP sec sig G s c room v side base u r N ((p, a) :: t) (x :: ys) RX) (hg : GW Ps szs nP sec G) (p0 : 0 ≤ p) (p1 : p < P_n (Ps (G_pg G))) (hw : P_w (Ps (G_pg G)) p = 17) (ha : 1 ≤ a) :
    QW (fun n => g_85 o n 0 s 35 p) (fun q => ∃ v' xs', SM v v' RX u r ∧ KC s c room q.1 c room ∧ (if 0 < a - 1 then q.2 = P_2 (Ps (G_pg G)) p ∧ CA Ps szs ths rc nP sec sig G q.1 c room v' side base u r N ((p, a - 1) :: t) xs' RX else q.2 = ths (G_pg G) p ∧ CA Ps szs ths rc nP sec sig G q.1 c room v' side base u r N t xs' RX)) := by
  obtain ⟨hW, hR, hr80, hr7⟩ := h.1.rows hg
  have hn5 := hW.2.1
  have hk := (hW.2.2.2.2.2.1 p p0 p1).2.2
  have hC2 : C2 (Ps (G_pg G)) (szs (G_pg G)) p := by
    rcases WK_S hk (by unfold isS; omega) with k | k | k | k | k | k | k | k
    · omega
    · omega
    · omega
    · omega
    · exact k.2.1
    · omega
    · omega
    · omega
  have hs := h.1.1
  have hh := h.hd
  have hx0 : 0 ≤ x := h.2.2.2.2.2.1.1.1
  have hx1 : x < v_u v := hh.2.1
  have ha4 : q_F s 35 4 = x := h.2.2.2.2.2.2.2.2.1
  have h8 : vL v 8 x = a := h.2.2.2.2.2.1.1.2.2.2.2.2.1 hw
  have h4 : vI v 4 x = -1 := by
    have z : slotV v x false = -1 := h.2.2.2.2.2.2.2.2.2.2
    rw [slot_l hx0] at z
    exact z
  have hu1 := h.us
  have ea := i64_turn ha
  have h2 := h.2.1
  have h2' := h2
  obtain ⟨hF0, hFa, w1, w2, w3, w4, w5, w6, w7, w8, w9, w10, w11, w12⟩ := h2'
  have e8 : q_L s (c + 8) x = a := (w2 8 x (by decide) (by decide) hx0 hx1).trans h8
  refine QW_s ?_
  simp only [g_85]
  refine QW_p (k_gi (hs _ _ rfl) rfl) ?_
  rw [ha4]
  refine QW_g (by omega) ?_
  refine QW_if (by omega) ?_
  refine QW_p (k_gv (hs _ _ rfl) rfl rfl) ?_
  refine QW_p (k_gv hF0 rfl rfl) ?_
  refine QW_p (k_gi (hs _ _ rfl) rfl) ?_
  rw [ha4]
  refine QW_p (k_la (hFa _ _ rfl) hx0 (by omega) (by omega)) ?_
  rw [e8]
  refine QW_by (fun z => ?_) (fun z => ?_)
  · have zn : ¬ 0 < a - 1 := fun q => ea.mp q z
    simp only [if_neg zn]
    refine QW_s ?_
    simp only [g_85]
    refine QW_p (k_rc (hs _ _ rfl)) ?_
    refine QW_c (d_86 h hg ⟨p0, p1⟩ (by unfold isS; omega) h4) (fun q hq => ?_)
    obtain ⟨e1, v', e2, e3, e4⟩ := hq
    rw [if_neg (by omega)] at e2
    exact QW_ret ⟨v', ys, e3, e4, e1, e2⟩
  · have zp : 0 < a - 1 := ea.mpr z
    simp only [if_pos zp]
    refine QW_p (k_gv (hs _ _ rfl) rfl rfl) ?_
    refine QW_p (k_gv hF0 rfl rfl) ?_
    refine QW_p (k_gi (hs _ _ rfl) rfl) ?_
    rw [ha4]
    refine QW_p (k_la (hFa _ _ rfl) hx0 (by omega) (by omega)) ?_
    rw [e8]
    refine QW_p (k_ls (hFa _ _ rfl) hx0 (by omega) (by omega)) ?_
    obtain ⟨v2, g1, g2, g3⟩ := h.amt8 (b := a - 1)
    obtain ⟨hW', hR', hr80', hr7'⟩ := g1.1.rows hg
    obtain ⟨n', np', hRS', hn', hnp', f7', f8', hkk', hK', hph1', hph2'⟩ := hR'
    refine QW_p (k_gv (g1.1.1 _ _ rfl) rfl rfl) ?_
    refine QW_p (k_gv g1.1.2.1 rfl rfl) ?_
    refine QW_p (k_rc hRS'.1) ?_
    refine QW_e (d_37 hRS'.1 hRS'.2 hn' hn5 (fun p a b => (hkk' p a b).2.2.1) p0 hC2.1.2.2) ?_
    refine QW_ret ⟨v2, x :: ys, g2, g3, ?_, g1⟩
    rw [hC2.2.1]
/-- the end of a branch: the left one is there; the right one is; none -/
theorem d_87a (hs : SH s) (h2 : VW s 24 c room v) (hb : VB v) {x : Int} (x0 : 0 ≤ x) (x1 : x < v_u v) (ha : q_F s 35 4 = x) (h4 : ¬ vI v 4 x = -1) : QW (fun n => g_87 o n 0 s 35) (fun q => q = (q_sf s 35 5 (lfb v 61 (ttr v 61 x)), -1000000)) := by
  have b4 := (hb.1 x x0 x1).2.2.2.1
  have h2' := h2
  obtain ⟨hF0, hFa, w1, w2, w3, w4, w5, w6, w7, w8, w9, w10, w11, w12⟩ := h2'
  have e4 := w1 4 x (by decide) (by decide) x0 x1
  refine QW_s ?_
  simp only [g_87]
  refine QW_p (k_gi (hs _ _ rfl) rfl) ?_
  rw [ha]
  refine QW_g (by omega) ?_
  refine QW_if (by omega) ?_
  refine QW_p (k_gv (hs _ _ rfl) rfl rfl) ?_
  refine QW_p (k_gv hF0 rfl rfl) ?_
  refine QW_p (k_gi (hs _ _ rfl) rfl) ?_
  rw [ha]
  refine QW_p (k_ia (hFa _ _ rfl) x0 (by omega) (by omega)) ?_
  rw [e4]
  refine QW_g (by omega) ?_
  refine QW_if h4 ?_
  refine QW_p (k_gi (hs _ _ rfl) rfl) ?_
  rw [ha]
  refine QW_p (k_rc (hs _ _ rfl)) ?_
  exact QW_eta (d_75 h2 hb hs x0 x1)
theorem d_87b (hs : SH s) (h2 : VW s 24 c room v) (hb : VB v) {x : Int} (x0 : 0 ≤ x) (x1 : x < v_u v) (ha : q_F s 35 4 = x) (h4 : vI v 4 x = -1) (h5 : ¬ vI v 5 x = -1) : QW (fun n => g_87 o n 0 s 35) (fun q => q = (q_sf s 35 5 (lfb v 61 (vI v 5 x)), -1000000)) := by
  have b5 := (hb.1 x x0 x1).2.2.2.2.1
  have h2' := h2
  obtain ⟨hF0, hFa, w1, w2, w3, w4, w5, w6, w7, w8, w9, w10, w11, w12⟩ := h2'
  have e4 := w1 4 x (by decide) (by decide) x0 x1
  have e5 := w1 5 x (by decide) (by decide) x0 x1
  refine QW_s ?_
  simp only [g_87]
  refine QW_p (k_gi (hs _ _ rfl) rfl) ?_
  rw [ha]
  refine QW_g (by omega) ?_
  refine QW_if (by omega) ?_
  refine QW_p (k_gv (hs _ _ rfl) rfl rfl) ?_
  refine QW_p (k_gv hF0 rfl rfl) ?_
  refine QW_p (k_gi (hs _ _ rfl) rfl) ?_
  rw [ha]
  refine QW_p (k_ia (hFa _ _ rfl) x0 (by omega) (by omega)) ?_
  rw [e4]
  refine QW_g (by omega) ?_
  refine QW_it h4 ?_
  refine QW_s ?_
  simp only [g_87]
  refine QW_p (k_gi (hs _ _ rfl) rfl) ?_
  rw [ha]
  refine QW_g (by omega) ?_
  refine QW_if (by omega) ?_
  refine QW_p (k_gv (hs _ _ rfl) rfl rfl) ?_
  refine QW_p (k_gv hF0 rfl rfl) ?_
  refine QW_p (k_gi (hs _ _ rfl) rfl) ?_
  rw [ha]
  refine QW_p (k_ia (hFa _ _ rfl) x0 (by omega) (by omega)) ?_
  rw [e5]
  refine QW_g (by omega) ?_
  refine QW_if h5 ?_
  refine QW_p (k_gv (hs _ _ rfl) rfl rfl) ?_
  refine QW_p (k_gv (hs _ _ rfl) rfl rfl) ?_
  refine QW_p (k_gv hF0 rfl rfl) ?_
  refine QW_p (k_gi (hs _ _ rfl) rfl) ?_
  rw [ha]
  refine QW_p (k_ia (hFa _ _ rfl) x0 (by omega) (by omega)) ?_
  rw [e5]
  refine QW_p (k_rc hF0) ?_
  refine QW_e (d_57 h2 hb b5.1 b5.2) ?_
  dsimp only
  refine QW_p (k_pi (hs _ _ rfl) rfl rfl) ?_
  exact QW_ret rfl
theorem d_87c (hs : SH s) (h2 : VW s 24 c room v) (hb : VB v) {x : Int} (x0 : 0 ≤ x) (x1 : x < v_u v) (ha : q_F s 35 4 = x) (h4 : vI v 4 x = -1) (h5 : vI v 5 x = -1) {Q : Q_S × Int → Prop} (k : QW (fun n => g_86 o n 0 s 35) Q) : QW (fun n => g_87 o n 0 s 35) Q := by
  obtain ⟨hF0, hFa, w1, w2, w3, w4, w5, w6, w7, w8, w9, w10, w11, w12⟩ := h2
  have e4 := w1 4 x (by decide) (by decide) x0 x1
  have e5 := w1 5 x (by decide) (by decide) x0 x1
  refine QW_s ?_
  simp only [g_87]
  refine QW_p (k_gi (hs _ _ rfl) rfl) ?_
  rw [ha]
  refine QW_g (by omega) ?_
  refine QW_if (by omega) ?_
  refine QW_p (k_gv (hs _ _ rfl) rfl rfl) ?_
  refine QW_p (k_gv hF0 rfl rfl) ?_
  refine QW_p (k_gi (hs _ _ rfl) rfl) ?_
  rw [ha]
  refine QW_p (k_ia (hFa _ _ rfl) x0 (by omega) (by omega)) ?_
  rw [e4]
  refine QW_g (by omega) ?_
  refine QW_it h4 ?_
  refine QW_s ?_
  simp only [g_87]
  refine QW_p (k_gi (hs _ _ rfl) rfl) ?_
  rw [ha]
  refine QW_g (by omega) ?_
  refine QW_if (by omega) ?_
  refine QW_p (k_gv (hs _ _ rfl) rfl rfl) ?_
  refine QW_p (k_gv hF0 rfl rfl) ?_
  refine QW_p (k_gi (hs _ _ rfl) rfl) ?_
  rw [ha]
  refine QW_p (k_ia (hFa _ _ rfl) x0 (by omega) (by omega)) ?_
  rw [e5]
  refine QW_g (by omega) ?_
  refine QW_it h5 ?_
  refine QW_s ?_
  simp only [g_87]
  refine QW_p (k_rc (hs _ _ rfl)) ?_
  exact QW_eta k
/-- the names are forgotten, the waiting program runs -/
theorem d_45 (h : CG Ps szs ths rc nP sec sig G s c) (hw : ¬ G_sw G = -1) :
    QW (fun n => g_45 o n 0 s 20) (fun q => CG Ps szs ths rc nP sec sig (G_over G) q.1 c ∧ KC s c room q.1 c room ∧ (∀ a, a = 24 ∨ a = 35 ∨ (c < a ∧ a ≤ c + 10) → q_T q.1 a = q_T s a ∧ ∀ j, q_I q.1 a j = q_I s a j ∧ q_L q.1 a j = q_L s a j) ∧ s.1 ≤ q.1.1) := by
  have h' := h
  obtain ⟨a1, a2, a3, a4, a5, a6, a7, a8, a9, a10, a11, a12, a13⟩ := h'
  rw [if_neg hw] at a2
  refine QW_s ?_
  simp only [g_45]
  refine QW_p (k_gv a2 rfl rfl) ?_
  refine QW_p (k_pr a2 rfl rfl) ?_
  have t1 : q_T (q_st s 20 (sh20 (.ref (rc (G_sw G))) (.ref (rc (G_sw G))))) 20 = some (sh20 (.ref (rc (G_sw G))) (.ref (rc (G_sw G)))) := by rw [q_T_st, if_pos rfl]
  refine QW_p (k_pr t1 rfl rfl) ?_
  have t2 : q_T (q_st (q_st s 20 (sh20 (.ref (rc (G_sw G))) (.ref (rc (G_sw G))))) 20 (sh20 (.ref (rc (G_sw G))) .null)) 20 = some (sh20 (.ref (rc (G_sw G))) .null) := by rw [q_T_st, if_pos rfl]
  refine QW_p (k_gv t2 rfl rfl) ?_
  have t3 : q_T (q_st (q_st s 20 (sh20 (.ref (rc (G_sw G))) (.ref (rc (G_sw G))))) 20 (sh20 (.ref (rc (G_sw G))) .null)) 23 = q_T s 23 := by
    rw [q_T_st, if_neg (by decide), q_T_st, if_neg (by decide)]
  refine QW_c (d_149 (t3.trans (a1 23 _ rfl)) (by decide)) (fun q hq => ?_)
  obtain ⟨e1, e2, e3, e4, e5⟩ := hq
  have eT : ∀ b, ¬ b = 20 → q_T q.1 b = q_T s b := fun b hb => by
    rw [e3, q_T_st, if_neg hb, q_T_st, if_neg hb]
  have eI : ∀ b j, ¬ b = 23 → q_I q.1 b j = q_I s b j := fun b j hb => by
    rw [e5, if_neg (fun z => hb z.1)]
    rfl
  have eL : ∀ b j, q_L q.1 b j = q_L s b j := fun b j => e4 b j
  have kc : ∀ room, KC s c room q.1 c room := fun room => ⟨Nat.le_of_eq e1.symm, Nat.le_refl _, by rw [e1]; exact Nat.le_refl _, by rw [e2]; exact Nat.le_refl _, Or.inl rfl, fun a _ ha _ _ _ => ⟨eT a (by omega), fun j => ⟨eI a j (by omega), eL a j⟩⟩, fun a _ ha => eT a (by omega)⟩
  refine QW_ret ⟨?_, kc room, fun a ha => ⟨eT a (by omega), fun j => ⟨eI a j (by omega), eL a j⟩⟩, Nat.le_of_eq e1.symm⟩
  refine h.step (kc 0) ?_ ?_ ?_ ?_ ?_ ?_ ?_ ?_
  · rw [e3, t2]
    rfl
  · exact (eI 20 0 (by decide)).trans a3
  · exact (eI 20 3 (by decide)).trans a4
  · exact (eI 20 4 (by decide)).trans a5
  · exact fun j j0 j1 => (eL 21 j).trans (a6 j j0 j1)
  · exact fun j j0 j1 => (eL 22 j).trans (a7 j j0 j1)
  · intro j j0 j1
    rw [e5, if_pos ⟨rfl, j0, j1⟩]
    rfl
  · exact (eI 35 6 (by decide)).trans a9
theorem KC.f20 {f : Nat} {x : Int} : KC s c room (q_sf s 20 f x) c room := by
  refine ⟨Nat.le_refl _, Nat.le_refl _, Nat.le_refl _, Nat.le_refl _, Or.inl rfl, fun a _ h _ _ _ => ⟨rfl, fun j => ⟨?_, rfl⟩⟩, fun _ _ _ => rfl⟩
  rw [q_I_sf, if_neg (by omega)]
theorem CA.phase (h : CA Ps szs ths rc nP sec sig G s c room v side base u r N st xs RX) : CA Ps szs ths rc nP sec sig (G_phase G) (q_sf s 20 4 (G_ph G + 1)) c room v side base u r N st xs RX := by
  have hc := h.2.1.cc
  have h1 := h.1
  obtain ⟨a1, a2, a3, a4, a5, a6, a7, a8, a9, a10, a11, a12, a13⟩ := h1
  refine h.upd ?_ rfl rfl ?_ (Nat.le_refl _) (fun a ha => ⟨rfl, fun i => ⟨?_, rfl⟩⟩)
  · refine h.1.step (room := 0) (room' := 0) KC.f20 a2 ?_ ?_ ?_ a6 a7 (fun j j0 j1 => ?_) ?_
    · rw [q_F_sf, if_neg (by omega)]; exact a3
    · rw [q_F_sf, if_neg (by omega)]; exact a4
    · rw [q_F_sf, if_pos ⟨rfl, rfl⟩]; rfl
    · rw [q_I_sf, if_neg (by omega)]; exact a8 j j0 j1
    · rw [q_F_sf, if_neg (by omega)]; exact a9
  · rw [q_F_sf, if_neg (by omega)]
  · rw [q_I_sf, if_neg (by omega)]
/-- what a phase's end leaves -/
def EPh (Ps : Int → PT) (szs ths : Int → Int → Int) (rc : Int → Nat) (nP sec : Int) (sig : Int → Int64) (s : Q_S) (c room : Nat) (v : CV) (side : Option Int) (base : Nat) (u : Int) (r : Bool) (N : Int) (RX : List Int) (res : GT × CT) (q : Q_S × Int) : Prop :=
  (res.2.1 = 0 ∧ CEn Ps szs ths rc nP sec sig s c room res.1 q.1 ∧ q.2 = -1000000) ∨ (res.2.1 = 3 ∧ q.2 = ths (G_pg res.1) res.2.2.1 ∧ KC s c room q.1 c room ∧ CA Ps szs ths rc nP sec sig res.1 q.1 c room v side base u r N [] [] RX)
set_option maxHeartbeats 1000000 in
theorem d_88 (h : CA Ps szs ths rc nP sec sig G s c room v side base u r N [] [] RX) (hg : GW Ps szs nP sec G) {p : Int} {d : DT} (p0 : 0 ≤ p) (p1 : p < P_n (Ps (G_pg G))) (hw : P_w (Ps (G_pg G)) p = 21) :
    QW (fun n => g_88 o n 0 s 35 p) (EPh Ps szs ths rc nP sec sig s c room v side base u r N RX (phaseA Ps G p d [])) := by
  have hs := h.1.1
  have h20 := h.1.2.1
  have h1 := h.phase
  have hs1 := h1.1.1
  have h201 := h1.1.2.1
  have hph : 0 ≤ G_ph G ∧ G_ph G ≤ 900000 := ⟨hg.2.2.2.2.2.2.2.2.2.2.2.2.1, hg.2.2.2.2.2.2.2.2.2.2.2.2.2.1⟩
  refine QW_s ?_
  simp only [g_88]
  refine QW_p (k_gv (hs _ _ rfl) rfl rfl) ?_
  refine QW_p (k_gi h20 rfl) ?_
  rw [h.1.2.2.2.2.1]
  refine QW_p (k_pi h20 rfl rfl) ?_
  refine QW_p (k_gv (hs1 _ _ rfl) rfl rfl) ?_
  unfold phaseA
  by_cases z : G_sw G = -1
  · rw [if_pos z]
    have h202 := h201
    rw [show G_sw (G_phase G) = G_sw G from rfl, if_pos z] at h202
    refine QW_p (k_gv h202 rfl rfl) ?_
    refine QW_p (show y_nul .null = some true from rfl) ?_
    refine QW_it rfl ?_
    obtain ⟨hW, ⟨n, np, hRS, hn, hnp, f7, f8, hkk, hK, hph1, hph2⟩, hr80, hr7⟩ := h.1.rows hg
    have hn5 := hW.2.1
    refine QW_m (k_then hs1 h201 hRS (by omega) p0 (by omega)) (fun q e => ?_)
    rw [e]
    refine Or.inr ⟨rfl, ?_, KC.f20, h1⟩
    show q_I (q_sf s 20 4 (G_ph G + 1)) (rc (G_pg G) + 4) p = ths (G_pg G) p
    rw [q_I_sf, if_neg (by omega)]
    exact (hkk p p0 p1).2.2.2 (by unfold isS; omega)
  · rw [if_neg z]
    have h202 := h201
    rw [show G_sw (G_phase G) = G_sw G from rfl, if_neg z] at h202
    refine QW_p (k_gv h202 rfl rfl) ?_
    refine QW_p (show y_nul (.ref (rc (G_sw G))) = some false from rfl) ?_
    refine QW_if (by decide) ?_
    refine QW_p (k_gv (hs1 _ _ rfl) rfl rfl) ?_
    refine QW_p (k_rc h201) ?_
    refine QW_c (d_45 (room := room) h1.1 z) (fun q hq => ?_)
    obtain ⟨g1, g2, g3, g4⟩ := hq
    have h3 : CA Ps szs ths rc nP sec sig (G_over (G_phase G)) q.1 c room v side base u r N [] [] RX := by
      obtain ⟨b1, b2, b3, b4, b5, b6, b7, b8, b9, b10, b11⟩ := h1
      exact ⟨g1, b2.same (fun a ha => g3 a (by omega)) g4, b3, b4, b5, trivial, b7, b8, (((g3 35 (by omega)).2 4).1).trans b9, b10, b11⟩
    have hsw : 0 ≤ G_sw G ∧ G_sw G < nP := by
      rcases hg.2.2.2.2.2.2.2.1 with y | y
      · exact absurd y z
      · exact y
    have hs2 := g1.1
    have h203 := g1.2.1
    obtain ⟨⟨n, np, hRS, hn, hnp, f7, f8, hkk, hK, hph1, hph2⟩, hr80, -, hr7⟩ := g1.2.2.2.2.2.2.2.2.2.2.2.2 _ hsw.1 hsw.2
    have hW := hg.2.2.2.2.1 _ hsw.1 hsw.2
    have hn5 := hW.2.1
    have ep : q_F q.1 20 4 = G_ph G + 1 := g1.2.2.2.2.1
    refine QW_p (k_gv (hs2 _ _ rfl) rfl rfl) ?_
    refine QW_p (k_gi h203 rfl) ?_
    rw [ep]
    refine QW_p (k_gv (hs2 _ _ rfl) rfl rfl) ?_
    refine QW_p (k_gv h203 rfl rfl) ?_
    refine QW_p (k_gi hRS.1 rfl) ?_
    rw [show q_F q.1 (rc (G_pg (G_over (G_phase G)))) 8 = np from f8]
    refine QW_g (by omega) ?_
    obtain ⟨kk, hkk9⟩ : ∃ kk : Nat, (kk : Int) = G_ph G + 1 := ⟨(G_ph G + 1).toNat, by omega⟩
    refine QW_by (fun y => ?_) (fun y => ?_)
    · obtain ⟨y1, y2⟩ := hph1 kk (by omega) (by omega)
      rw [hkk9] at y1 y2
      have y3 : ¬ phA (Ps (G_sw G)) 501 0 (G_ph G + 1) = -1 := fun e => by rw [e] at y2; omega
      have y4 : phA (Ps (G_sw G)) 501 0 (G_ph G + 1) < P_n (Ps (G_sw G)) ∧ P_w (Ps (G_sw G)) (phA (Ps (G_sw G)) 501 0 (G_ph G + 1)) = 21 := by
        rcases phA_rg (P := Ps (G_sw G)) 501 0 (G_ph G + 1) (Int.le_refl 0) with e | e
        · exact absurd e y3
        · exact ⟨e.2.2.1, (isPh_RA e.2.2.2).1⟩
      generalize phA (Ps (G_sw G)) 501 0 (G_ph G + 1) = ppl at y1 y2 y3 y4 ⊢
      rw [if_neg y3]
      refine QW_p (k_gv (hs2 _ _ rfl) rfl rfl) ?_
      refine QW_p (k_gv h203 rfl rfl) ?_
      refine QW_p (k_gv hRS.1 rfl rfl) ?_
      refine QW_p (k_gv (hs2 _ _ rfl) rfl rfl) ?_
      refine QW_p (k_gv h203 rfl rfl) ?_
      refine QW_p (k_gv hRS.1 rfl rfl) ?_
      refine QW_p (k_gv (hs2 _ _ rfl) rfl rfl) ?_
      refine QW_p (k_gi h203 rfl) ?_
      rw [ep]
      refine QW_p (k_ia (hRS.2 _ _ rfl) (by omega) (by omega) (by omega)) ?_
      rw [show q_I q.1 (rc (G_sw G) + 7) (G_ph G + 1 - 1) = ppl from y1]
      refine QW_p (k_ia (hRS.2 _ _ rfl) y2 (by omega) (by omega)) ?_
      refine QW_ret (Or.inr ⟨rfl, ?_, KC.f20.tr g2, h3⟩)
      exact (hkk _ y2 y4.1).2.2.2 (by unfold isS; omega)
    · have y3 := hph2 kk (by omega)
      rw [hkk9] at y3
      rw [if_pos y3]
      refine QW_p (k_rc (hs2 _ _ rfl)) ?_
      refine QW_e (d_84 hs2 h203) ?_
      exact QW_ret (Or.inl ⟨rfl, h3.en (KC.f20.tr g2), rfl⟩)
/-- the end of a part: by the kind of what it is a part of -/
theorem d_83e (h : CG Ps szs ths rc nP sec sig G s c) (hg : GW Ps szs nP sec G) {p : Int} (hp : p = P_n (Ps (G_pg G))) : QW (fun n => g_83 o n 0 s 35 p) (fun q => q = (q_sf s 20 0 0, -1000000)) := by
  have hs := h.1
  obtain ⟨hW, ⟨n, np, hRS, hn, hnp, f7, f8, hkk, hK, hph1, hph2⟩, hr80, hr7⟩ := h.rows hg
  have hn5 := hW.2.1
  have hn1 := hW.1
  refine QW_s ?_
  simp only [g_83]
  refine QW_p (k_gv (hs _ _ rfl) rfl rfl) ?_
  refine QW_p (k_gv h.2.1 rfl rfl) ?_
  refine QW_p (k_gi hRS.1 rfl) ?_
  rw [f7]
  refine QW_g (by omega) ?_
  refine QW_if (by omega) ?_
  refine QW_p (k_rc (hs _ _ rfl)) ?_
  exact QW_eta (d_84 hs h.2.1)
theorem d_83k (h : CG Ps szs ths rc nP sec sig G s c) (hg : GW Ps szs nP sec G) {p : Int} (p0 : 0 ≤ p) (p1 : p < P_n (Ps (G_pg G))) {Q : Q_S × Int → Prop} (k16 : P_w (Ps (G_pg G)) p = 16 ∨ P_w (Ps (G_pg G)) p = 20 → QW (fun n => g_86 o n 0 s 35) Q) (k17 : P_w (Ps (G_pg G)) p = 17 → QW (fun n => g_85 o n 0 s 35 p) Q) (k18 : P_w (Ps (G_pg G)) p = 18 → QW (fun n => g_87 o n 0 s 35) Q) (k21 : P_w (Ps (G_pg G)) p = 21 → QW (fun n => g_88 o n 0 s 35 p) Q) (hw : (16 ≤ P_w (Ps (G_pg G)) p ∧ P_w (Ps (G_pg G)) p ≤ 18) ∨ (20 ≤ P_w (Ps (G_pg G)) p ∧ P_w (Ps (G_pg G)) p ≤ 21)) : QW (fun n => g_83 o n 0 s 35 p) Q := by
  have hs := h.1
  obtain ⟨hW, ⟨n, np, hRS, hn, hnp, f7, f8, hkk, hK, hph1, hph2⟩, hr80, hr7⟩ := h.rows hg
  have hn5 := hW.2.1
  have ek : q_I s (rc (G_pg G) + 1) p = P_w (Ps (G_pg G)) p := by
    rw [(hkk p p0 p1).1]
    unfold ck
    rw [if_neg (by omega)]
  refine QW_s ?_
  simp only [g_83]
  refine QW_p (k_gv (hs _ _ rfl) rfl rfl) ?_
  refine QW_p (k_gv h.2.1 rfl rfl) ?_
  refine QW_p (k_gi hRS.1 rfl) ?_
  rw [f7]
  refine QW_g (by omega) ?_
  refine QW_it (by omega) ?_
  refine QW_p (k_gv (hs _ _ rfl) rfl rfl) ?_
  refine QW_p (k_gv h.2.1 rfl rfl) ?_
  refine QW_p (k_gv hRS.1 rfl rfl) ?_
  refine QW_p (k_ia (hRS.2 _ _ rfl) p0 (by omega) (by omega)) ?_
  rw [ek]
  refine QW_g (by omega) ?_
  by_cases w16 : P_w (Ps (G_pg G)) p = 16
  · refine QW_it (by omega) ?_
    refine QW_p (k_rc (hs _ _ rfl)) ?_
    exact QW_eta (k16 (Or.inl w16))
  · refine QW_if (by omega) ?_
    by_cases w17 : P_w (Ps (G_pg G)) p = 17
    · refine QW_it w17 ?_
      refine QW_p (k_rc (hs _ _ rfl)) ?_
      exact QW_eta (k17 w17)
    · refine QW_if w17 ?_
      by_cases w18 : P_w (Ps (G_pg G)) p = 18
      · refine QW_it w18 ?_
        refine QW_p (k_rc (hs _ _ rfl)) ?_
        exact QW_eta (k18 w18)
      · refine QW_if w18 ?_
        refine QW_if (by omega) ?_
        by_cases w20 : P_w (Ps (G_pg G)) p = 20
        · refine QW_it w20 ?_
          refine QW_p (k_rc (hs _ _ rfl)) ?_
          exact QW_eta (k16 (Or.inr w20))
        · refine QW_if w20 ?_
          refine QW_it (by omega) ?_
          refine QW_p (k_rc (hs _ _ rfl)) ?_
          exact QW_eta (k21 (by omega))
end CEN
