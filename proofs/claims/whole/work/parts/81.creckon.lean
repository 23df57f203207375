/-! THE CLASS'S reckon -/
section CRE
variable {o : X_O} {s : Q_S} {r n np : Nat} {wt : Value} {P : PT} {sz th : Int → Int}
theorem c_flt_T {s : Q_S} {k p : Int} {c : Nat} : q_T (c_flt s k p) c = q_T s c := rfl
theorem c_flt_0 {s : Q_S} {k p : Int} : q_F (c_flt s k p) 20 0 = 2 := by
  unfold c_flt
  simp [q_F_sf]
theorem c_flt_K {s : Q_S} {k p j : Int} {v : Int64} {f : Int → Int64} : q_sl (c_flt (setK s f) k p) 36 j v = c_flt (setK s (upF f j v)) k p := by
  rw [← setK_sl]
  rfl
/-- the loop ends where the run is held -/
theorem d_63h (hs : SH s) (h20 : q_T s 20 = some (sh20 (.ref r) wt)) (h1 : q_F s 20 0 = 2) {a2 : Value} {last h i : Int} (hi : q_in i ∧ q_in last) {Q : Q_S × Int64 → Prop} (K : Q (s, 0)) :
    QW (fun n => g_63 o n 1 s 35 0 a2 last h i 0 0 0) Q := by
  have K5 : QW (fun n => g_63 o n 5 s 35 0 .null 0 0 0 0 0 0) Q := by
    refine QW_s ?_
    simp only [g_63]
    refine QW_p (k_gv (hs _ _ rfl) rfl rfl) ?_
    refine QW_p (k_rc h20) ?_
    refine QW_e (d_43 h20 (by omega)) ?_
    rw [if_neg (by omega)]
    dsimp only
    refine QW_g (by decide) ?_
    refine QW_it rfl ?_
    refine QW_s ?_
    simp only [g_63]
    exact QW_ret K
  refine QW_s ?_
  simp only [g_63]
  refine QW_g hi ?_
  refine QW_by (fun c => K5) (fun c => ?_)
  refine QW_p (k_gv (hs _ _ rfl) rfl rfl) ?_
  refine QW_p (k_rc h20) ?_
  refine QW_e (d_43 h20 (by omega)) ?_
  rw [if_neg (by omega)]
  dsimp only
  refine QW_g (by decide) ?_
  refine QW_it rfl ?_
  exact K5
/-- one round of the loop, as far as the kind -/
theorem d_63a (hs : SH s) (h20 : q_T s 20 = some (sh20 (.ref r) wt)) (hR0 : q_T s r = some (shR0 r)) (hRa : ∀ i t, shRa n np i = some t → q_T s (r + i) = some t) (hn : n ≤ 500) (h1 : q_F s 20 0 = 1) {last h i p w : Int} (hi0 : 0 ≤ i) (hi1 : i ≤ last) (hl : last < n) (hb : q_I s (r + 6) i = p) (hp0 : 0 ≤ p) (hp1 : p < n) (hk : q_I s (r + 1) p = w) (hw : 0 ≤ w ∧ w ≤ 32) (hh : 0 ≤ h ∧ h < 500) {Q : Q_S × Int64 → Prop}
    (K1 : 30 ≤ w → QW (fun n => (g_64 o n 0 s 35 w (q_L s (r + 2) p)).bind fun q40 => (q_ls q40.1 (.ref 36) h q40.2).bind fun s45 => g_63 o n 4 s45 35 0 (.ref r) last (h + 1) i 0 0 0) Q)
    (K2 : w < 30 → QW (fun n => g_63 o n 2 s 35 0 (.ref r) last h i p w 0) Q) :
    QW (fun n => g_63 o n 1 s 35 0 (.ref r) last h i 0 0 0) Q := by
  refine QW_s ?_
  simp only [g_63]
  refine QW_g (by omega) ?_
  refine QW_if (by omega) ?_
  refine QW_p (k_gv (hs _ _ rfl) rfl rfl) ?_
  refine QW_p (k_rc h20) ?_
  refine QW_e (d_43 h20 (by omega)) ?_
  rw [if_pos h1]
  dsimp only
  refine QW_g (by decide) ?_
  refine QW_if (by decide) ?_
  refine QW_p (k_gv hR0 rfl rfl) ?_
  refine QW_p (k_ia (hRa _ _ rfl) hi0 (by omega) (by omega)) ?_
  rw [hb]
  refine QW_p (k_gv hR0 rfl rfl) ?_
  refine QW_p (k_ia (hRa _ _ rfl) hp0 hp1 (by omega)) ?_
  rw [hk]
  refine QW_g (by omega) ?_
  refine QW_by (fun c => K2 c) (fun c => ?_)
  refine QW_g (by omega) ?_
  refine QW_if (by omega) ?_
  refine QW_p (k_gv (hs _ _ rfl) rfl rfl) ?_
  refine QW_p (k_gv hR0 rfl rfl) ?_
  refine QW_p (k_la (hRa _ _ rfl) hp0 hp1 (by omega)) ?_
  refine QW_p (k_rc (hs _ _ rfl)) ?_
  exact K1 (by omega)
/-- on to the next rank -/
theorem d_63n {s : Q_S} {a2 : Value} {last h i : Int} {Q : Q_S × Int64 → Prop} (K : QW (fun n => g_63 o n 1 s 35 0 a2 last h (i + 1) 0 0 0) Q) : QW (fun n => g_63 o n 4 s 35 0 a2 last h i 0 0 0) Q := by
  refine QW_s ?_
  simp only [g_63]
  exact K
set_option maxHeartbeats 4000000 in
theorem d_63i (hs : SH s) (ho : o 2 = some (10, fun i => x_TABLE.getD i 0)) (h20 : q_T s 20 = some (sh20 (.ref r) wt)) (hr : 80 < r) (hW : WP P sz) (hR0 : q_T s r = some (shR0 r)) (hRa : ∀ i t, shRa n np i = some t → q_T s (r + i) = some t) (hn : (n : Int) = P_n P)
    (hk : ∀ p, 0 ≤ p → p < P_n P → q_I s (r + 1) p = ck (P_w P p) ∧ q_L s (r + 2) p = numC P p) (hK : RK P sz (q_I s (r + 5)) (q_I s (r + 6))) (h1 : q_F s 20 0 = 1) {last : Int} (hl : last < n) :
    ∀ (f : Nat) (p : Int), 0 ≤ p → p < P_n P → isE (P_w P p) → sz p ≤ f → ∀ (h : Int) (fK : Int → Int64), 0 ≤ h → h + sz p ≤ 500 → q_I s (r + 5) p ≤ last →
    match ev P (q_L s 19) (q_L s 21) f p with
    | .inl v => ∀ Q : Q_S × Int64 → Prop, (∀ f' : Int → Int64, f' h = v → (∀ j, j < h → f' j = fK j) → QW (fun n => g_63 o n 1 (setK s f') 35 0 (.ref r) last (h + 1) (q_I s (r + 5) p + 1) 0 0 0) Q) → QW (fun n => g_63 o n 1 (setK s fK) 35 0 (.ref r) last h (q_I s (r + 5) p - sz p + 1) 0 0 0) Q
    | .inr x => ∀ Q : Q_S × Int64 → Prop, (∀ f' : Int → Int64, Q (c_flt (setK s f') x.1 x.2, 0)) → QW (fun n => g_63 o n 1 (setK s fK) 35 0 (.ref r) last h (q_I s (r + 5) p - sz p + 1) 0 0 0) Q := by
  have hn5 := hW.2.1
  intro f
  induction f with
  | zero =>
    intro p h0 h1 he hz
    have := (hW.2.2.2.2.2.1 p h0 h1).1
    omega
  | succ f ih =>
    intro p h0 hp1 he hz h fK hh0 hh1 hlast
    have hp := hW.2.2.2.2.2.1 p h0 hp1
    obtain ⟨r0, r1, r2, r3, r4⟩ := hK p h0 hp1 he
    obtain ⟨k1, k2⟩ := hk p h0 hp1
    rcases WK_E hp.2.2 he with ⟨a1, a2, a3, a4⟩ | ⟨a1, a2, a3, a4⟩ | ⟨a1, a2, a3, a4, a5, a6⟩
    · have hv : ev P (q_L s 19) (q_L s 21) (f + 1) p = .inl (if P_w P p = 100 then P_v P p else if P_w P p = 101 then q_L s 19 (P_v P p).toInt else q_L s 21 (P_v P p).toInt) := by
        simp only [ev]
        by_cases c : P_w P p = 100
        · simp only [if_pos c]
        · by_cases c1 : P_w P p = 101
          · simp only [if_neg c, if_pos c1]
          · have c2 : P_w P p = 102 := by omega
            simp only [if_neg c, if_neg c1, if_pos c2]
      rw [hv]
      intro Q K
      have e : ck (P_w P p) = P_w P p - 70 := if_pos a1
      have en : numC P p = P_v P p := if_neg (by omega)
      rw [show q_I s (r + 5) p - sz p + 1 = q_I s (r + 5) p by omega]
      refine d_63a (s := setK s fK) (n := n) (np := np) (p := p) (w := ck (P_w P p)) hs h20 hR0 hRa (by omega) h1 (by omega) hlast hl r2 h0 (by omega) k1 (by omega) (by omega) (fun c => ?_) (fun c => ?_)
      · rw [setK_L, if_neg (by omega), k2, en]
        refine QW_e (d_64 (s := setK s fK) hs h20 ⟨a1, a2⟩ a4) ?_
        refine QW_p (k_ls (hs _ _ rfl) hh0 (by omega) (by decide)) ?_
        dsimp only
        rw [setK_sl]
        refine d_63n (K _ ?_ ?_)
        · unfold upF
          rw [if_pos rfl]
          rfl
        · intro j hj
          unfold upF
          rw [if_neg (by omega)]
      · exact absurd c (by omega)
    · have e : ck (P_w P p) = 6 := by rw [a1]; rfl
      have hq := hW.2.2.2.2.2.1 (p + 1) (by omega) a2.2.2
      have q1 := r3 a1
      have i1 := ih (p + 1) (by omega) a2.2.2 a3 (by omega) h fK hh0 (by omega) (by omega)
      have n1 : ¬ P_w P p = 100 := by omega
      have n2 : ¬ P_w P p = 101 := by omega
      have n3 : ¬ P_w P p = 102 := by omega
      simp only [ev, if_neg n1, if_neg n2, if_neg n3, a2.1, if_pos a1]
      rw [show q_I s (r + 5) p - sz p + 1 = q_I s (r + 5) (p + 1) - sz (p + 1) + 1 by omega]
      cases hx : ev P (q_L s 19) (q_L s 21) f (p + 1) with
      | inr x =>
        rw [hx] at i1
        exact i1
      | inl x =>
        rw [hx] at i1
        have i2 := fun Q => i1 Q
        -- the look-up at the end
        have L : ∀ (Q : Q_S × Int64 → Prop) (f' : Int → Int64), f' h = x → QW (fun n => (if x < 0 ∨ 9 < x then (some (c_flt (setK s f') 2 p, (0 : Int64)) : Option (Q_S × Int64)) else some (setK s f', Int64.ofInt (tbl x.toInt))).bind fun q16 => (q_ls q16.1 (.ref 36) h q16.2).bind fun s21 => g_63 o n 4 s21 35 0 (.ref r) last (h + 1) (q_I s (r + 5) p) 0 0 0) Q → QW (fun n => g_63 o n 1 (setK s f') 35 0 (.ref r) last (h + 1) (q_I s (r + 5) (p + 1) + 1) 0 0 0) Q := by
          intro Q f' hf K
          rw [show q_I s (r + 5) (p + 1) + 1 = q_I s (r + 5) p by omega]
          refine d_63a (s := setK s f') (n := n) (np := np) (p := p) (w := 6) hs h20 hR0 hRa (by omega) h1 (by omega) hlast hl r2 h0 (by omega) (k1.trans e) (by omega) (by omega) (fun c => absurd c (by decide)) (fun c => ?_)
          refine QW_s ?_
          simp only [g_63]
          refine QW_g (by decide) ?_
          refine QW_if (by decide) ?_
          refine QW_g (by omega) ?_
          refine QW_if (by omega) ?_
          refine QW_p (k_gv (hs _ _ rfl) rfl rfl) ?_
          refine QW_p (k_gv (hs _ _ rfl) rfl rfl) ?_
          refine QW_p (k_la (hs _ _ rfl) (by omega) (by omega) (by decide)) ?_
          refine QW_p (k_rc (hs _ _ rfl)) ?_
          rw [show h + 1 - 1 = h by omega, setK_L, if_pos rfl, hf]
          refine QW_e (d_65 (s := setK s f') hs ho h20) ?_
          by_cases c9 : x < 0 ∨ 9 < x
          · rw [if_pos c9] at K ⊢
            exact K
          · rw [if_neg c9] at K ⊢
            exact K
        by_cases c9 : x < 0 ∨ 9 < x
        · simp only [if_pos c9]
          intro Q K
          refine i1 Q (fun f' hf' hf2 => L Q f' hf' ?_)
          rw [if_pos c9]
          show QW (fun n => (q_ls (c_flt (setK s f') 2 p) (.ref 36) h 0).bind _) Q
          refine QW_p (k_ls (hs _ _ rfl) hh0 (by omega) (by decide)) ?_
          rw [c_flt_K]
          refine d_63n (d_63h (s := c_flt (setK s (upF f' h 0)) 2 p) hs h20 c_flt_0 (by omega) ?_)
          exact K _
        · simp only [if_neg c9]
          intro Q K
          refine i1 Q (fun f' hf' hf2 => L Q f' hf' ?_)
          rw [if_neg c9]
          show QW (fun n => (q_ls (setK s f') (.ref 36) h _).bind _) Q
          refine QW_p (k_ls (hs _ _ rfl) hh0 (by omega) (by decide)) ?_
          rw [setK_sl]
          refine d_63n (K _ ?_ ?_)
          · unfold upF
            rw [if_pos rfl]
          · intro j hj
            unfold upF
            rw [if_neg (by omega)]
            exact hf2 j hj
    · have e : ck (P_w P p) = P_w P p := if_neg (by omega)
      have hq := hW.2.2.2.2.2.1 (p + 1) (by omega) a3.1.2.2
      have hq2 := hW.2.2.2.2.2.1 (p + 1 + sz (p + 1)) (by omega) a3.2.2.2
      obtain ⟨q1, q2⟩ := r4 a1 a2
      have i1 := ih (p + 1) (by omega) a3.1.2.2 a4 (by omega) h fK hh0 (by omega) (by omega)
      have i2 := fun f' => ih (p + 1 + sz (p + 1)) (by omega) a3.2.2.2 a5 (by omega) (h + 1) f' (by omega) (by omega) (by omega)
      have n1 : ¬ P_w P p = 100 := by omega
      have n2 : ¬ P_w P p = 101 := by omega
      have n3 : ¬ P_w P p = 102 := by omega
      have n4 : ¬ P_w P p = 6 := by omega
      simp only [ev, if_neg n1, if_neg n2, if_neg n3, if_neg n4, a3.1.1, a3.2.1]
      rw [show q_I s (r + 5) p - sz p + 1 = q_I s (r + 5) (p + 1) - sz (p + 1) + 1 by omega]
      cases hx : ev P (q_L s 19) (q_L s 21) f (p + 1) with
      | inr x =>
        rw [hx] at i1
        exact i1
      | inl x =>
        rw [hx] at i1
        cases hy : ev P (q_L s 19) (q_L s 21) f (p + 1 + sz (p + 1)) with
        | inr y =>
          rw [hy] at i2
          intro Q K
          refine i1 Q (fun f' hf' hf2 => ?_)
          rw [show q_I s (r + 5) (p + 1) + 1 = q_I s (r + 5) (p + 1 + sz (p + 1)) - sz (p + 1 + sz (p + 1)) + 1 by omega]
          exact i2 f' Q K
        | inl y =>
          rw [hy] at i2
          have L : ∀ (Q : Q_S × Int64 → Prop) (f' : Int → Int64), f' h = x → f' (h + 1) = y → QW (fun n => (q_ls (oaS (setK s f') (opA (P_w P p) x y p)).1 (.ref 36) h (oaS (setK s f') (opA (P_w P p) x y p)).2).bind fun s21 => g_63 o n 4 s21 35 0 (.ref r) last (h + 1) (q_I s (r + 5) p) 0 0 0) Q → QW (fun n => g_63 o n 1 (setK s f') 35 0 (.ref r) last (h + 1 + 1) (q_I s (r + 5) p) 0 0 0) Q := by
            intro Q f' hf hg K
            refine d_63a (s := setK s f') (n := n) (np := np) (p := p) (w := P_w P p) hs h20 hR0 hRa (by omega) h1 (by omega) hlast hl r2 h0 (by omega) (k1.trans e) (by omega) (by omega) (fun c => absurd c (by omega)) (fun c => ?_)
            refine QW_s ?_
            simp only [g_63]
            refine QW_g (by omega) ?_
            refine QW_it (by omega) ?_
            refine QW_s ?_
            simp only [g_63]
            refine QW_g (by omega) ?_
            refine QW_if (by omega) ?_
            refine QW_p (k_gv (hs _ _ rfl) rfl rfl) ?_
            refine QW_p (k_gv (hs _ _ rfl) rfl rfl) ?_
            refine QW_p (k_la (hs _ _ rfl) (by omega) (by omega) (by decide)) ?_
            refine QW_p (k_gv (hs _ _ rfl) rfl rfl) ?_
            refine QW_p (k_la (hs _ _ rfl) (by omega) (by omega) (by decide)) ?_
            refine QW_p (k_rc (hs _ _ rfl)) ?_
            rw [show h + 1 + 1 + -1 = h + 1 by omega, show h + 1 - 1 = h by omega, setK_L, if_pos rfl, setK_L, if_pos rfl, hf, hg]
            refine QW_e (d_66 (s := setK s f') (n := n) (np := np) hs h20 hR0 hRa (by omega) h0 (by omega) (k1.trans e) a1 a2) ?_
            exact K
          cases hz2 : opA (P_w P p) x y p with
          | inl v =>
            simp only [hz2]
            intro Q K
            refine i1 Q (fun f' hf' hf2 => ?_)
            rw [show q_I s (r + 5) (p + 1) + 1 = q_I s (r + 5) (p + 1 + sz (p + 1)) - sz (p + 1 + sz (p + 1)) + 1 by omega]
            refine i2 f' Q (fun g hg hg2 => ?_)
            rw [show q_I s (r + 5) (p + 1 + sz (p + 1)) + 1 = q_I s (r + 5) p by omega]
            refine L Q g ((hg2 h (by omega)).trans hf') hg ?_
            rw [hz2]
            refine QW_p (k_ls (hs _ _ rfl) hh0 (by omega) (by decide)) ?_
            show QW (fun n => g_63 o n 4 (q_sl (setK s g) 36 h v) 35 0 (.ref r) last (h + 1) (q_I s (r + 5) p) 0 0 0) Q
            rw [setK_sl]
            refine d_63n (K _ ?_ ?_)
            · unfold upF
              rw [if_pos rfl]
            · intro j hj
              unfold upF
              rw [if_neg (by omega)]
              exact (hg2 j (by omega)).trans (hf2 j hj)
          | inr y2 =>
            simp only [hz2]
            intro Q K
            refine i1 Q (fun f' hf' hf2 => ?_)
            rw [show q_I s (r + 5) (p + 1) + 1 = q_I s (r + 5) (p + 1 + sz (p + 1)) - sz (p + 1 + sz (p + 1)) + 1 by omega]
            refine i2 f' Q (fun g hg hg2 => ?_)
            rw [show q_I s (r + 5) (p + 1 + sz (p + 1)) + 1 = q_I s (r + 5) p by omega]
            refine L Q g ((hg2 h (by omega)).trans hf') hg ?_
            rw [hz2]
            refine QW_p (k_ls (hs _ _ rfl) hh0 (by omega) (by decide)) ?_
            show QW (fun n => g_63 o n 4 (q_sl (c_flt (setK s g) y2.1 y2.2) 36 h 0) 35 0 (.ref r) last (h + 1) (q_I s (r + 5) p) 0 0 0) Q
            rw [c_flt_K]
            refine d_63n (d_63h (s := c_flt (setK s (upF g h 0)) y2.1 y2.2) hs h20 c_flt_0 (by omega) ?_)
            exact K _
/-- the class's reckon is ev -/
theorem d_63 (hs : SH s) (ho : o 2 = some (10, fun i => x_TABLE.getD i 0)) (h20 : q_T s 20 = some (sh20 (.ref r) wt)) (hr : 80 < r) (hW : WP P sz) (hR : RW s r P sz th) (h1 : q_F s 20 0 = 1) {p : Int} (h0 : 0 ≤ p) (hp : p < P_n P) (he : isE (P_w P p)) :
    QW (fun n => g_63 o n 0 s 35 p .null 0 0 0 0 0 0) (fun q => ∃ f, q = oaS (setK s f) (ev P (q_L s 19) (q_L s 21) 500 p)) := by
  obtain ⟨n, np, ⟨hR0, hRa⟩, hn, hnp, f7, f8, hk, hK, -⟩ := hR
  have hz := hW.2.2.2.2.2.1 p h0 hp
  obtain ⟨r0, r1, r2, r3, r4⟩ := hK p h0 hp he
  have hn5 := hW.2.1
  refine QW_s ?_
  simp only [g_63]
  refine QW_p (k_gv (hs _ _ rfl) rfl rfl) ?_
  refine QW_p (k_gv h20 rfl rfl) ?_
  refine QW_p (k_gv hR0 rfl rfl) ?_
  refine QW_p (k_ia (hRa _ _ rfl) h0 (by omega) (by omega)) ?_
  refine QW_p (k_gv hR0 rfl rfl) ?_
  refine QW_p (k_ia (hRa _ _ rfl) h0 (by omega) (by omega)) ?_
  rw [(hk p h0 hp).2.2.1]
  have i := d_63i hs ho h20 hr hW hR0 hRa hn (fun p a b => ⟨(hk p a b).1, (hk p a b).2.1⟩) hK h1 (last := q_I s (r + 5) p) (by omega) 500 p h0 hp he (by omega) 0 (q_L s 36) (by omega) (by omega) (by omega)
  rw [setK_self] at i
  cases hx : ev P (q_L s 19) (q_L s 21) 500 p with
  | inr x =>
    rw [hx] at i
    exact i _ (fun f' => ⟨f', rfl⟩)
  | inl v =>
    rw [hx] at i
    refine i _ (fun f' hf' _ => ?_)
    refine QW_s ?_
    simp only [g_63]
    refine QW_g (by omega) ?_
    refine QW_it (by omega) ?_
    refine QW_s ?_
    simp only [g_63]
    refine QW_p (k_gv (hs _ _ rfl) rfl rfl) ?_
    refine QW_p (k_rc h20) ?_
    refine QW_e (d_43 (s := setK s f') h20 (by rw [setK_F]; omega)) ?_
    rw [setK_F, if_pos h1]
    dsimp only
    refine QW_g (by decide) ?_
    refine QW_if (by decide) ?_
    refine QW_p (k_gv (hs _ _ rfl) rfl rfl) ?_
    refine QW_p (k_la (hs _ _ rfl) (by omega) (by omega) (by decide)) ?_
    rw [setK_L, if_pos rfl, hf']
    refine QW_s ?_
    simp only [g_63]
    exact QW_ret ⟨f', rfl⟩
end CRE
