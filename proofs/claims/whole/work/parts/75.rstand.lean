/-! step: where the branches stand -/
def stnA : (k : Nat) → BT k → Int → Int × Int
  | 0, _, lf => (lf, -1)
  | k + 1, (m, p, _, _, sub), lf => if m = 4 then (match sub with
      | none => (lf, -1)
      | some (l, r) => if (stnA k l lf).2 = -1 then stnA k r (stnA k l lf).1 else stnA k l lf)
    else if m = 1 then (lf - 1, if lf - 1 < 0 then p else -1) else (lf, -1)
theorem RM_sf {s : Q_S} {P : PT} {k : Nat} {base u v : Int} {f : Nat} {t : BT k} {it : IT k} (h : RM s P k base u t it) : RM (q_sf s 38 f v) P k base u t it :=
  RM_same k _ _ _ _ (fun x _ => by simp [q_I_sf, q_L_sf]) (fun x _ => by simp [q_I_sf, q_L_sf]) h
section RST5
variable {o : X_O} {P : PT} {sz : Int → Int} {sec ph : Int}
theorem stn_rg (hn : 1 ≤ P_n P) : ∀ (k : Nat) (side : Option Int) (base : Int) (t : BT k) (lf : Int), VT P sz sec ph k side base t → 0 ≤ lf → ((stnA k t lf).2 = -1 → 0 ≤ (stnA k t lf).1) ∧ -1 ≤ (stnA k t lf).1 ∧ (stnA k t lf).1 ≤ lf ∧ -1 ≤ (stnA k t lf).2 ∧ (stnA k t lf).2 < P_n P := by
  intro k
  induction k with
  | zero => intro side base t lf h; exact h.elim
  | succ k ih =>
    intro side base t lf hv h0
    obtain ⟨m, p, d, st, sub⟩ := t
    have hV := hv.1
    simp only [stnA]
    by_cases m4 : m = 4
    · rw [if_pos m4]
      cases sub with
      | none => exact absurd m4 hv.2
      | some lr =>
        obtain ⟨l, r⟩ := lr
        obtain ⟨_, v1, v2⟩ := hv.2
        have i1 := ih _ _ l lf v1 h0
        dsimp only
        by_cases c : (stnA k l lf).2 = -1
        · rw [if_pos c]
          have i2 := ih _ _ r _ v2 (i1.1 c)
          exact ⟨i2.1, i2.2.1, by omega, i2.2.2.2.1, i2.2.2.2.2⟩
        · rw [if_neg c]
          exact i1
    · rw [if_neg m4]
      by_cases m1 : m = 1
      · rw [if_pos m1]
        rcases hV.2.2.2.2 with z | z | z
        · have : m = 0 := z.1; omega
        · have z0 : 0 ≤ p := z.2.1
          have z1 : p < P_n P := z.2.2.1
          dsimp only
          by_cases c : lf - 1 < 0
          · rw [if_pos c]; omega
          · rw [if_neg c]; omega
        · have : m = 4 := z.1; omega
      · rw [if_neg m1]
        dsimp only
        omega
theorem r_stand (hn : 1 ≤ P_n P) (hn5 : P_n P ≤ 500) : ∀ (k : Nat) (side : Option Int) (base u : Int) (t : BT k) (s : Q_S) (it : IT k) (e : Nat) (lf : Int), SH s → VT P sz sec ph k side base t → RM s P k base u t it → UD s u base → q_F s 38 49 = lf → 0 ≤ lf → lf < 2147483648 → 60 ≤ e + base →
    QW (fun n => g_138 o n e 0 s 38 (itB k it) 0) (fun q => q = (q_sf s 38 49 (stnA k t lf).1, (stnA k t lf).2)) := by
  intro k
  induction k with
  | zero => intro side base u t s it e lf _ h; exact h.elim
  | succ k ih =>
    intro side base u t s it e lf hs hv h hud hlf h0 h1 he
    obtain ⟨m, p, d, st, sub⟩ := t
    obtain ⟨b, xs, isub⟩ := it
    have hV := hv.1
    obtain ⟨⟨b1, b2, b3, b4, b5, b6⟩, hsb⟩ := h
    have e62 : q_I s 62 b = m := b3
    have e63 : q_I s 63 b = p := b4
    have hbl : base + (st.length : Int) ≤ 60 := hV.2.1
    have hb0 : 0 ≤ base := hV.1
    have hself : q_sf s 38 49 lf = s := by rw [← hlf]; exact q_sf_self
    have hmr : 0 ≤ m ∧ m ≤ 4 := by
      rcases hV.2.2.2.2 with z | z | z
      · have : m = 0 := z.1; omega
      · have : m = 1 ∨ m = 2 ∨ m = 3 := z.1; omega
      · have : m = 4 := z.1; omega
    have e1 : ∀ (s' : Q_S) (v : Int), QW (fun n => g_138 o n e 1 s' 0 0 v) (fun q => q = (s', v)) := fun s' v => by
      refine QW_s ?_
      simp only [g_138]
      exact QW_ret rfl
    have e2 : ∀ (s' : Q_S) (v : Int), QW (fun n => g_138 o n e 2 s' 0 0 v) (fun q => q = (s', v)) := fun s' v => by
      refine QW_s ?_
      simp only [g_138]
      exact QW_ret rfl
    show QW (fun n => g_138 o n e 0 s 38 b 0) _
    refine QW_s ?_
    simp only [g_138]
    refine QW_p (k_gv (hs _ _ rfl) rfl rfl) ?_
    refine QW_p (k_ia (hs _ _ rfl) b1 b2 (by decide)) ?_
    rw [e62]
    refine QW_g (by omega) ?_
    simp only [stnA]
    by_cases m4 : m = 4
    · refine QW_if (by omega) ?_
      simp only [if_pos m4]
      cases sub with
      | none => exact absurd m4 hv.2
      | some lr =>
      cases isub with
      | none => exact hsb.elim
      | some ilr =>
      obtain ⟨l, r⟩ := lr
      obtain ⟨il, ir⟩ := ilr
      obtain ⟨_, v1, v2⟩ := hv.2
      obtain ⟨_, x, ys, exs, g3, g4, g5, g6, g7⟩ := hsb
      subst exs
      cases st with
      | nil => exact b6.elim
      | cons f t' =>
      obtain ⟨f1, f2⟩ := f
      obtain ⟨x1, x2, x3, x4, x5, x6, x7, x8⟩ := b6
      have hlen : ((((f1, f2) :: t').length : Nat) : Int) = t'.length + 1 := by simp
      obtain ⟨e', rfl⟩ : ∃ e', e = e' + 1 := ⟨e - 1, by omega⟩
      have hudx : UD s x (base + (((f1, f2) :: t').length : Int)) := Or.inr ⟨x2, x3, by rw [x6]; simp; omega⟩
      have rg1 := stn_rg hn k _ _ l lf v1 h0
      refine QW_p (k_gv (hs _ _ rfl) rfl rfl) ?_
      refine QW_p (k_ia (hs _ _ rfl) b1 b2 (by decide)) ?_
      rw [x1]
      refine QW_p (k_gv (hs _ _ rfl) rfl rfl) ?_
      refine QW_p (k_ia (hs _ _ rfl) x2 x3 (by decide)) ?_
      rw [g3]
      refine QW_p (v := e') rfl ?_
      refine QW_p (k_rc (hs _ _ rfl)) ?_
      refine QW_e (ih (some p) _ x l s il e' lf hs v1 g6 hudx hlf h0 h1 (by omega)) ?_
      dsimp only
      refine QW_g (by omega) ?_
      by_cases c : (stnA k l lf).2 = -1
      · refine QW_it c ?_
        simp only [if_pos c]
        have hs2 : SH (q_sf s 38 49 (stnA k l lf).1) := hs
        have hr2 := rg1.1 c
        refine QW_p (k_gv (hs2 _ _ rfl) rfl rfl) ?_
        refine QW_p (k_ia (hs2 _ _ rfl) x2 x3 (by decide)) ?_
        rw [show q_I (q_sf s 38 49 (stnA k l lf).1) 60 x = itB k ir from (by simp only [q_I_sf]; rw [if_neg (by omega)]; exact g4)]
        refine QW_p (v := e') rfl ?_
        refine QW_p (k_rc (hs2 _ _ rfl)) ?_
        have hud2 : UD (q_sf s 38 49 (stnA k l lf).1) x (base + (((f1, f2) :: t').length : Int)) := Or.inr ⟨x2, x3, by rw [show q_I (q_sf s 38 49 (stnA k l lf).1) 57 x = q_I s 57 x by simp [q_I_sf], x6]; simp; omega⟩
        refine QW_e (ih (some p) _ x r (q_sf s 38 49 (stnA k l lf).1) ir e' (stnA k l lf).1 hs2 v2 (RM_sf g7) hud2 (by simp [q_F_sf]) hr2 (by omega) (by omega)) ?_
        rw [q_sf_sf]
        exact e1 _ _
      · refine QW_if c ?_
        simp only [if_neg c]
        exact e1 _ _
    · refine QW_it m4 ?_
      simp only [if_neg m4]
      refine QW_p (k_gv (hs _ _ rfl) rfl rfl) ?_
      refine QW_p (k_ia (hs _ _ rfl) b1 b2 (by decide)) ?_
      rw [e62]
      refine QW_g (by omega) ?_
      by_cases m1 : m = 1
      · refine QW_it m1 ?_
        simp only [if_pos m1]
        refine QW_p (k_gi (hs _ _ rfl) rfl) ?_
        rw [hlf]
        refine QW_p (k_pi (hs _ _ rfl) rfl rfl) ?_
        have hs2 : SH (q_sf s 38 49 (lf - 1)) := hs
        refine QW_p (k_gi (hs2 _ _ rfl) rfl) ?_
        rw [show q_F (q_sf s 38 49 (lf - 1)) 38 49 = lf - 1 by simp [q_F_sf]]
        refine QW_g (by omega) ?_
        by_cases c : lf - 1 < 0
        · refine QW_if (by omega) ?_
          simp only [if_pos c]
          refine QW_p (k_gv (hs2 _ _ rfl) rfl rfl) ?_
          refine QW_p (k_ia (hs2 _ _ rfl) b1 b2 (by decide)) ?_
          rw [show q_I (q_sf s 38 49 (lf - 1)) 63 b = p from (by simp only [q_I_sf]; rw [if_neg (by omega)]; exact e63)]
          exact e2 _ _
        · refine QW_it (by omega) ?_
          simp only [if_neg c]
          exact e2 _ _
      · refine QW_if m1 ?_
        simp only [if_neg m1]
        rw [hself]
        exact QW_ret rfl
end RST5
