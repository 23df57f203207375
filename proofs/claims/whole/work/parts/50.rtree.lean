/-! THE REFERENCE'S TREE OF BRANCHES -/
theorem ev_same {P : PT} {sz : Int → Int} (hW : WP P sz) {sig val sig' val' : Int → Int64} (hs : ∀ j, 0 ≤ j → j < 16 → sig j = sig' j) (hv : ∀ j, 0 ≤ j → j < 16 → val j = val' j) :
    ∀ (f : Nat) (p : Int), 0 ≤ p → p < P_n P → isE (P_w P p) → ev P sig val f p = ev P sig' val' f p := by
  intro f
  induction f with
  | zero => intro p _ _ _; rfl
  | succ f ih =>
    intro p h0 h1 he
    have hp := hW.2.2.2.2.2.1 p h0 h1
    rcases WK_E hp.2.2 he with ⟨a1, a2, a3, a4⟩ | ⟨a1, a2, a3, a4⟩ | ⟨a1, a2, a3, a4, a5, a6⟩
    · simp only [ev]
      by_cases c : P_w P p = 100
      · simp only [if_pos c]
      · have a5 := a4 c
        unfold rgI at a5
        simp only [if_neg c]
        by_cases c1 : P_w P p = 101
        · simp only [if_pos c1]
          rw [hs _ a5.1 a5.2]
        · have c2 : P_w P p = 102 := by omega
          simp only [if_neg c1, if_pos c2]
          rw [hv _ a5.1 a5.2]
    · have i1 := ih (p + 1) (by omega) a2.2.2 a3
      simp [ev, a1, a2.1, i1]
    · have hq := hW.2.2.2.2.2.1 (p + 1) (by omega) a3.1.2.2
      have i1 := ih (p + 1) (by omega) a3.1.2.2 a4
      have i2 := ih (p + 1 + sz (p + 1)) (by omega) a3.2.2.2 a5
      have n1 : ¬ P_w P p = 100 := by omega
      have n2 : ¬ P_w P p = 101 := by omega
      have n3 : ¬ P_w P p = 102 := by omega
      simp only [ev, if_neg n1, if_neg n2, if_neg n3, a3.1.1, a3.2.1, i1, i2]
abbrev IT (k : Nat) : Type := Nat.rec (motive := fun _ => Type) Unit (fun _ B => Int × List Int × Option (B × B)) k
def itB (k : Nat) (i : IT k) : Int := match k, i with
  | 0, _ => -1
  | _ + 1, i => i.1
def fxI : (k : Nat) → IT k → List Int
  | 0, _ => []
  | k + 1, (_, xs, sub) => xs ++ (match sub with
    | none => []
    | some (l, r) => fxI k l ++ fxI k r)
def fbI : (k : Nat) → IT k → List Int
  | 0, _ => []
  | k + 1, (b, _, sub) => b :: (match sub with
    | none => []
    | some (l, r) => fbI k l ++ fbI k r)
def RM (s : Q_S) (P : PT) : (k : Nat) → Int → Int → BT k → IT k → Prop
  | 0, _, _, _, _ => False
  | k + 1, base, u, (m, p, d, st, sub), (b, xs, isub) => rpB s P base u b (m, p, d, st) xs ∧ (match sub, isub with
    | none, none => ¬ m = 4 ∧ ∀ x ∈ xs, q_I s 59 x = -1
    | some (l, r), some (il, ir) => m = 4 ∧ ∃ x ys, xs = x :: ys ∧ q_I s 59 x = itB k il ∧ q_I s 60 x = itB k ir ∧ (∀ y ∈ ys, q_I s 59 y = -1) ∧ RM s P k (base + st.length) x l il ∧ RM s P k (base + st.length) x r ir
    | _, _ => False)
def RF (Ps : Int → PT) (nP sec : Int) (sig : Int → Int64) (s : Q_S) (G : GT) (k : Nat) (base u : Int) (t : BT k) (it : IT k) (RX RB : List Int) : Prop :=
  SH s ∧ GM Ps nP sec sig G s ∧ RM s (Ps (G_pg G)) k base u t it ∧ (fxI k it ++ RX).Nodup ∧ US s (fxI k it ++ RX) ∧ (fbI k it ++ RB).Nodup ∧ UB s (fbI k it ++ RB) ∧ UD s u base ∧ (u = -1 ∨ u ∈ RX) ∧
  q_F s 38 47 = 0 ∧ 0 ≤ q_F s 38 36 ∧ q_F s 38 36 < 6144
section RFS
variable {Ps : Int → PT} {nP sec : Int} {sig : Int → Int64} {G G' : GT} {s s' : Q_S} {base u b : Int} {m p : Int} {d : DT} {st : List FR} {xs RX RB : List Int} {k : Nat}
theorem RS.rf (h : RS Ps nP sec sig s G base u b (m, p, d, st) xs RX RB) (hm : ¬ m = 4) : RF Ps nP sec sig s G (k + 1) base u (m, p, d, st, none) (b, xs, none) RX RB := by
  obtain ⟨h1, h2, h3, h4, h5, h6, h7, h8, h9, h10, h11, h12⟩ := h
  refine ⟨h1, h2, ⟨h3, hm, h4⟩, ?_, ?_, h7, h8, h9, h10, h11, h12⟩
  · simpa [fxI] using h5
  · simpa [fxI] using h6
theorem RF.rs {b : Int} (h : RF Ps nP sec sig s G (k + 1) base u (m, p, d, st, none) (b, xs, none) RX RB) : RS Ps nP sec sig s G base u b (m, p, d, st) xs RX RB := by
  obtain ⟨h1, h2, ⟨h3, hm, h4⟩, h5, h6, h7, h8, h9, h10, h11, h12⟩ := h
  refine ⟨h1, h2, h3, h4, ?_, ?_, h7, h8, h9, h10, h11, h12⟩
  · simpa [fxI] using h5
  · simpa [fxI] using h6
end RFS
/-- all that is asked of the programs and of the numbers -/
def GW (Ps : Int → PT) (szs : Int → Int → Int) (nP sec : Int) (G : GT) : Prop :=
  0 ≤ nP ∧ nP ≤ 20 ∧ 0 ≤ sec ∧ sec ≤ 100000000 ∧ (∀ k, 0 ≤ k → k < nP → WP (Ps k) (szs k)) ∧ 0 ≤ G_pg G ∧ G_pg G < nP ∧ (G_sw G = -1 ∨ (0 ≤ G_sw G ∧ G_sw G < nP)) ∧ 0 ≤ G_bg G ∧ G_bg G ≤ 500 ∧ 0 ≤ G_sd G ∧ G_sd G ≤ 49 ∧ 0 ≤ G_ph G ∧ G_ph G ≤ 900000 ∧
  (∀ j, 0 ≤ j → j < 8 → G_n G j = -1 ∨ (0 ≤ G_n G j ∧ G_n G j < P_n (Ps (G_pg G)) ∧ isS (P_w (Ps (G_pg G)) (G_n G j)) ∧ 0 ≤ P_u (Ps (G_pg G)) (G_n G j) ∧ P_w (Ps (G_pg G)) (P_u (Ps (G_pg G)) (G_n G j)) = 20))
section RKG
variable {o : X_O} {Ps : Int → PT} {szs : Int → Int → Int} {nP sec : Int} {sig : Int → Int64} {G : GT} {s : Q_S}
/-- reckon, in the run's words -/
theorem m_rk (hs : SH s) (hG : GM Ps nP sec sig G s) (hg : GW Ps szs nP sec G) (hf : q_F s 38 47 = 0) {p : Int} (h0 : 0 ≤ p) (h1 : p < P_n (Ps (G_pg G))) (he : isE (P_w (Ps (G_pg G)) p)) (t : Int64) :
    QW (fun n => g_113 o n 510 0 s 38 p t) (fun q => match evG Ps sig G p with | .inl v => q = (s, v) | .inr x => q = (m_flt s x.1 x.2, 0)) := by
  obtain ⟨g1, g2, g3, g4, g5, g6, g7, g8, g9, g10, g11, g12⟩ := hG
  obtain ⟨w1, w2, w3, w4, w5, w6, w7, w8⟩ := hg
  have e : m_P s (q_F s 38 18) = Ps (G_pg G) := by rw [g10]; exact g3 _ w6 w7
  have hW := w5 _ w6 w7
  have hz := hW.2.2.2.2.2.1 p h0 h1
  have hn := hW.2.1
  have k := m_113 (o := o) (sz := szs (G_pg G)) hs (by rw [e]; exact hW) (by rw [g10]; omega) hf 500 p h0 (by rw [e]; exact h1) (by rw [e]; exact he) (by have := hz.2.1; omega) 510 t (by omega)
  rw [e, ev_same hW g4 g5 500 p h0 h1 he] at k
  exact k
end RKG
