/-! THE CLASS'S RUN: its numbers, and what a run leaves alone -/
def KC (s : Q_S) (c room : Nat) (s' : Q_S) (c' room' : Nat) : Prop := s.1 ≤ s'.1 ∧ room ≤ room' ∧ s'.1 + room ≤ s.1 + room' ∧ s'.2.1 + 20 * room ≤ s.2.1 + 20 * room' ∧ (c' = c ∨ (s.1 ≤ c' + 1 ∧ c' + 10 < s'.1)) ∧
  (∀ a, a < s.1 → ¬ (20 ≤ a ∧ a ≤ 24) → ¬ a = 35 → ¬ a = 36 → ¬ (c < a ∧ a ≤ c + 10) → q_T s' a = q_T s a ∧ ∀ j, q_I s' a j = q_I s a j ∧ q_L s' a j = q_L s a j) ∧
  (∀ a, a < s.1 → a = 21 ∨ a = 22 ∨ a = 23 ∨ a = 35 ∨ a = 36 → q_T s' a = q_T s a)
theorem KC.rf (s : Q_S) (c room : Nat) : KC s c room s c room := ⟨Nat.le_refl _, Nat.le_refl _, Nat.le_refl _, Nat.le_refl _, Or.inl rfl, fun _ _ _ _ _ _ => ⟨rfl, fun _ => ⟨rfl, rfl⟩⟩, fun _ _ _ => rfl⟩
theorem KC.tr {s s1 s2 : Q_S} {c c1 c2 room room1 room2 : Nat} (h : KC s c room s1 c1 room1) (g : KC s1 c1 room1 s2 c2 room2) : KC s c room s2 c2 room2 := by
  obtain ⟨a1, a2, a3, a4, a5, a6, a7⟩ := h
  obtain ⟨b1, b2, b3, b4, b5, b6, b7⟩ := g
  refine ⟨by omega, by omega, by omega, by omega, by omega, fun a h0 h1 h2 h3 h4 => ?_, fun a h0 h1 => (b7 a (by omega) h1).trans (a7 a h0 h1)⟩
  obtain ⟨x1, x2⟩ := a6 a h0 h1 h2 h3 h4
  obtain ⟨y1, y2⟩ := b6 a (by omega) h1 h2 h3 (by omega)
  exact ⟨y1.trans x1, fun j => ⟨(y2 j).1.trans (x2 j).1, (y2 j).2.trans (x2 j).2⟩⟩
theorem FK.kc {s s' : Q_S} {c room c' room' : Nat} (h : FK s c room s' c' room') (hc : c = 24 ∨ 80 ≤ c) : KC s c room s' c' room' := by
  obtain ⟨a1, a2, a3, a4, a5, a6⟩ := h
  exact ⟨a1, a2, a3, a4, a5, fun a h0 h1 _ _ h4 => a6 a h0 (by omega) h4, fun a h0 h1 => (a6 a h0 (by omega) (by omega)).1⟩
theorem sh_none (c : Nat) (h : c = 18 ∨ c = 20 ∨ (24 ≤ c ∧ c ≤ 34) ∨ c = 37 ∨ 81 ≤ c) : sh c = none := by
  by_cases z : c < 81
  · have : c = 18 ∨ c = 20 ∨ c = 24 ∨ c = 25 ∨ c = 26 ∨ c = 27 ∨ c = 28 ∨ c = 29 ∨ c = 30 ∨ c = 31 ∨ c = 32 ∨ c = 33 ∨ c = 34 ∨ c = 37 := by omega
    rcases this with rfl | rfl | rfl | rfl | rfl | rfl | rfl | rfl | rfl | rfl | rfl | rfl | rfl | rfl <;> rfl
  · unfold sh
    rw [List.getElem?_eq_none (by show shL.length ≤ c; have : shL.length = 81 := rfl; omega)]
    rfl
theorem KC.sh {s s' : Q_S} {c room c' room' : Nat} (h : KC s c room s' c' room') (hc : c = 24 ∨ 80 ≤ c) (hn : 80 < s.1) (hs : SH s) : SH s' := fun a t e => by
  have z : ¬ (a = 18 ∨ a = 20 ∨ (24 ≤ a ∧ a ≤ 34) ∨ a = 37 ∨ 81 ≤ a) := fun z => by rw [sh_none a z] at e; cases e
  obtain ⟨a1, a2, a3, a4, a5, a6, a7⟩ := h
  by_cases y : a = 21 ∨ a = 22 ∨ a = 23 ∨ a = 35 ∨ a = 36
  · rw [a7 a (by omega) y]
    exact hs a t e
  · rw [(a6 a (by omega) (by omega) (by omega) (by omega) (by omega)).1]
    exact hs a t e
theorem RW.same {s s' : Q_S} {r : Nat} {P : PT} {sz th : Int → Int} (h : RW s r P sz th) (e : ∀ i, i ≤ 7 → q_T s' (r + i) = q_T s (r + i) ∧ ∀ j, q_I s' (r + i) j = q_I s (r + i) j ∧ q_L s' (r + i) j = q_L s (r + i) j) : RW s' r P sz th := by
  obtain ⟨n, np, ⟨h0, h1⟩, h2, h3, h4, h5, h6, h7, h8, h9⟩ := h
  have eI := fun i hi j => ((e i hi).2 j).1
  have e5 : q_I s' (r + 5) = q_I s (r + 5) := funext fun j => eI 5 (by decide) j
  have e6 : q_I s' (r + 6) = q_I s (r + 6) := funext fun j => eI 6 (by decide) j
  refine ⟨n, np, ⟨(e 0 (by decide)).1.trans h0, fun i t it => ?_⟩, h2, h3, (eI 0 (by decide) _).trans h4, (eI 0 (by decide) _).trans h5, fun p p0 p1 => ?_, ?_, fun k k0 k1 => ?_, h9⟩
  · have i0 : i ≤ 7 := by
      unfold shRa at it
      split at it <;> first | omega | cases it
    rw [(e i i0).1]
    exact h1 i t it
  · rw [eI 1 (by decide), ((e 2 (by decide)).2 p).2, eI 3 (by decide), eI 4 (by decide)]
    exact h6 p p0 p1
  · rw [e5, e6]
    exact h7
  · rw [eI 7 (by decide)]
    exact h8 k k0 k1
/-- the run's numbers -/
def CG (Ps : Int → PT) (szs ths : Int → Int → Int) (rc : Int → Nat) (nP sec : Int) (sig : Int → Int64) (G : GT) (s : Q_S) (c : Nat) : Prop :=
  SH s ∧ q_T s 20 = some (sh20 (.ref (rc (G_pg G))) (if G_sw G = -1 then .null else .ref (rc (G_sw G)))) ∧ q_F s 20 0 = 1 ∧ q_F s 20 3 = sec ∧ q_F s 20 4 = G_ph G ∧
  (∀ j, 0 ≤ j → j < 16 → q_L s 21 j = G_v G j) ∧ (∀ j, 0 ≤ j → j < 8 → q_L s 22 j = G_o G j) ∧ (∀ j, 0 ≤ j → j < 8 → q_I s 23 j = G_n G j) ∧ q_F s 35 6 = G_bg G ∧
  (∀ j, 0 ≤ j → j < 16 → q_L s 19 j = sig j) ∧ (c = 24 ∨ 80 ≤ c) ∧ 80 < s.1 ∧
  (∀ k, 0 ≤ k → k < nP → RW s (rc k) (Ps k) (szs k) (ths k) ∧ 80 < rc k ∧ (rc k + 7 ≤ c ∨ c + 10 < rc k) ∧ rc k + 7 < s.1)
section CGS
variable {o : X_O} {Ps : Int → PT} {szs ths : Int → Int → Int} {rc : Int → Nat} {nP sec : Int} {sig : Int → Int64} {G G' : GT} {s s' : Q_S} {c room c' room' : Nat}
/-- the numbers after a step that leaves the rest alone -/
theorem CG.step (h : CG Ps szs ths rc nP sec sig G s c) (k : KC s c room s' c' room') (h20 : q_T s' 20 = some (sh20 (.ref (rc (G_pg G'))) (if G_sw G' = -1 then .null else .ref (rc (G_sw G'))))) (h0 : q_F s' 20 0 = 1) (h3 : q_F s' 20 3 = sec) (h4 : q_F s' 20 4 = G_ph G') (hv : ∀ j, 0 ≤ j → j < 16 → q_L s' 21 j = G_v G' j) (ho : ∀ j, 0 ≤ j → j < 8 → q_L s' 22 j = G_o G' j) (hn : ∀ j, 0 ≤ j → j < 8 → q_I s' 23 j = G_n G' j) (hb : q_F s' 35 6 = G_bg G') : CG Ps szs ths rc nP sec sig G' s' c' := by
  obtain ⟨a1, a2, a3, a4, a5, a6, a7, a8, a9, a10, a11, a12, a13⟩ := h
  have k' := k
  obtain ⟨k1, k2, k3, k4, k5, k6, k7⟩ := k'
  refine ⟨k.sh a11 a12 a1, h20, h0, h3, h4, hv, ho, hn, hb, fun j j0 j1 => ?_, by omega, by omega, fun i i0 i1 => ?_⟩
  · rw [((k6 19 (by omega) (by omega) (by omega) (by omega) (by omega)).2 j).2]
    exact a10 j j0 j1
  · obtain ⟨b1, b2, b3, b4⟩ := a13 i i0 i1
    exact ⟨b1.same (fun z hz => k6 _ (by omega) (by omega) (by omega) (by omega) (by omega)), b2, by omega, by omega⟩
/-- the frames alone -/
theorem CG.fk (h : CG Ps szs ths rc nP sec sig G s c) (k : FK s c room s' c' room') : CG Ps szs ths rc nP sec sig G s' c' := by
  have h' := h
  obtain ⟨a1, a2, a3, a4, a5, a6, a7, a8, a9, a10, a11, a12, a13⟩ := h'
  have e := fun a (h0 : a = 20 ∨ a = 21 ∨ a = 22 ∨ a = 23 ∨ a = 35) => k.2.2.2.2.2 a (by omega) (by omega) (by omega)
  refine h.step (k.kc a11) ((e 20 (by decide)).1.trans a2) (((e 20 (by decide)).2 _).1.trans a3) (((e 20 (by decide)).2 _).1.trans a4) (((e 20 (by decide)).2 _).1.trans a5) (fun j j0 j1 => ?_) (fun j j0 j1 => ?_) (fun j j0 j1 => ?_) (((e 35 (by decide)).2 _).1.trans a9)
  · rw [((e 21 (by decide)).2 j).2]; exact a6 j j0 j1
  · rw [((e 22 (by decide)).2 j).2]; exact a7 j j0 j1
  · rw [((e 23 (by decide)).2 j).1]; exact a8 j j0 j1
/-- the stack alone -/
theorem KC.setK {f : Int → Int64} : KC s c room (setK s f) c room := by
  refine ⟨Nat.le_refl _, Nat.le_refl _, Nat.le_refl _, Nat.le_refl _, Or.inl rfl, fun a _ _ _ h _ => ⟨rfl, fun j => ⟨rfl, ?_⟩⟩, fun _ _ _ => rfl⟩
  rw [setK_L, if_neg h]
theorem CG.setK {f : Int → Int64} (h : CG Ps szs ths rc nP sec sig G s c) : CG Ps szs ths rc nP sec sig G (setK s f) c := by
  have h' := h
  obtain ⟨a1, a2, a3, a4, a5, a6, a7, a8, a9, a10, a11, a12, a13⟩ := h'
  exact h.step (room := 0) (room' := 0) KC.setK a2 a3 a4 a5 a6 a7 a8 a9
theorem VW.same {v : CV} {F : Nat} (h : VW s F c room v) (e : ∀ a, a = F ∨ (c < a ∧ a ≤ c + 10) → q_T s' a = q_T s a ∧ ∀ j, q_I s' a j = q_I s a j ∧ q_L s' a j = q_L s a j) (hn : s.1 ≤ s'.1) : VW s' F c room v := by
  obtain ⟨hF0, hFa, w1, w2, w3, w4, w5, w6, w7, w8, w9, w10, w11, w12⟩ := h
  refine ⟨(e F (Or.inl rfl)).1.trans hF0, fun i t it => ?_, fun i x i0 i1 x0 x1 => ?_, fun i x i0 i1 x0 x1 => ?_, ((e F (Or.inl rfl)).2 _).1.trans w3, ((e F (Or.inl rfl)).2 _).1.trans w4, ((e F (Or.inl rfl)).2 _).1.trans w5, ((e F (Or.inl rfl)).2 _).1.trans w6, w7, w8, w9, w10, by omega, by omega⟩
  · have i0 : 1 ≤ i ∧ i ≤ 10 := by
      unfold shFa at it
      split at it <;> first | omega | cases it
    rw [(e (c + i) (by omega)).1]
    exact hFa i t it
  · rw [((e (c + i) (by omega)).2 x).1]
    exact w1 i x i0 i1 x0 x1
  · rw [((e (c + i) (by omega)).2 x).2]
    exact w2 i x i0 i1 x0 x1
theorem VW.setK {v : CV} {f : Int → Int64} (h : VW s 24 c room v) : VW (setK s f) 24 c room v := by
  have hc := h.2.2.2.2.2.2.2.2.2.2.2.1
  refine h.same (fun a ha => ⟨rfl, fun j => ⟨rfl, ?_⟩⟩) (Nat.le_refl _)
  rw [setK_L, if_neg (by omega)]
/-- reckon, in the run's words -/
theorem d_rk (ho : o 2 = some (10, fun i => x_TABLE.getD i 0)) (h : CG Ps szs ths rc nP sec sig G s c) (hg : GW Ps szs nP sec G) {p : Int} (h0 : 0 ≤ p) (h1 : p < P_n (Ps (G_pg G))) (he : isE (P_w (Ps (G_pg G)) p)) :
    QW (fun n => g_63 o n 0 s 35 p .null 0 0 0 0 0 0) (fun q => ∃ f, q = oaS (setK s f) (evG Ps sig G p)) := by
  obtain ⟨a1, a2, a3, a4, a5, a6, a7, a8, a9, a10, a11, a12, a13⟩ := h
  obtain ⟨w1, w2, w3, w4, w5, w6, w7, w8⟩ := hg
  obtain ⟨b1, b2, b3, b4⟩ := a13 _ w6 w7
  have e := ev_same (w5 _ w6 w7) a10 a6 500 p h0 h1 he
  refine QW_m (d_63 a1 ho a2 b2 (w5 _ w6 w7) b1 a3 h0 h1 he) (fun q z => ?_)
  rw [e] at z
  exact z
end CGS
