/-! A SECOND of the reference -/
theorem VC.sec {P : PT} {sz : Int → Int} {sec sec' ph base : Int} {side : Option Int} {c : CT} (h : VC P sz sec ph side base c) (hs : sec ≤ sec') : VC P sz sec' ph side base c := by
  obtain ⟨h1, h2, h3, h4, h5⟩ := h
  refine ⟨h1, h2, h3, h4, ?_⟩
  rcases h5 with z | z | z
  · exact Or.inl z
  · obtain ⟨z1, z2, z3, z4, z5, z6, z7⟩ := z
    refine Or.inr (Or.inl ⟨z1, z2, z3, z4, z5, z6, fun y => ?_⟩)
    obtain ⟨y1, y2, y3, y4⟩ := z7 y
    exact ⟨y1, y2, by omega, y4⟩
  · exact Or.inr (Or.inr z)
theorem VT.sec {P : PT} {sz : Int → Int} {sec sec' ph : Int} (hs : sec ≤ sec') : ∀ (k : Nat) (side : Option Int) (base : Int) (t : BT k), VT P sz sec ph k side base t → VT P sz sec' ph k side base t := by
  intro k
  induction k with
  | zero => intro side base t h; exact h.elim
  | succ k ih =>
    intro side base t h
    obtain ⟨m, p, d, st, sub⟩ := t
    obtain ⟨h1, h2⟩ := h
    refine ⟨h1.sec hs, ?_⟩
    cases sub with
    | none => exact h2
    | some lr =>
      obtain ⟨l, r⟩ := lr
      exact ⟨h2.1, ih _ _ _ h2.2.1, ih _ _ _ h2.2.2⟩
theorem VT.wt_le {P : PT} {sz : Int → Int} {sec ph sw : Int} (hn : P_n P ≤ 500) : ∀ (k : Nat) (side : Option Int) (base : Int) (t : BT k), VT P sz sec ph k side base t → wtB sw k t ≤ 70000 * (1 + 2 * sidesB k t) := by
  intro k
  induction k with
  | zero => intro side base t h; exact h.elim
  | succ k ih =>
    intro side base t h
    obtain ⟨m, p, d, st, sub⟩ := t
    obtain ⟨h1, h2⟩ := h
    have w := (h1.wt (sw := sw) hn).2
    cases sub with
    | none => simp only [wtB, sidesB]; omega
    | some lr =>
      obtain ⟨l, r⟩ := lr
      have i1 := ih _ _ l h2.2.1
      have i2 := ih _ _ r h2.2.2
      simp only [wtB, sidesB]
      omega
def secA {K : Nat} (Ps : Int → PT) (sig : Int → Int64) (F : Nat) (sec : Int) (G : GT) (t : BT K) : Int × GT × BT K × Option (Int × Int) := match lookA Ps sig (G_bg0 G) K t with
  | .inr x => (2, G_bg0 G, t, some x)
  | .inl (t1, n) => (match runA Ps sig sec F K 0 (G_side (G_bg0 G) (-n)) t1 with
    | none => (1, G, t, none)
    | some (.inr (G2, x)) => (2, G2, t1, some x)
    | some (.inl (G2, t2)) => (if modeB K t2 = 0 then 0 else 1, G2, t2, none))
def G_eq (G G2 : GT) : Prop := G_v G2 = G_v G ∧ G_o G2 = G_o G ∧ G_n G2 = G_n G ∧ G_ph G2 = G_ph G ∧ G_sw G2 = G_sw G ∧ G_pg G2 = G_pg G
def G_bgb (G : GT) (b : Int) : GT := (G.1, G.2.1, G.2.2.1, G.2.2.2.1, G.2.2.2.2.1, G.2.2.2.2.2.1, b, G.2.2.2.2.2.2.2)
/-- the reference's run at rest: its state, its second, its numbers, its tree, its alarm -/
def MR {K : Nat} (Ps : Int → PT) (szs : Int → Int → Int) (nP : Int) (sig : Int → Int64) (s : Q_S) (st sec : Int) (G : GT) (t : BT K) (al : Int × Int × Int) : Prop :=
  SH s ∧ q_F s 38 17 = st ∧ (st = 0 ∨ st = 1 ∨ st = 2) ∧ (∃ G2, G_eq G G2 ∧ GM Ps nP sec sig G2 s) ∧ GW Ps szs nP sec G ∧
  (st = 1 → (∃ it b, RF Ps nP sec sig s (G_bgb G b) K 0 (-1) t it [] [] ∧ itB K it = 0) ∧ VT (Ps (G_pg G)) (szs (G_pg G)) sec (G_ph G) K none 0 t ∧ sidesB K t = G_sd G) ∧
  (st = 2 → q_F s 38 47 = 1 ∧ q_F s 38 22 = 1 ∧ q_F s 38 23 = al.1 ∧ q_F s 38 24 = al.2.1 ∧ q_F s 38 25 = al.2.2) ∧ (¬ st = 2 → q_F s 38 47 = 0 ∧ q_F s 38 22 = 0) ∧ BLi s
/-- what ticks leave alone -/
def KT (s s' : Q_S) : Prop := s'.1 = s.1 ∧ s'.2.1 = s.2.1 ∧ s'.2.2.1 = s.2.2.1 ∧ (∀ c, (c < 38 ∨ (39 ≤ c ∧ c ≤ 51) ∨ 71 ≤ c) → ∀ j, q_I s' c j = q_I s c j ∧ q_L s' c j = q_L s c j) ∧
  (q_F s' 38 1 = q_F s 38 1 ∧ q_F s' 38 8 = q_F s 38 8 ∧ q_F s' 38 16 = q_F s 38 16 ∧ q_F s' 38 49 = q_F s 38 49 ∧ q_F s' 38 50 = q_F s 38 50)
theorem KP.kt {s s' : Q_S} (h : KP s s') : KT s s' := ⟨h.1, h.2.1, h.2.2.1, h.2.2.2.1, h.2.2.2.2.2.1, h.2.2.2.2.2.2.1, h.2.2.2.2.2.2.2.1, h.2.2.2.2.2.2.2.2.2.2.1, h.2.2.2.2.2.2.2.2.2.2.2⟩
theorem KT.tr {s s1 s2 : Q_S} (h : KT s s1) (g : KT s1 s2) : KT s s2 := by
  obtain ⟨a1, a2, a3, a4, a5, a6, a7, a8, a9⟩ := h
  obtain ⟨b1, b2, b3, b4, b5, b6, b7, b8, b9⟩ := g
  exact ⟨b1.trans a1, b2.trans a2, b3.trans a3, fun c hc j => ⟨(b4 c hc j).1.trans (a4 c hc j).1, (b4 c hc j).2.trans (a4 c hc j).2⟩, b5.trans a5, b6.trans a6, b7.trans a7, b8.trans a8, b9.trans a9⟩
theorem KT.rf (s : Q_S) : KT s s := (KP.rf s).kt
theorem KT.sf {s : Q_S} {f : Nat} {v : Int} (h : f ∉ [1, 8, 16, 49, 50]) : KT s (q_sf s 38 f v) := by
  simp only [List.mem_cons, List.not_mem_nil, or_false, not_or] at h
  obtain ⟨h0, h1, h2, h3, h4⟩ := h
  have e : ∀ g : Nat, ¬ f = g → q_F (q_sf s 38 f v) 38 g = q_F s 38 g := fun g hg => by rw [q_F_sf, if_neg (fun z => hg z.2.symm)]
  refine ⟨rfl, rfl, rfl, fun c hc i => ⟨?_, rfl⟩, e 1 h0, e 8 h1, e 16 h2, e 49 h3, e 50 h4⟩
  rw [q_I_sf, if_neg (fun z => by have := z.1; omega)]
theorem KT.mP {s s' : Q_S} (h : KT s s') (k : Int) : m_P s' k = m_P s k := by
  have e := h.2.2.2.1
  unfold m_P
  rw [(e 45 (by omega) k).1, show (fun p => q_I s' 46 (500 * k + p)) = fun p => q_I s 46 (500 * k + p) from funext fun p => (e 46 (by omega) _).1, show (fun p => q_L s' 47 (500 * k + p)) = fun p => q_L s 47 (500 * k + p) from funext fun p => (e 47 (by omega) _).2,
    show (fun p => q_I s' 48 (500 * k + p)) = fun p => q_I s 48 (500 * k + p) from funext fun p => (e 48 (by omega) _).1, show (fun p => q_I s' 49 (500 * k + p)) = fun p => q_I s 49 (500 * k + p) from funext fun p => (e 49 (by omega) _).1,
    show (fun p => q_I s' 50 (500 * k + p)) = fun p => q_I s 50 (500 * k + p) from funext fun p => (e 50 (by omega) _).1, show (fun p => q_I s' 51 (500 * k + p)) = fun p => q_I s 51 (500 * k + p) from funext fun p => (e 51 (by omega) _).1]
section RSC
variable {o : X_O} {Ps : Int → PT} {szs : Int → Int → Int} {nP sec : Int} {sig : Int → Int64} {G G' : GT} {s s' : Q_S} {base u : Int} {k : Nat} {t : BT k} {it : IT k} {RX RB : List Int}
theorem RF.glob {sec' : Int} (h : RF Ps nP sec sig s G k base u t it RX RB) (hS : SH s') (hG : GM Ps nP sec' sig G' s') (hpg : G_pg G' = G_pg G) (hI : ∀ a : Nat, 55 ≤ a → a ≤ 69 → ∀ j, q_I s' a j = q_I s a j ∧ q_L s' a j = q_L s a j) (hf : q_F s' 38 47 = q_F s 38 47) (hn : q_F s' 38 36 = q_F s 38 36) : RF Ps nP sec' sig s' G' k base u t it RX RB := by
  obtain ⟨h1, h2, h3, h4, h5, h6, h7, h8, h9, h10, h11⟩ := h
  have i := fun a h0 h1 j => (hI a h0 h1 j).1
  have l := fun a h0 h1 j => (hI a h0 h1 j).2
  refine ⟨hS, hG, ?_, h4, ⟨fun x a0 a1 => ?_, fun x a0 a1 => ?_⟩, h6, ⟨fun x a0 a1 => ?_, fun x a0 a1 => ?_⟩, ?_, h9, hf.trans h10, by rw [hn]; exact h11⟩
  · rw [hpg]
    exact RM_same k _ _ _ _ (fun x _ => ⟨i 55 (by omega) (by omega) x, i 56 (by omega) (by omega) x, i 57 (by omega) (by omega) x, i 59 (by omega) (by omega) x, i 60 (by omega) (by omega) x, l 58 (by omega) (by omega) x⟩) (fun b _ => ⟨i 62 (by omega) (by omega) b, i 63 (by omega) (by omega) b, i 64 (by omega) (by omega) b, i 65 (by omega) (by omega) b, l 66 (by omega) (by omega) b, l 67 (by omega) (by omega) b, l 68 (by omega) (by omega) b⟩) h3
  · rw [i 61 (by omega) (by omega) x]; exact h5.1 x a0 a1
  · rw [i 61 (by omega) (by omega) x]; exact h5.2 x a0 a1
  · rw [i 69 (by omega) (by omega) x]; exact h7.1 x a0 a1
  · rw [i 69 (by omega) (by omega) x]; exact h7.2 x a0 a1
  · unfold UD
    rw [i 57 (by omega) (by omega) u]
    exact h8
theorem sf_I {f : Nat} {v : Int} : ∀ a : Nat, 55 ≤ a → a ≤ 69 → ∀ j, q_I (q_sf s 38 f v) a j = q_I s a j ∧ q_L (q_sf s 38 f v) a j = q_L s a j := fun a h0 h1 j => ⟨by rw [q_I_sf, if_neg (fun z => by have := z.1; omega)], rfl⟩
theorem GM.bg0 (g : GM Ps nP sec sig G s) : GM Ps nP sec sig (G_bg0 G) (q_sf s 38 46 0) := by
  obtain ⟨g1, g2, g3, g4, g5, g6, g7, g8, g9, g10, g11, g12⟩ := g
  have hK : KP s (q_sf s 38 46 0) := KP.sf (by decide)
  have hf : ∀ f : Nat, ¬ f = 46 → q_F (q_sf s 38 46 0) 38 f = q_F s 38 f := fun f h => by rw [q_F_sf, if_neg (fun z => h z.2)]
  refine ⟨⟨(hf 8 (by decide)).trans g1.1, by rw [hf 47 (by decide), hf 22 (by decide), hf 36 (by decide)]; exact g1.2⟩, (hf 19 (by decide)).trans g2, fun k h0 h1 => (hK.mP k).trans (g3 k h0 h1), g4, g5, g6, fun j h0 h1 => ?_, (hf 20 (by decide)).trans g8, (hf 21 (by decide)).trans g9, (hf 18 (by decide)).trans g10, ?_, (hf 45 (by decide)).trans g12⟩
  · rw [q_I_sf, if_neg (fun z => by have := z.1; omega)]
    exact g7 j h0 h1
  · rw [q_F_sf, if_pos ⟨rfl, rfl⟩]
    rfl
/-- the state is put down, the second counted -/
def m_sec (s : Q_S) (st : Int) : Q_S := q_sf (q_sf s 38 17 st) 38 19 (q_F (q_sf s 38 17 st) 38 19 + 1)
theorem GM.sc {st : Int} (g : GM Ps nP sec sig G s) : GM Ps nP (sec + 1) sig G (m_sec s st) := by
  obtain ⟨g1, g2, g3, g4, g5, g6, g7, g8, g9, g10, g11, g12⟩ := g
  have hK : KT s (m_sec s st) := (KT.sf (by decide)).tr (KT.sf (by decide))
  have hf : ∀ f : Nat, ¬ f = 17 → ¬ f = 19 → q_F (m_sec s st) 38 f = q_F s 38 f := fun f h h' => by
    unfold m_sec
    rw [q_F_sf, if_neg (fun z => h' z.2), q_F_sf, if_neg (fun z => h z.2)]
  refine ⟨⟨(hf 8 (by decide) (by decide)).trans g1.1, by rw [hf 47 (by decide) (by decide), hf 22 (by decide) (by decide), hf 36 (by decide) (by decide)]; exact g1.2⟩, ?_, fun k h0 h1 => (hK.mP k).trans (g3 k h0 h1), g4, g5, g6, fun j h0 h1 => ?_, (hf 20 (by decide) (by decide)).trans g8, (hf 21 (by decide) (by decide)).trans g9, (hf 18 (by decide) (by decide)).trans g10, (hf 46 (by decide) (by decide)).trans g11, (hf 45 (by decide) (by decide)).trans g12⟩
  · simp only [m_sec, q_F_sf]
    simp [g2]
  · simp only [m_sec, q_I_sf]
    simp
    exact g7 j h0 h1
theorem GW.sc (hg : GW Ps szs nP sec G) (hs : sec + 1 ≤ 100000000) : GW Ps szs nP (sec + 1) G := by
  obtain ⟨w1, w2, w3, w4, w5⟩ := hg
  exact ⟨w1, w2, by omega, hs, w5⟩
theorem GW.bg0 (hg : GW Ps szs nP sec G) : GW Ps szs nP sec (G_bg0 G) := by
  obtain ⟨w1, w2, w3, w4, w5, w6, w7, w8, w9, w10, w11⟩ := hg
  exact ⟨w1, w2, w3, w4, w5, w6, w7, w8, Int.le_refl 0, (by show (0 : Int) ≤ 500; omega), w11⟩
end RSC
