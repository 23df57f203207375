/-! STORES THAT KEEP THE REPRESENTATION -/
section GMS
variable {Ps : Int → PT} {nP sec : Int} {sig : Int → Int64} {G : GT} {s s' : Q_S}
theorem GM.kp (g : GM Ps nP sec sig G s) (hK : KP s s') (hv : ∀ j, q_L s' 53 j = q_L s 53 j) (ho : ∀ j, q_L s' 52 j = q_L s 52 j) (hn : ∀ j, q_I s' 54 j = q_I s 54 j) (hf : ∀ f ∈ [20, 21, 18, 46, 45], q_F s' 38 f = q_F s 38 f) (hz : (q_F s' 38 47 = 0 → q_F s' 38 22 = 0) ∧ 0 ≤ q_F s' 38 36 ∧ q_F s' 38 36 < 6144) : GM Ps nP sec sig G s' := by
  obtain ⟨g1, g2, g3, g4, g5, g6, g7, g8, g9, g10, g11, g12⟩ := g
  simp only [List.mem_cons, List.not_mem_nil, or_false] at hf
  exact ⟨⟨hK.2.2.2.2.2.2.1.trans g1.1, hz⟩, hK.2.2.2.2.2.2.2.2.2.1.trans g2, fun k h0 h1 => (hK.mP k).trans (g3 k h0 h1), fun j h0 h1 => ((hK.2.2.2.1 44 (by omega) j).2).trans (g4 j h0 h1), fun j h0 h1 => (hv j).trans (g5 j h0 h1), fun j h0 h1 => (ho j).trans (g6 j h0 h1), fun j h0 h1 => (hn j).trans (g7 j h0 h1),
    (hf 20 (by omega)).trans g8, (hf 21 (by omega)).trans g9, (hf 18 (by omega)).trans g10, (hf 46 (by omega)).trans g11, (hf 45 (by omega)).trans g12⟩
theorem GM.si (g : GM Ps nP sec sig G s) {a : Nat} {j v : Int} (h : 55 ≤ a ∧ a ≤ 70) : GM Ps nP sec sig G (q_si s a j v) := by
  refine g.kp (KP.si (by omega)) (fun _ => rfl) (fun _ => rfl) (fun i => ?_) (fun f _ => ?_) ?_
  · rw [q_I_si, if_neg (fun z => by have := z.1; omega)]
  · rw [q_F_si, if_neg (fun z => by have := z.1; omega)]
  · rw [q_F_si, if_neg (fun z => by have := z.1; omega), q_F_si, if_neg (fun z => by have := z.1; omega), q_F_si, if_neg (fun z => by have := z.1; omega)]
    exact g.1.2
theorem GM.sl (g : GM Ps nP sec sig G s) {a : Nat} {j : Int} {v : Int64} (h : 55 ≤ a ∧ a ≤ 70) : GM Ps nP sec sig G (q_sl s a j v) := by
  refine g.kp (KP.sl (by omega)) (fun i => ?_) (fun i => ?_) (fun i => rfl) (fun f _ => rfl) g.1.2
  · rw [q_L_sl, if_neg (fun z => by have := z.1; omega)]
  · rw [q_L_sl, if_neg (fun z => by have := z.1; omega)]
theorem GM.next (g : GM Ps nP sec sig G s) {v : Int} (v0 : 0 ≤ v) (v1 : v < 6144) : GM Ps nP sec sig G (q_sf s 38 36 v) := by
  refine g.kp (KP.sf (by decide)) (fun _ => rfl) (fun _ => rfl) (fun i => ?_) (fun f hf => ?_) ?_
  · rw [q_I_sf, if_neg (fun z => by have := z.1; omega)]
  · rw [q_F_sf, if_neg]
    simp only [List.mem_cons, List.not_mem_nil, or_false] at hf
    omega
  · simp only [q_F_sf]
    have := g.1.2.1
    simp
    exact ⟨this, v0, v1⟩
theorem GM.begun (g : GM Ps nP sec sig G s) : GM Ps nP sec sig (G_begun G) (q_sf s 38 46 (q_F s 38 46 + 1)) := by
  obtain ⟨g1, g2, g3, g4, g5, g6, g7, g8, g9, g10, g11, g12⟩ := g
  have hK : KP s (q_sf s 38 46 (q_F s 38 46 + 1)) := KP.sf (by decide)
  have hf : ∀ f : Nat, ¬ f = 46 → q_F (q_sf s 38 46 (q_F s 38 46 + 1)) 38 f = q_F s 38 f := fun f h => by rw [q_F_sf, if_neg (fun z => h z.2)]
  refine ⟨⟨(hf 8 (by decide)).trans g1.1, by rw [hf 47 (by decide), hf 22 (by decide), hf 36 (by decide)]; exact g1.2⟩, (hf 19 (by decide)).trans g2, fun k h0 h1 => (hK.mP k).trans (g3 k h0 h1), g4, g5, g6, fun j h0 h1 => ?_, (hf 20 (by decide)).trans g8, (hf 21 (by decide)).trans g9, (hf 18 (by decide)).trans g10, ?_, (hf 45 (by decide)).trans g12⟩
  · rw [q_I_sf, if_neg (fun z => by have := z.1; omega)]
    exact g7 j h0 h1
  · rw [q_F_sf, if_pos ⟨rfl, rfl⟩, g11]
    rfl
theorem GM.sid (g : GM Ps nP sec sig G s) {n : Int} : GM Ps nP sec sig (G_side G n) (q_sf s 38 45 (q_F s 38 45 + n)) := by
  obtain ⟨g1, g2, g3, g4, g5, g6, g7, g8, g9, g10, g11, g12⟩ := g
  have hK : KP s (q_sf s 38 45 (q_F s 38 45 + n)) := KP.sf (by decide)
  have hf : ∀ f : Nat, ¬ f = 45 → q_F (q_sf s 38 45 (q_F s 38 45 + n)) 38 f = q_F s 38 f := fun f h => by rw [q_F_sf, if_neg (fun z => h z.2)]
  refine ⟨⟨(hf 8 (by decide)).trans g1.1, by rw [hf 47 (by decide), hf 22 (by decide), hf 36 (by decide)]; exact g1.2⟩, (hf 19 (by decide)).trans g2, fun k h0 h1 => (hK.mP k).trans (g3 k h0 h1), g4, g5, g6, fun j h0 h1 => ?_, (hf 20 (by decide)).trans g8, (hf 21 (by decide)).trans g9, (hf 18 (by decide)).trans g10, (hf 46 (by decide)).trans g11, ?_⟩
  · rw [q_I_sf, if_neg (fun z => by have := z.1; omega)]
    exact g7 j h0 h1
  · rw [q_F_sf, if_pos ⟨rfl, rfl⟩, g12]
    rfl
theorem GM.out (g : GM Ps nP sec sig G s) {j : Int} {v : Int64} : GM Ps nP sec sig (G_setO G j v) (q_sl s 52 j v) := by
  obtain ⟨g1, g2, g3, g4, g5, g6, g7, g8, g9, g10, g11, g12⟩ := g
  have hK : KP s (q_sl s 52 j v) := KP.sl (by omega)
  refine ⟨g1, g2, fun k h0 h1 => (hK.mP k).trans (g3 k h0 h1), fun i h0 h1 => ?_, fun i h0 h1 => ?_, fun i h0 h1 => ?_, g7, g8, g9, g10, g11, g12⟩
  · rw [q_L_sl, if_neg (fun z => by have := z.1; omega)]
    exact g4 i h0 h1
  · rw [q_L_sl, if_neg (fun z => by have := z.1; omega)]
    exact g5 i h0 h1
  · rw [q_L_sl]
    show _ = upF (G_o G) j v i
    unfold upF
    by_cases e : i = j
    · rw [if_pos ⟨rfl, e⟩, if_pos e]
    · rw [if_neg (fun z => e z.2), if_neg e]
      exact g6 i h0 h1
theorem GM.val (g : GM Ps nP sec sig G s) {j : Int} {v : Int64} : GM Ps nP sec sig (G_setV G j v) (q_sl s 53 j v) := by
  obtain ⟨g1, g2, g3, g4, g5, g6, g7, g8, g9, g10, g11, g12⟩ := g
  have hK : KP s (q_sl s 53 j v) := KP.sl (by omega)
  refine ⟨g1, g2, fun k h0 h1 => (hK.mP k).trans (g3 k h0 h1), fun i h0 h1 => ?_, fun i h0 h1 => ?_, fun i h0 h1 => ?_, g7, g8, g9, g10, g11, g12⟩
  · rw [q_L_sl, if_neg (fun z => by have := z.1; omega)]
    exact g4 i h0 h1
  · rw [q_L_sl]
    show _ = upF (G_v G) j v i
    unfold upF
    by_cases e : i = j
    · rw [if_pos ⟨rfl, e⟩, if_pos e]
    · rw [if_neg (fun z => e z.2), if_neg e]
      exact g5 i h0 h1
  · rw [q_L_sl, if_neg (fun z => by have := z.1; omega)]
    exact g6 i h0 h1
theorem GM.nam (g : GM Ps nP sec sig G s) {j v : Int} : GM Ps nP sec sig (G_setN G j v) (q_si s 54 j v) := by
  obtain ⟨g1, g2, g3, g4, g5, g6, g7, g8, g9, g10, g11, g12⟩ := g
  have hK : KP s (q_si s 54 j v) := KP.si (by omega)
  have hf : ∀ f : Nat, q_F (q_si s 54 j v) 38 f = q_F s 38 f := fun f => by rw [q_F_si, if_neg (fun z => by have := z.1; omega)]
  refine ⟨⟨(hf 8).trans g1.1, by rw [hf 47, hf 22, hf 36]; exact g1.2⟩, (hf 19).trans g2, fun k h0 h1 => (hK.mP k).trans (g3 k h0 h1), g4, g5, g6, fun i h0 h1 => ?_, (hf 20).trans g8, (hf 21).trans g9, (hf 18).trans g10, (hf 46).trans g11, (hf 45).trans g12⟩
  rw [q_I_si]
  show _ = upF (G_n G) j v i
  unfold upF
  by_cases e : i = j
  · rw [if_pos ⟨rfl, e⟩, if_pos e]
  · rw [if_neg (fun z => e z.2), if_neg e]
    exact g7 i h0 h1
end GMS
/-- what the others see of a step -/
def ST (s s' : Q_S) (RX RB : List Int) : Prop := KP s s' ∧ SMX s s' RX ∧ SMB s s' RB
theorem ST.tr {s s1 s2 : Q_S} {RX RB : List Int} (h : ST s s1 RX RB) (g : ST s1 s2 RX RB) : ST s s2 RX RB := by
  refine ⟨h.1.tr g.1, fun x hx => ?_, fun b hb => ?_⟩
  · obtain ⟨a1, a2, a3, a4, a5, a6⟩ := h.2.1 x hx
    obtain ⟨b1, b2, b3, b4, b5, b6⟩ := g.2.1 x hx
    exact ⟨b1.trans a1, b2.trans a2, b3.trans a3, b4.trans a4, b5.trans a5, b6.trans a6⟩
  · obtain ⟨a1, a2, a3, a4, a5, a6, a7⟩ := h.2.2 b hb
    obtain ⟨b1, b2, b3, b4, b5, b6, b7⟩ := g.2.2 b hb
    exact ⟨b1.trans a1, b2.trans a2, b3.trans a3, b4.trans a4, b5.trans a5, b6.trans a6, b7.trans a7⟩
theorem ST.rf (s : Q_S) (RX RB : List Int) : ST s s RX RB := ⟨KP.rf s, fun _ _ => ⟨rfl, rfl, rfl, rfl, rfl, rfl⟩, fun _ _ => ⟨rfl, rfl, rfl, rfl, rfl, rfl, rfl⟩⟩
/-- nothing of the tree is touched -/
theorem ST.glob {s s' : Q_S} {RX RB : List Int} (hK : KP s s') (hI : ∀ a : Nat, 55 ≤ a → a ≤ 69 → ∀ j, q_I s' a j = q_I s a j ∧ q_L s' a j = q_L s a j) : ST s s' RX RB :=
  ⟨hK, fun x _ => ⟨(hI 55 (by omega) (by omega) x).1, (hI 56 (by omega) (by omega) x).1, (hI 57 (by omega) (by omega) x).1, (hI 59 (by omega) (by omega) x).1, (hI 60 (by omega) (by omega) x).1, (hI 58 (by omega) (by omega) x).2⟩,
    fun b _ => ⟨(hI 62 (by omega) (by omega) b).1, (hI 63 (by omega) (by omega) b).1, (hI 64 (by omega) (by omega) b).1, (hI 65 (by omega) (by omega) b).1, (hI 66 (by omega) (by omega) b).2, (hI 67 (by omega) (by omega) b).2, (hI 68 (by omega) (by omega) b).2⟩⟩
/-- a branch's own row is touched -/
theorem ST.sib {s : Q_S} {RX RB : List Int} {a : Nat} {b v : Int} (h : 62 ≤ a ∧ a ≤ 69) (hb : b ∉ RB) : ST s (q_si s a b v) RX RB := by
  refine ⟨KP.si (by omega), fun x _ => ?_, fun c hc => ?_⟩
  · simp only [q_I_si, q_L_si]
    refine ⟨if_neg ?_, if_neg ?_, if_neg ?_, if_neg ?_, if_neg ?_, trivial⟩ <;> (intro z; have := z.1; omega)
  · have : ¬ c = b := fun e => hb (e ▸ hc)
    simp [q_I_si, q_L_si, this]
theorem ST.slb {s : Q_S} {RX RB : List Int} {a : Nat} {b : Int} {v : Int64} (h : 62 ≤ a ∧ a ≤ 69) (hb : b ∉ RB) : ST s (q_sl s a b v) RX RB := by
  refine ⟨KP.sl (by omega), fun x _ => ?_, fun c hc => ?_⟩
  · simp only [q_I_sl, q_L_sl]
    refine ⟨trivial, trivial, trivial, trivial, trivial, if_neg ?_⟩
    intro z; have := z.1; omega
  · have : ¬ c = b := fun e => hb (e ▸ hc)
    simp [q_I_sl, q_L_sl, this]
/-- a frame of its own is touched -/
theorem ST.six {s : Q_S} {RX RB : List Int} {a : Nat} {x v : Int} (h : 55 ≤ a ∧ a ≤ 61) (hx : x ∉ RX) : ST s (q_si s a x v) RX RB := by
  refine ⟨KP.si (by omega), fun y hy => ?_, fun c _ => ?_⟩
  · have : ¬ y = x := fun e => hx (e ▸ hy)
    simp [q_I_si, q_L_si, this]
  · simp only [q_I_si, q_L_si]
    refine ⟨if_neg ?_, if_neg ?_, if_neg ?_, if_neg ?_, trivial, trivial, trivial⟩ <;> (intro z; have := z.1; omega)
theorem ST.slx {s : Q_S} {RX RB : List Int} {a : Nat} {x : Int} {v : Int64} (h : 55 ≤ a ∧ a ≤ 61) (hx : x ∉ RX) : ST s (q_sl s a x v) RX RB := by
  refine ⟨KP.sl (by omega), fun y hy => ?_, fun c _ => ?_⟩
  · have : ¬ y = x := fun e => hx (e ▸ hy)
    simp [q_I_sl, q_L_sl, this]
  · simp only [q_I_sl, q_L_sl]
    refine ⟨trivial, trivial, trivial, trivial, if_neg ?_, if_neg ?_, if_neg ?_⟩ <;> (intro z; have := z.1; omega)
theorem ST.sf {s : Q_S} {RX RB : List Int} {f : Nat} {v : Int} (h : f ∉ [0, 1, 8, 16, 17, 19, 49, 50]) : ST s (q_sf s 38 f v) RX RB := ST.glob (KP.sf h) (fun a h0 h1 j => ⟨by rw [q_I_sf, if_neg (fun z => by have := z.1; omega)], rfl⟩)
section RSS
variable {Ps : Int → PT} {nP sec : Int} {sig : Int → Int64} {G G' : GT} {s s' : Q_S} {base u b : Int} {c : CT} {xs RX RB : List Int}
/-- nothing of the tree is touched, the numbers are -/
theorem RS.glob (h : RS Ps nP sec sig s G base u b c xs RX RB) (hK : KP s s') (hG : GM Ps nP sec sig G' s') (hpg : G_pg G' = G_pg G) (hI : ∀ a : Nat, 55 ≤ a → a ≤ 69 → ∀ j, q_I s' a j = q_I s a j ∧ q_L s' a j = q_L s a j) (hf : q_F s' 38 47 = q_F s 38 47) (hn : q_F s' 38 36 = q_F s 38 36) : RS Ps nP sec sig s' G' base u b c xs RX RB := by
  obtain ⟨h1, h2, ⟨b1, b2, b3, b4, b5, b6⟩, h4, h5, h6, h7, h8, h9, h10, h11, h12⟩ := h
  have i := fun a h0 h1 j => (hI a h0 h1 j).1
  have l := fun a h0 h1 j => (hI a h0 h1 j).2
  refine ⟨hK.sh h1, hG, ⟨b1, b2, (i 62 (by omega) (by omega) b).trans b3, (i 63 (by omega) (by omega) b).trans b4, fun hm => ?_, ?_⟩, fun x hx => (i 59 (by omega) (by omega) x).trans (h4 x hx), h5, ⟨fun x h0 h1 => ?_, fun x h0 h1 => ?_⟩, h7, ⟨fun x h0 h1 => ?_, fun x h0 h1 => ?_⟩, ?_, h10, hf.trans h11, by rw [hn]; exact h12⟩
  · obtain ⟨d1, d2, d3⟩ := b5 hm
    refine ⟨(i 65 (by omega) (by omega) b).trans d1, (l 66 (by omega) (by omega) b).trans d2, fun hw => ?_⟩
    rw [hpg] at hw
    exact ⟨(l 67 (by omega) (by omega) b).trans (d3 hw).1, (l 68 (by omega) (by omega) b).trans (d3 hw).2⟩
  · rw [i 64 (by omega) (by omega) b]
    exact rpS_same _ _ _ (fun y _ => ⟨i 55 (by omega) (by omega) y, i 56 (by omega) (by omega) y, i 57 (by omega) (by omega) y, l 58 (by omega) (by omega) y⟩) b6
  · rw [i 61 (by omega) (by omega) x]; exact h6.1 x h0 h1
  · rw [i 61 (by omega) (by omega) x]; exact h6.2 x h0 h1
  · rw [i 69 (by omega) (by omega) x]; exact h8.1 x h0 h1
  · rw [i 69 (by omega) (by omega) x]; exact h8.2 x h0 h1
  · unfold UD
    rw [i 57 (by omega) (by omega) u]
    exact h9
theorem RS.go (h : RS Ps nP sec sig s G base u b c xs RX RB) {how p : Int} {d : DT} (hd : how = 1 → q_I s 65 b = d.1 ∧ q_L s 66 b = d.2.1 ∧ (P_w (Ps (G_pg G)) p = 13 → q_L s 67 b = d.2.2.1 ∧ q_L s 68 b = d.2.2.2)) : RS Ps nP sec sig (m_go s b how p) G base u b (how, p, d, c.2.2.2) xs RX RB ∧ ST s (m_go s b how p) RX RB := by
  obtain ⟨h1, h2, ⟨b1, b2, b3, b4, b5, b6⟩, h4, h5, h6, h7, h8, h9, h10, h11, h12⟩ := h
  have hb : b ∉ RB := (List.nodup_cons.mp h7).1
  have hst : ST s (m_go s b how p) RX RB := (ST.sib (by omega) hb).tr (ST.sib (by omega) hb)
  refine ⟨⟨hst.1.sh h1, (h2.si (by omega)).si (by omega), ⟨b1, b2, ?_, ?_, fun hm => ?_, ?_⟩, fun x hx => ?_, h5, ⟨fun x h0 h1 => ?_, fun x h0 h1 => ?_⟩, h7, ⟨fun x h0 h1 => ?_, fun x h0 h1 => ?_⟩, ?_, h10, ?_, ?_⟩, hst⟩
  · simp [m_go, q_I_si]
  · simp [m_go, q_I_si]
  · have := hd hm
    simpa [m_go, q_I_si, q_L_si] using this
  · rw [show q_I (m_go s b how p) 64 b = q_I s 64 b by simp [m_go, q_I_si]]
    exact rpS_same _ _ _ (fun y _ => by simp [m_go, q_I_si, q_L_si]) b6
  · rw [show q_I (m_go s b how p) 59 x = q_I s 59 x by simp [m_go, q_I_si]]; exact h4 x hx
  · rw [show q_I (m_go s b how p) 61 x = q_I s 61 x by simp [m_go, q_I_si]]; exact h6.1 x h0 h1
  · rw [show q_I (m_go s b how p) 61 x = q_I s 61 x by simp [m_go, q_I_si]]; exact h6.2 x h0 h1
  · rw [show q_I (m_go s b how p) 69 x = q_I s 69 x by simp [m_go, q_I_si]]; exact h8.1 x h0 h1
  · rw [show q_I (m_go s b how p) 69 x = q_I s 69 x by simp [m_go, q_I_si]]; exact h8.2 x h0 h1
  · unfold UD
    rw [show q_I (m_go s b how p) 57 u = q_I s 57 u by simp [m_go, q_I_si]]
    exact h9
  · rw [show q_F (m_go s b how p) 38 47 = q_F s 38 47 by simp [m_go, q_F_si]]; exact h11
  · rw [show q_F (m_go s b how p) 38 36 = q_F s 38 36 by simp [m_go, q_F_si]]; exact h12
end RSS
