/-! a side is over on both its sides -/
def m_cls (s : Q_S) (b1 b2 : Int) : Q_S := q_sf (q_si (q_si s 69 b1 0) 69 b2 0) 38 45 (q_F (q_si (q_si s 69 b1 0) 69 b2 0) 38 45 - 1)
section RC
variable {Ps : Int → PT} {nP sec : Int} {sig : Int → Int64} {G : GT} {s : Q_S} {base u b x : Int} {m p : Int} {d : DT} {st : List FR} {ys RX RB : List Int} {k : Nat}
theorem pop_core {f : FR} (h1 : SH s) (h2 : GM Ps nP sec sig G s) (hB : rpB s (Ps (G_pg G)) base u b (m, p, d, f :: st) (x :: ys)) (h4 : ∀ y ∈ ys, q_I s 59 y = -1) (h5 : (x :: ys ++ RX).Nodup) (h6 : US s (x :: ys ++ RX)) (h7 : (b :: RB).Nodup) (h8 : UB s (b :: RB)) (h9 : UD s u base) (h10 : u = -1 ∨ u ∈ RX) (h11 : q_F s 38 47 = 0) (h12 : 0 ≤ q_F s 38 36 ∧ q_F s 38 36 < 6144) :
    RS Ps nP sec sig (m_pop s b) G base u b (m, p, d, st) ys RX RB ∧ ST s (m_pop s b) RX RB ∧ q_I s 64 b = x ∧ 0 ≤ x ∧ x < 6144 ∧ q_I s 55 x = f.1 := by
  obtain ⟨b1, b2, b3, b4, b5, b6⟩ := hB
  obtain ⟨q, a⟩ := f
  have hb : b ∉ RB := (List.nodup_cons.mp h7).1
  obtain ⟨e1, e2, e3, e4, e5, e6, e7, e8⟩ := b6
  rw [List.cons_append, List.nodup_cons] at h5
  have hxs : x ∉ ys := fun z => h5.1 (List.mem_append_left _ z)
  have hxr : x ∉ RX := fun z => h5.1 (List.mem_append_right _ z)
  have hp : m_pop s b = q_si (q_si s 61 x 0) 64 b (q_I s 56 x) := by unfold m_pop; rw [e1]
  rw [hp]
  have hst : ST s (q_si (q_si s 61 x 0) 64 b (q_I s 56 x)) RX RB := (ST.six (by omega) hxr).tr (ST.sib (by omega) hb)
  refine ⟨⟨hst.1.sh h1, (h2.si (by omega)).si (by omega), ⟨b1, b2, ?_, ?_, fun hm => ?_, ?_⟩, fun y hy => ?_, h5.2, ⟨fun y h0 h1 => ?_, fun y h0 h1 => ?_⟩, h7, ⟨fun y h0 h1 => ?_, fun y h0 h1 => ?_⟩, ?_, h10, ?_, ?_⟩, hst, e1, e2, e3, e5⟩
  · simpa [q_I_si] using b3
  · simpa [q_I_si] using b4
  · have := b5 hm
    simpa [q_I_si, q_L_si] using this
  · rw [show q_I (q_si (q_si s 61 x 0) 64 b (q_I s 56 x)) 64 b = q_I s 56 x by simp [q_I_si]]
    exact rpS_same _ _ _ (fun y hy => by simp [q_I_si, q_L_si]) e8
  · rw [show q_I (q_si (q_si s 61 x 0) 64 b (q_I s 56 x)) 59 y = q_I s 59 y by simp [q_I_si]]
    exact h4 y hy
  · by_cases e : y = x
    · subst e
      exact Or.inl (by simp [q_I_si])
    · rw [show q_I (q_si (q_si s 61 x 0) 64 b (q_I s 56 x)) 61 y = q_I s 61 y by simp [q_I_si, e]]
      exact h6.1 y h0 h1
  · by_cases e : y = x
    · subst e
      rw [show q_I (q_si (q_si s 61 y 0) 64 b (q_I s 56 y)) 61 y = 0 by simp [q_I_si]]
      exact ⟨fun z => by omega, fun z => absurd z h5.1⟩
    · rw [show q_I (q_si (q_si s 61 x 0) 64 b (q_I s 56 x)) 61 y = q_I s 61 y by simp [q_I_si, e], h6.2 y h0 h1]
      simp [e]
  · rw [show q_I (q_si (q_si s 61 x 0) 64 b (q_I s 56 x)) 69 y = q_I s 69 y by simp [q_I_si]]; exact h8.1 y h0 h1
  · rw [show q_I (q_si (q_si s 61 x 0) 64 b (q_I s 56 x)) 69 y = q_I s 69 y by simp [q_I_si]]; exact h8.2 y h0 h1
  · unfold UD
    rw [show q_I (q_si (q_si s 61 x 0) 64 b (q_I s 56 x)) 57 u = q_I s 57 u by simp [q_I_si]]
    exact h9
  · rw [show q_F (q_si (q_si s 61 x 0) 64 b (q_I s 56 x)) 38 47 = q_F s 38 47 by simp [q_F_si]]; exact h11
  · rw [show q_F (q_si (q_si s 61 x 0) 64 b (q_I s 56 x)) 38 36 = q_F s 38 36 by simp [q_F_si]]; exact h12
/-- a branch that is over has one number and no frame -/
theorem RM_over {P : PT} {sz : Int → Int} {ph : Int} {side : Option Int} {t : BT (k + 1)} {it : IT (k + 1)} (hv : VT P sz sec ph (k + 1) side base t) (hm : modeB (k + 1) t = 0) (h : RM s P (k + 1) base u t it) : ∃ b1, it = (b1, [], none) ∧ 0 ≤ b1 ∧ b1 < 104 := by
  obtain ⟨m, p, d, st, sub⟩ := t
  obtain ⟨b, xs, isub⟩ := it
  have m0 : m = 0 := hm
  obtain ⟨⟨b1, b2, b3, b4, b5, b6⟩, h2⟩ := h
  have hst : st = [] := by
    rcases hv.1.2.2.2.2 with z | z | z
    · exact z.2
    · have : m = 1 ∨ m = 2 ∨ m = 3 := z.1; omega
    · have : m = 4 := z.1; omega
  subst hst
  cases sub with
  | some lr => have := hv.2.1; omega
  | none =>
    cases isub with
    | some _ => exact h2.elim
    | none =>
      cases xs with
      | nil => exact ⟨b, rfl, b1, b2⟩
      | cons y ys => exact b6.elim
theorem RF.close {f : FR} {b1 b2 : Int} {l r : BT (k + 1)} (h : RF Ps nP sec sig s G (k + 2) base u (4, p, d, f :: st, some (l, r)) (b, x :: ys, some ((b1, [], none), (b2, [], none))) RX RB) (c1 : 0 ≤ b1 ∧ b1 < 104) (c2 : 0 ≤ b2 ∧ b2 < 104) :
    RS Ps nP sec sig (m_pop (m_cls s b1 b2) b) (G_side G (-1)) base u b (4, p, d, st) ys RX RB ∧ ST s (m_pop (m_cls s b1 b2) b) RX RB ∧ q_I (m_cls s b1 b2) 64 b = x ∧ 0 ≤ x ∧ x < 6144 ∧ q_I (m_cls s b1 b2) 55 x = f.1 := by
  obtain ⟨h1, h2, ⟨hB, _, x', ys', e, g3, g4, g5, g6, g7⟩, h4, h5, h6, h7, h8, h9, h10⟩ := h
  cases e
  have hnd : (b :: b1 :: b2 :: RB).Nodup := by simpa [fbI] using h6
  have hub : UB s (b :: b1 :: b2 :: RB) := by simpa [fbI] using h7
  have hxn : (x :: ys ++ RX).Nodup := by simpa [fxI] using h4
  have hus : US s (x :: ys ++ RX) := by simpa [fxI] using h5
  simp only [List.nodup_cons, List.mem_cons, not_or] at hnd
  obtain ⟨⟨n1, n2, n3⟩, ⟨n4, n5⟩, n6, n7⟩ := hnd
  have r69 : ∀ y, q_I (m_cls s b1 b2) 69 y = if y = b2 then 0 else if y = b1 then 0 else q_I s 69 y := fun y => by
    simp only [m_cls, q_I_sf, q_I_si]
    simp
  have rI : ∀ a : Nat, 55 ≤ a → a ≤ 68 → ∀ j, q_I (m_cls s b1 b2) a j = q_I s a j := fun a h0 h1 j => by
    simp only [m_cls, q_I_sf, q_I_si]
    rw [if_neg (by omega), if_neg (by omega), if_neg (by omega)]
  have rL : ∀ a j, q_L (m_cls s b1 b2) a j = q_L s a j := fun a j => rfl
  have hst : ST s (m_cls s b1 b2) RX RB := ((ST.sib (by omega) n5).tr (ST.sib (by omega) n6)).tr (ST.sf (by decide))
  have hG : GM Ps nP sec sig (G_side G (-1)) (m_cls s b1 b2) := ((h2.si (by omega)).si (by omega)).sid
  have hf47 : q_F (m_cls s b1 b2) 38 47 = q_F s 38 47 := by simp [m_cls, q_F_sf, q_F_si]
  have hf36 : q_F (m_cls s b1 b2) 38 36 = q_F s 38 36 := by simp [m_cls, q_F_sf, q_F_si]
  have hB' : rpB (m_cls s b1 b2) (Ps (G_pg (G_side G (-1)))) base u b (4, p, d, f :: st) (x :: ys) := by
    refine rpB_same hB (fun y _ => ⟨rI 55 (by omega) (by omega) y, rI 56 (by omega) (by omega) y, rI 57 (by omega) (by omega) y, rI 59 (by omega) (by omega) y, rI 60 (by omega) (by omega) y, rfl⟩) (fun y _ => ⟨rI 62 (by omega) (by omega) y, rI 63 (by omega) (by omega) y, rI 64 (by omega) (by omega) y, rI 65 (by omega) (by omega) y, rfl, rfl, rfl⟩)
  obtain ⟨r1, t1, z1, z2, z3, z4⟩ := pop_core (RX := RX) (RB := RB) (hst.1.sh h1) hG hB' (fun y hy => by rw [rI 59 (by omega) (by omega)]; exact g5 y hy) hxn ⟨fun y a0 a1 => by rw [rI 61 (by omega) (by omega)]; exact hus.1 y a0 a1, fun y a0 a1 => by rw [rI 61 (by omega) (by omega)]; exact hus.2 y a0 a1⟩ (List.nodup_cons.mpr ⟨n3, n7⟩)
    ⟨fun y a0 a1 => by
        rw [r69]
        split
        · exact Or.inl rfl
        · split
          · exact Or.inl rfl
          · exact hub.1 y a0 a1, fun y a0 a1 => by
        rw [r69]
        by_cases k2 : y = b2
        · rw [if_pos k2]
          subst k2
          simp only [List.mem_cons]
          exact ⟨fun z => by omega, fun z => by rcases z with z | z; exact absurd z.symm n2; exact absurd z n6⟩
        · rw [if_neg k2]
          by_cases k1 : y = b1
          · rw [if_pos k1]
            subst k1
            simp only [List.mem_cons]
            exact ⟨fun z => by omega, fun z => by rcases z with z | z; exact absurd z.symm n1; exact absurd z n5⟩
          · rw [if_neg k1, hub.2 y a0 a1]
            simp [k1, k2]⟩ (by unfold UD; rw [rI 57 (by omega) (by omega)]; exact h8) h9 (by rw [hf47]; exact h10.1) (by rw [hf36]; exact h10.2)
  exact ⟨r1, hst.tr t1, z1, z2, z3, z4⟩
end RC
