/-! side -/
def m_sid (s : Q_S) (b x b1 b2 o1 o2 : Int) : Q_S := q_si (q_si (m_brn (q_si (m_brn (q_sf s 38 45 (q_F s 38 45 + 1)) b1 x o1) 59 x b1) b2 x o2) 60 x b2) 62 b 4
section RSD
variable {o : X_O} {Ps : Int → PT} {szs : Int → Int → Int} {nP sec : Int} {sig : Int → Int64} {G : GT} {s : Q_S} {P : PT} {base u b : Int} {m p : Int} {d : DT} {st : List FR} {xs RX RB : List Int} {k : Nat}
theorem ST.brn {b1 x q : Int} (hb : b1 ∉ RB) : ST s (m_brn s b1 x q) RX RB := (((ST.sib (by omega) hb).tr (ST.sib (by omega) hb)).tr (ST.sib (by omega) hb)).tr (ST.sib (by omega) hb)
theorem GM.brn {b1 x q : Int} (h : GM Ps nP sec sig G s) : GM Ps nP sec sig G (m_brn s b1 x q) := (((h.si (by omega)).si (by omega)).si (by omega)).si (by omega)
set_option maxHeartbeats 2000000 in
theorem RS.side {f : FR} {x b1 b2 o1 o2 : Int} (h : RS Ps nP sec sig s G base u b (m, p, d, f :: st) (x :: xs) RX RB) (c1 : 0 ≤ b1) (c2 : b1 < 104) (c3 : q_I s 69 b1 = 0) (e1 : 0 ≤ b2) (e2 : b2 < 104) (e3 : q_I (q_si (m_brn (q_sf s 38 45 (q_F s 38 45 + 1)) b1 x o1) 59 x b1) 69 b2 = 0) :
    RF Ps nP sec sig (m_sid s b x b1 b2 o1 o2) (G_side G 1) (k + 2) base u (4, p, d, f :: st, some (newB k o1, newB k o2)) (b, x :: xs, some ((b1, [], none), (b2, [], none))) RX RB ∧ ST s (m_sid s b x b1 b2 o1 o2) RX RB := by
  obtain ⟨h1, h2, ⟨a1, a2, a3, a4, a5, a6⟩, h4, h5, h6, h7, h8, h9, h10, h11, h12⟩ := h
  obtain ⟨q, a⟩ := f
  obtain ⟨y1, y2, y3, y4, y5, y6, y7, y8⟩ := a6
  have hb := List.nodup_cons.mp h7
  have hu1 : b1 ∉ b :: RB := fun z => by have := (h8.2 b1 c1 c2).mpr z; omega
  have n1 : ¬ b1 = b := fun z => hu1 (by rw [z]; exact List.mem_cons_self)
  have n1r : b1 ∉ RB := fun z => hu1 (List.mem_cons_of_mem _ z)
  have n21 : ¬ b2 = b1 := fun z => by
    subst z
    simp [m_brn, q_I_si, q_I_sf] at e3
  have e4 : q_I s 69 b2 = 0 := by
    simpa [m_brn, q_I_si, q_I_sf, n21] using e3
  have hu2 : b2 ∉ b :: RB := fun z => by have := (h8.2 b2 e1 e2).mpr z; omega
  have n2 : ¬ b2 = b := fun z => hu2 (by rw [z]; exact List.mem_cons_self)
  have n2r : b2 ∉ RB := fun z => hu2 (List.mem_cons_of_mem _ z)
  have h5' := h5
  rw [List.cons_append, List.nodup_cons] at h5
  have hxs : x ∉ xs := fun z => h5.1 (List.mem_append_left _ z)
  have hxr : x ∉ RX := fun z => h5.1 (List.mem_append_right _ z)
  have hst : ST s (m_sid s b x b1 b2 o1 o2) RX RB := by
    refine ST.tr (ST.sf (f := 45) (v := q_F s 38 45 + 1) (by decide)) ?_
    refine ST.tr (ST.brn (b1 := b1) (x := x) (q := o1) n1r) ?_
    refine ST.tr (ST.six (a := 59) (x := x) (v := b1) (by omega) hxr) ?_
    refine ST.tr (ST.brn (b1 := b2) (x := x) (q := o2) n2r) ?_
    refine ST.tr (ST.six (a := 60) (x := x) (v := b2) (by omega) hxr) ?_
    exact ST.sib (by omega) hb.1
  have hG : GM Ps nP sec sig (G_side G 1) (m_sid s b x b1 b2 o1 o2) := ((((GM.brn ((GM.brn h2.sid).si (by omega))).si (by omega)).si (by omega)))
  have n1' : ¬ b = b1 := fun z => n1 z.symm
  have n2' : ¬ b = b2 := fun z => n2 z.symm
  have n21' : ¬ b1 = b2 := fun z => n21 z.symm
  have r55 : ∀ y, q_I (m_sid s b x b1 b2 o1 o2) 55 y = q_I s 55 y := fun y => by simp [m_sid, m_brn, q_I_si, q_I_sf]
  have r56 : ∀ y, q_I (m_sid s b x b1 b2 o1 o2) 56 y = q_I s 56 y := fun y => by simp [m_sid, m_brn, q_I_si, q_I_sf]
  have r57 : ∀ y, q_I (m_sid s b x b1 b2 o1 o2) 57 y = q_I s 57 y := fun y => by simp [m_sid, m_brn, q_I_si, q_I_sf]
  have r58 : ∀ y, q_L (m_sid s b x b1 b2 o1 o2) 58 y = q_L s 58 y := fun y => rfl
  have r61 : ∀ y, q_I (m_sid s b x b1 b2 o1 o2) 61 y = q_I s 61 y := fun y => by simp [m_sid, m_brn, q_I_si, q_I_sf]
  have r64 : q_I (m_sid s b x b1 b2 o1 o2) 64 b = q_I s 64 b := by simp [m_sid, m_brn, q_I_si, q_I_sf, n1', n2']
  refine ⟨⟨hst.1.sh h1, hG, ⟨⟨a1, a2, ?_, ?_, fun z => absurd z (by simp), ?_⟩, rfl, x, xs, rfl, ?_, ?_, fun y hy => ?_, ⟨⟨c1, c2, ?_, ?_, fun z => absurd z (by simp), ?_⟩, by decide, fun y hy => (by cases hy)⟩, ⟨⟨e1, e2, ?_, ?_, fun z => absurd z (by simp), ?_⟩, by decide, fun y hy => (by cases hy)⟩⟩, ?_, ⟨fun y z0 z1 => ?_, fun y z0 z1 => ?_⟩, ?_, ⟨fun y z0 z1 => ?_, fun y z0 z1 => ?_⟩, ?_, h10, ?_, ?_⟩, hst⟩
  · simp [m_sid, q_I_si]
  · have : q_I s 63 b = p := a4
    simp [m_sid, m_brn, q_I_si, q_I_sf, n1', n2', this]
  · show rpS _ base u ((q, a) :: st) (x :: xs) _
    rw [r64]
    exact rpS_same _ _ _ (fun y _ => ⟨r55 y, r56 y, r57 y, r58 y⟩) ⟨y1, y2, y3, y4, y5, y6, y7, y8⟩
  · simp [m_sid, m_brn, q_I_si, q_I_sf, itB]
  · simp [m_sid, m_brn, q_I_si, q_I_sf, itB]
  · have : ¬ y = x := fun z => hxs (z ▸ hy)
    rw [show q_I (m_sid s b x b1 b2 o1 o2) 59 y = q_I s 59 y by simp [m_sid, m_brn, q_I_si, q_I_sf, this]]
    exact h4 y (List.mem_cons_of_mem _ hy)
  · simp [m_sid, m_brn, q_I_si, q_I_sf, n1, n21']
  · simp [m_sid, m_brn, q_I_si, q_I_sf, n1, n21']
  · show q_I (m_sid s b x b1 b2 o1 o2) 64 b1 = x
    simp [m_sid, m_brn, q_I_si, q_I_sf, n1, n21']
  · simp [m_sid, m_brn, q_I_si, q_I_sf, n2]
  · simp [m_sid, m_brn, q_I_si, q_I_sf, n2]
  · show q_I (m_sid s b x b1 b2 o1 o2) 64 b2 = x
    simp [m_sid, m_brn, q_I_si, q_I_sf, n2]
  · simpa [fxI] using h5'
  · rw [r61 y]; exact h6.1 y z0 z1
  · rw [r61 y, h6.2 y z0 z1]
    simp [fxI]
  · simp [fbI, n1', n2', n21', hb.1, hb.2, n1r, n2r]
  · by_cases k1 : y = b1
    · subst k1
      exact Or.inr (by simp [m_sid, m_brn, q_I_si, q_I_sf])
    · by_cases k2 : y = b2
      · subst k2
        exact Or.inr (by simp [m_sid, m_brn, q_I_si, q_I_sf])
      · rw [show q_I (m_sid s b x b1 b2 o1 o2) 69 y = q_I s 69 y by simp [m_sid, m_brn, q_I_si, q_I_sf, k1, k2]]
        exact h8.1 y z0 z1
  · by_cases k1 : y = b1
    · subst k1
      simp [m_sid, m_brn, q_I_si, q_I_sf, fbI]
    · by_cases k2 : y = b2
      · subst k2
        simp [m_sid, m_brn, q_I_si, q_I_sf, fbI]
      · rw [show q_I (m_sid s b x b1 b2 o1 o2) 69 y = q_I s 69 y by simp [m_sid, m_brn, q_I_si, q_I_sf, k1, k2], h8.2 y z0 z1]
        simp [fbI, k1, k2]
  · unfold UD
    rw [r57 u]
    exact h9
  · rw [show q_F (m_sid s b x b1 b2 o1 o2) 38 47 = q_F s 38 47 by simp [m_sid, m_brn, q_F_si, q_F_sf]]; exact h11
  · rw [show q_F (m_sid s b x b1 b2 o1 o2) 38 36 = q_F s 38 36 by simp [m_sid, m_brn, q_F_si, q_F_sf]]; exact h12
end RSD
