/-! FRAMES PUSHED, POPPED, COUNTED -/
def m_pop (s : Q_S) (b : Int) : Q_S := q_si (q_si s 61 (q_I s 64 b) 0) 64 b (q_I s 56 (q_I s 64 b))
section RST
variable {Ps : Int → PT} {nP sec : Int} {sig : Int → Int64} {G G' : GT} {s s' : Q_S} {base u b : Int} {m p d st} {xs RX RB : List Int}
theorem RS.psh {q x : Int} (h : RS Ps nP sec sig s G base u b (m, p, d, st) xs RX RB) (x0 : 0 ≤ x) (x1 : x < 6144) (hx : q_I s 61 x = 0) : RS Ps nP sec sig (m_psh s b q x) G base u b (m, p, d, (q, 0) :: st) (x :: xs) RX RB ∧ ST s (m_psh s b q x) RX RB := by
  obtain ⟨h1, h2, ⟨b1, b2, b3, b4, b5, b6⟩, h4, h5, h6, h7, h8, h9, h10, h11, h12⟩ := h
  have hb : b ∉ RB := (List.nodup_cons.mp h7).1
  have hm : x ∉ xs ++ RX := fun z => by have := (h6.2 x x0 x1).mpr z; omega
  have hxs : x ∉ xs := fun z => hm (List.mem_append_left _ z)
  have hxr : x ∉ RX := fun z => hm (List.mem_append_right _ z)
  have hxu : ¬ x = u := fun e => by
    rcases h10 with z | z
    · omega
    · exact hxr (e ▸ z)
  have hst : ST s (m_psh s b q x) RX RB := by
    refine ST.tr (ST.sf (f := 36) (v := x) (by decide)) ?_
    refine ST.tr (ST.six (a := 61) (x := x) (v := 1) (by omega) hxr) ?_
    refine ST.tr (ST.six (a := 55) (x := x) (v := q) (by omega) hxr) ?_
    refine ST.tr (ST.six (a := 56) (x := x) (v := q_I s 64 b) (by omega) hxr) ?_
    refine ST.tr (ST.six (a := 57) (x := x) (v := dpth s (q_I s 64 b) + 1) (by omega) hxr) ?_
    refine ST.tr (ST.slx (a := 58) (x := x) (v := 0) (by omega) hxr) ?_
    refine ST.tr (ST.six (a := 59) (x := x) (v := -1) (by omega) hxr) ?_
    refine ST.tr (ST.six (a := 60) (x := x) (v := -1) (by omega) hxr) ?_
    exact ST.sib (by omega) hb
  have hG : GM Ps nP sec sig G (m_psh s b q x) := by
    unfold m_psh
    exact (((((((((h2.next x0 x1).si (by omega)).si (by omega)).si (by omega)).si (by omega)).sl (by omega)).si (by omega)).si (by omega)).si (by omega))
  obtain ⟨t1, t2, t3⟩ := rpS_top h9 b6
  refine ⟨⟨hst.1.sh h1, hG, ⟨b1, b2, ?_, ?_, fun hm => ?_, ?_⟩, fun y hy => ?_, ?_, ⟨fun y h0 h1 => ?_, fun y h0 h1 => ?_⟩, h7, ⟨fun y h0 h1 => ?_, fun y h0 h1 => ?_⟩, ?_, h10, ?_, ?_⟩, hst⟩
  · simp only [m_psh, q_I_si, q_I_sl, q_I_sf]; simpa using b3
  · simp only [m_psh, q_I_si, q_I_sl, q_I_sf]; simpa using b4
  · have := b5 hm
    simpa [m_psh, q_I_si, q_L_si, q_I_sl, q_L_sl, q_I_sf, q_L_sf] using this
  · rw [show q_I (m_psh s b q x) 64 b = x by simp [m_psh, q_I_si]]
    refine ⟨rfl, x0, x1, hxu, ?_, ?_, ?_, ?_⟩
    · simp [m_psh, q_I_si, q_I_sl, q_I_sf]
    · simp only [m_psh, q_I_si, q_I_sl, q_I_sf]
      simp [t1]
    · simp [m_psh, q_L_si, q_L_sl]
    · rw [show q_I (m_psh s b q x) 56 x = q_I s 64 b by simp [m_psh, q_I_si, q_I_sl, q_I_sf]]
      refine rpS_same _ _ _ (fun y hy => ?_) b6
      have : ¬ y = x := fun e => hxs (e ▸ hy)
      simp [m_psh, q_I_si, q_L_si, q_I_sl, q_L_sl, q_I_sf, q_L_sf, this]
  · rcases List.mem_cons.mp hy with e | e
    · subst e
      simp [m_psh, q_I_si]
    · have : ¬ y = x := fun z => hxs (z ▸ e)
      rw [show q_I (m_psh s b q x) 59 y = q_I s 59 y by simp [m_psh, q_I_si, q_I_sl, q_I_sf, this]]
      exact h4 y e
  · exact List.nodup_cons.mpr ⟨hm, h5⟩
  · by_cases e : y = x
    · subst e
      exact Or.inr (by simp [m_psh, q_I_si, q_I_sl, q_I_sf])
    · rw [show q_I (m_psh s b q x) 61 y = q_I s 61 y by simp [m_psh, q_I_si, q_I_sl, q_I_sf, e]]
      exact h6.1 y h0 h1
  · by_cases e : y = x
    · subst e
      simp [m_psh, q_I_si, q_I_sl, q_I_sf]
    · rw [show q_I (m_psh s b q x) 61 y = q_I s 61 y by simp [m_psh, q_I_si, q_I_sl, q_I_sf, e], h6.2 y h0 h1]
      simp [e]
  · rw [show q_I (m_psh s b q x) 69 y = q_I s 69 y by simp [m_psh, q_I_si, q_I_sl, q_I_sf]]; exact h8.1 y h0 h1
  · rw [show q_I (m_psh s b q x) 69 y = q_I s 69 y by simp [m_psh, q_I_si, q_I_sl, q_I_sf]]; exact h8.2 y h0 h1
  · rcases h9 with h9 | h9
    · exact Or.inl h9
    · refine Or.inr ⟨h9.1, h9.2.1, ?_⟩
      have : ¬ u = x := fun e => hxu e.symm
      rw [show q_I (m_psh s b q x) 57 u = q_I s 57 u by simp [m_psh, q_I_si, q_I_sl, q_I_sf, this]]
      exact h9.2.2
  · rw [show q_F (m_psh s b q x) 38 47 = q_F s 38 47 by simp [m_psh, q_F_si, q_F_sl, q_F_sf]]; exact h11
  · rw [show q_F (m_psh s b q x) 38 36 = x by simp [m_psh, q_F_si, q_F_sl, q_F_sf]]; exact ⟨x0, x1⟩
theorem RS.pop {f : FR} {x : Int} (h : RS Ps nP sec sig s G base u b (m, p, d, f :: st) (x :: xs) RX RB) : RS Ps nP sec sig (m_pop s b) G base u b (m, p, d, st) xs RX RB ∧ ST s (m_pop s b) RX RB ∧ q_I s 64 b = x ∧ 0 ≤ x ∧ x < 6144 ∧ q_I s 55 x = f.1 ∧ q_L s 58 x = f.2 := by
  obtain ⟨h1, h2, ⟨b1, b2, b3, b4, b5, b6⟩, h4, h5, h6, h7, h8, h9, h10, h11, h12⟩ := h
  obtain ⟨q, a⟩ := f
  have hb : b ∉ RB := (List.nodup_cons.mp h7).1
  obtain ⟨e1, e2, e3, e4, e5, e6, e7, e8⟩ := b6
  rw [List.cons_append, List.nodup_cons] at h5
  have hxs : x ∉ xs := fun z => h5.1 (List.mem_append_left _ z)
  have hxr : x ∉ RX := fun z => h5.1 (List.mem_append_right _ z)
  have hp : m_pop s b = q_si (q_si s 61 x 0) 64 b (q_I s 56 x) := by unfold m_pop; rw [e1]
  rw [hp]
  have hst : ST s (q_si (q_si s 61 x 0) 64 b (q_I s 56 x)) RX RB := (ST.six (by omega) hxr).tr (ST.sib (by omega) hb)
  refine ⟨⟨hst.1.sh h1, (h2.si (by omega)).si (by omega), ⟨b1, b2, ?_, ?_, fun hm => ?_, ?_⟩, fun y hy => ?_, h5.2, ⟨fun y h0 h1 => ?_, fun y h0 h1 => ?_⟩, h7, ⟨fun y h0 h1 => ?_, fun y h0 h1 => ?_⟩, ?_, h10, ?_, ?_⟩, hst, e1, e2, e3, e5, e7⟩
  · simpa [q_I_si] using b3
  · simpa [q_I_si] using b4
  · have := b5 hm
    simpa [q_I_si, q_L_si] using this
  · rw [show q_I (q_si (q_si s 61 x 0) 64 b (q_I s 56 x)) 64 b = q_I s 56 x by simp [q_I_si]]
    exact rpS_same _ _ _ (fun y hy => by simp [q_I_si, q_L_si]) e8
  · rw [show q_I (q_si (q_si s 61 x 0) 64 b (q_I s 56 x)) 59 y = q_I s 59 y by simp [q_I_si]]
    exact h4 y (List.mem_cons_of_mem _ hy)
  · by_cases e : y = x
    · subst e
      exact Or.inl (by simp [q_I_si])
    · rw [show q_I (q_si (q_si s 61 x 0) 64 b (q_I s 56 x)) 61 y = q_I s 61 y by simp [q_I_si, e]]
      exact h6.1 y h0 h1
  · by_cases e : y = x
    · subst e
      rw [show q_I (q_si (q_si s 61 y 0) 64 b (q_I s 56 y)) 61 y = 0 by simp [q_I_si]]
      exact ⟨fun z => by omega, fun z => absurd z h5.1⟩
    · rw [show q_I (q_si (q_si s 61 x 0) 64 b (q_I s 56 x)) 61 y = q_I s 61 y by simp [q_I_si, e], h6.2 y h0 h1]
      simp [e]
  · rw [show q_I (q_si (q_si s 61 x 0) 64 b (q_I s 56 x)) 69 y = q_I s 69 y by simp [q_I_si]]; exact h8.1 y h0 h1
  · rw [show q_I (q_si (q_si s 61 x 0) 64 b (q_I s 56 x)) 69 y = q_I s 69 y by simp [q_I_si]]; exact h8.2 y h0 h1
  · unfold UD
    rw [show q_I (q_si (q_si s 61 x 0) 64 b (q_I s 56 x)) 57 u = q_I s 57 u by simp [q_I_si]]
    exact h9
  · rw [show q_F (q_si (q_si s 61 x 0) 64 b (q_I s 56 x)) 38 47 = q_F s 38 47 by simp [q_F_si]]; exact h11
  · rw [show q_F (q_si (q_si s 61 x 0) 64 b (q_I s 56 x)) 38 36 = q_F s 38 36 by simp [q_F_si]]; exact h12
theorem RS.left {q x : Int} {a v : Int64} (h : RS Ps nP sec sig s G base u b (m, p, d, (q, a) :: st) (x :: xs) RX RB) : RS Ps nP sec sig (q_sl s 58 x v) G base u b (m, p, d, (q, v) :: st) (x :: xs) RX RB ∧ ST s (q_sl s 58 x v) RX RB := by
  obtain ⟨h1, h2, ⟨b1, b2, b3, b4, b5, b6⟩, h4, h5, h6, h7, h8, h9, h10, h11, h12⟩ := h
  obtain ⟨e1, e2, e3, e4, e5, e6, e7, e8⟩ := b6
  have h5' := h5
  rw [List.cons_append, List.nodup_cons] at h5
  have hxs : x ∉ xs := fun z => h5.1 (List.mem_append_left _ z)
  have hxr : x ∉ RX := fun z => h5.1 (List.mem_append_right _ z)
  have hst : ST s (q_sl s 58 x v) RX RB := ST.slx (by omega) hxr
  refine ⟨⟨hst.1.sh h1, h2.sl (by omega), ⟨b1, b2, b3, b4, fun hm => ?_, e1, e2, e3, e4, e5, e6, ?_, ?_⟩, h4, h5', h6, h7, h8, h9, h10, h11, h12⟩, hst⟩
  · have := b5 hm
    simpa [q_I_sl, q_L_sl] using this
  · simp [q_L_sl]
  · refine rpS_same _ _ _ (fun y hy => ?_) e8
    have : ¬ y = x := fun z => hxs (z ▸ hy)
    simp [q_I_sl, q_L_sl, this]
/-- a branch's own numbers, while it doesn't stand -/
theorem RS.dti {a : Nat} {v : Int} (h : RS Ps nP sec sig s G base u b (m, p, d, st) xs RX RB) (ha : a = 65) (hm : ¬ m = 1) : RS Ps nP sec sig (q_si s a b v) G base u b (m, p, d, st) xs RX RB ∧ ST s (q_si s a b v) RX RB := by
  subst ha
  obtain ⟨h1, h2, ⟨b1, b2, b3, b4, b5, b6⟩, h4, h5, h6, h7, h8, h9, h10, h11, h12⟩ := h
  have hb : b ∉ RB := (List.nodup_cons.mp h7).1
  have hst : ST s (q_si s 65 b v) RX RB := ST.sib (by omega) hb
  refine ⟨⟨hst.1.sh h1, h2.si (by omega), ⟨b1, b2, ?_, ?_, fun z => absurd z hm, ?_⟩, fun y hy => ?_, h5, ⟨fun y h0 h1 => ?_, fun y h0 h1 => ?_⟩, h7, ⟨fun y h0 h1 => ?_, fun y h0 h1 => ?_⟩, ?_, h10, ?_, ?_⟩, hst⟩
  · simpa [q_I_si] using b3
  · simpa [q_I_si] using b4
  · rw [show q_I (q_si s 65 b v) 64 b = q_I s 64 b by simp [q_I_si]]
    exact rpS_same _ _ _ (fun y hy => by simp [q_I_si, q_L_si]) b6
  · rw [show q_I (q_si s 65 b v) 59 y = q_I s 59 y by simp [q_I_si]]; exact h4 y hy
  · rw [show q_I (q_si s 65 b v) 61 y = q_I s 61 y by simp [q_I_si]]; exact h6.1 y h0 h1
  · rw [show q_I (q_si s 65 b v) 61 y = q_I s 61 y by simp [q_I_si]]; exact h6.2 y h0 h1
  · rw [show q_I (q_si s 65 b v) 69 y = q_I s 69 y by simp [q_I_si]]; exact h8.1 y h0 h1
  · rw [show q_I (q_si s 65 b v) 69 y = q_I s 69 y by simp [q_I_si]]; exact h8.2 y h0 h1
  · unfold UD
    rw [show q_I (q_si s 65 b v) 57 u = q_I s 57 u by simp [q_I_si]]
    exact h9
  · rw [show q_F (q_si s 65 b v) 38 47 = q_F s 38 47 by simp [q_F_si]]; exact h11
  · rw [show q_F (q_si s 65 b v) 38 36 = q_F s 38 36 by simp [q_F_si]]; exact h12
theorem RS.dtl {a : Nat} {v : Int64} (h : RS Ps nP sec sig s G base u b (m, p, d, st) xs RX RB) (ha : 66 ≤ a ∧ a ≤ 68) (hm : ¬ m = 1) : RS Ps nP sec sig (q_sl s a b v) G base u b (m, p, d, st) xs RX RB ∧ ST s (q_sl s a b v) RX RB := by
  obtain ⟨h1, h2, ⟨b1, b2, b3, b4, b5, b6⟩, h4, h5, h6, h7, h8, h9, h10, h11, h12⟩ := h
  have hb : b ∉ RB := (List.nodup_cons.mp h7).1
  have hst : ST s (q_sl s a b v) RX RB := ST.slb (by omega) hb
  refine ⟨⟨hst.1.sh h1, h2.sl (by omega), ⟨b1, b2, b3, b4, fun z => absurd z hm, ?_⟩, h4, h5, h6, h7, h8, h9, h10, h11, h12⟩, hst⟩
  refine rpS_same _ _ _ (fun y hy => ?_) b6
  simp only [q_I_sl, q_L_sl]
  refine ⟨trivial, trivial, trivial, if_neg (fun z => by have := z.1; omega)⟩
end RST
