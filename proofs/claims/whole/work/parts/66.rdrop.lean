/-! drop -/
section RD
variable {o : X_O} {Ps : Int → PT} {nP sec : Int} {sig : Int → Int64} {G : GT} {s : Q_S} {base u b x : Int} {m p : Int} {d : DT} {st : List FR} {ys RX RB : List Int} {k : Nat}
theorem close_core {f : FR} {b1 b2 : Int} (h1 : SH s) (h2 : GM Ps nP sec sig G s) (hB : rpB s (Ps (G_pg G)) base u b (m, p, d, f :: st) (x :: ys)) (g5 : ∀ y ∈ ys, q_I s 59 y = -1) (hxn : (x :: ys ++ RX).Nodup) (hus : US s (x :: ys ++ RX)) (hnd : (b :: b1 :: b2 :: RB).Nodup) (hub : UB s (b :: b1 :: b2 :: RB)) (h8 : UD s u base) (h9 : u = -1 ∨ u ∈ RX) (h10 : q_F s 38 47 = 0 ∧ 0 ≤ q_F s 38 36 ∧ q_F s 38 36 < 6144) :
    RS Ps nP sec sig (m_pop (m_cls s b1 b2) b) (G_side G (-1)) base u b (m, p, d, st) ys RX RB ∧ ST s (m_pop (m_cls s b1 b2) b) RX RB ∧ q_I (m_cls s b1 b2) 64 b = x ∧ 0 ≤ x ∧ x < 6144 := by
  simp only [List.nodup_cons, List.mem_cons, not_or] at hnd
  obtain ⟨⟨n1, n2, n3⟩, ⟨n4, n5⟩, n6, n7⟩ := hnd
  have r69 : ∀ y, q_I (m_cls s b1 b2) 69 y = if y = b2 then 0 else if y = b1 then 0 else q_I s 69 y := fun y => by
    simp only [m_cls, q_I_sf, q_I_si]
    simp
  have rI : ∀ a : Nat, 55 ≤ a → a ≤ 68 → ∀ j, q_I (m_cls s b1 b2) a j = q_I s a j := fun a h0 h1 j => by
    simp only [m_cls, q_I_sf, q_I_si]
    rw [if_neg (by omega), if_neg (by omega), if_neg (by omega)]
  have hst : ST s (m_cls s b1 b2) RX RB := ((ST.sib (by omega) n5).tr (ST.sib (by omega) n6)).tr (ST.sf (by decide))
  have hG : GM Ps nP sec sig (G_side G (-1)) (m_cls s b1 b2) := ((h2.si (by omega)).si (by omega)).sid
  have hf47 : q_F (m_cls s b1 b2) 38 47 = q_F s 38 47 := by simp [m_cls, q_F_sf, q_F_si]
  have hf36 : q_F (m_cls s b1 b2) 38 36 = q_F s 38 36 := by simp [m_cls, q_F_sf, q_F_si]
  have hB' : rpB (m_cls s b1 b2) (Ps (G_pg (G_side G (-1)))) base u b (m, p, d, f :: st) (x :: ys) := by
    refine rpB_same hB (fun y _ => ⟨rI 55 (by omega) (by omega) y, rI 56 (by omega) (by omega) y, rI 57 (by omega) (by omega) y, rI 59 (by omega) (by omega) y, rI 60 (by omega) (by omega) y, rfl⟩) (fun y _ => ⟨rI 62 (by omega) (by omega) y, rI 63 (by omega) (by omega) y, rI 64 (by omega) (by omega) y, rI 65 (by omega) (by omega) y, rfl, rfl, rfl⟩)
  obtain ⟨r1, t1, z1, z2, z3, z4⟩ := pop_core (RX := RX) (RB := RB) (hst.1.sh h1) hG hB' (fun y hy => by rw [rI 59 (by omega) (by omega)]; exact g5 y hy) hxn ⟨fun y a0 a1 => by rw [rI 61 (by omega) (by omega)]; exact hus.1 y a0 a1, fun y a0 a1 => by rw [rI 61 (by omega) (by omega)]; exact hus.2 y a0 a1⟩ (List.nodup_cons.mpr ⟨n3, n7⟩)
    ⟨fun y a0 a1 => by
        rw [r69]
        split
        · exact Or.inl rfl
        · split
          · exact Or.inl rfl
          · exact hub.1 y a0 a1, fun y a0 a1 => by
        rw [r69]
        by_cases k2 : y = b2
        · rw [if_pos k2]
          subst k2
          simp only [List.mem_cons]
          exact ⟨fun z => by omega, fun z => by rcases z with z | z; exact absurd z.symm n2; exact absurd z n6⟩
        · rw [if_neg k2]
          by_cases k1 : y = b1
          · rw [if_pos k1]
            subst k1
            simp only [List.mem_cons]
            exact ⟨fun z => by omega, fun z => by rcases z with z | z; exact absurd z.symm n1; exact absurd z n5⟩
          · rw [if_neg k1, hub.2 y a0 a1]
            simp [k1, k2]⟩ (by unfold UD; rw [rI 57 (by omega) (by omega)]; exact h8) h9 (by rw [hf47]; exact h10.1) (by rw [hf36]; exact h10.2)
  exact ⟨r1, hst.tr t1, z1, z2, z3⟩
/-- frames without sides, dropped down to a given one -/
theorem r_dropS (e : Nat) : ∀ (st1 : List FR) (xs1 : List Int) (s : Q_S) (G : GT) (m p : Int) (d : DT) (st2 : List FR) (xs2 : List Int), RS Ps nP sec sig s G base u b (m, p, d, st1 ++ st2) (xs1 ++ xs2) RX RB → xs1.length = st1.length →
    QW (fun n => g_117 o n e 0 s 38 b (xs2.headD u)) (fun q => RS Ps nP sec sig q.1 G base u b (m, p, d, st2) xs2 RX RB ∧ ST s q.1 RX RB) := by
  intro st1
  induction st1 with
  | nil =>
    intro xs1 s G m p d st2 xs2 h hl
    cases xs1 with
    | cons _ _ => cases hl
    | nil =>
      have h' : RS Ps nP sec sig s G base u b (m, p, d, st2) xs2 RX RB := h
      have hx : q_I s 64 b = xs2.headD u := by
        have := h'.2.2.1.2.2.2.2.2
        cases st2 with
        | nil =>
          cases xs2 with
          | nil => exact this
          | cons _ _ => exact this.elim
        | cons f t =>
          obtain ⟨f1, f2⟩ := f
          cases xs2 with
          | nil => exact this.elim
          | cons y ys => exact this.1
      have hr := h'.top
      have hs := h'.1
      have b1 := h'.2.2.1.1
      have b2 := h'.2.2.1.2.1
      refine QW_s ?_
      simp only [g_117]
      refine QW_p (k_gv (hs _ _ rfl) rfl rfl) ?_
      refine QW_p (k_ia (hs _ _ rfl) b1 b2 (by decide)) ?_
      rw [← hx]
      refine QW_g (by omega) ?_
      refine QW_it rfl ?_
      exact QW_ret ⟨h', ST.rf _ _ _⟩
  | cons f t ih =>
    intro xs1 s G m p d st2 xs2 h hl
    cases xs1 with
    | nil => cases hl
    | cons x ys =>
      have h' : RS Ps nP sec sig s G base u b (m, p, d, f :: (t ++ st2)) (x :: (ys ++ xs2)) RX RB := h
      obtain ⟨r1, t1, y1, y2, y3, y4, y5⟩ := h'.pop
      have hs := h'.1
      have b1 := h'.2.2.1.1
      have b2 := h'.2.2.1.2.1
      have hx59 : q_I s 59 x = -1 := h'.2.2.2.1 x (by simp)
      have hnd := h'.2.2.2.2.1
      have hne : ¬ x = xs2.headD u ∧ q_in (xs2.headD u) := by
        have h6 := h'.2.2.1.2.2.2.2.2
        obtain ⟨f1, f2⟩ := f
        obtain ⟨_, _, _, xu, _⟩ := h6
        have hudr : q_in u := by
          rcases h'.2.2.2.2.2.2.2.2.1 with z | z
          · rw [z.1]; omega
          · omega
        cases xs2 with
        | nil => exact ⟨xu, hudr⟩
        | cons w ws =>
          refine ⟨fun z => ?_, ?_⟩
          · have : x = w := z
            subst this
            simp at hnd
          · have hw : w ∈ x :: (ys ++ w :: ws) := by simp
            have : ∀ (st : List FR) (xs : List Int) (z : Int), rpS s base u st xs z → ∀ y ∈ xs, 0 ≤ y ∧ y < 6144 := by
              intro st
              induction st with
              | nil =>
                intro xs z g y hy
                cases xs with
                | nil => cases hy
                | cons _ _ => exact g.elim
              | cons f t ih2 =>
                intro xs z g y hy
                obtain ⟨fp, fa⟩ := f
                cases xs with
                | nil => exact g.elim
                | cons w2 ws2 =>
                  obtain ⟨_, g2, g3, _, _, _, _, g8⟩ := g
                  rcases List.mem_cons.mp hy with e | e
                  · subst e; exact ⟨g2, g3⟩
                  · exact ih2 ws2 _ g8 y e
            have := this _ _ _ h'.2.2.1.2.2.2.2.2 w hw
            show q_in w
            omega
      refine QW_s ?_
      simp only [g_117]
      refine QW_p (k_gv (hs _ _ rfl) rfl rfl) ?_
      refine QW_p (k_ia (hs _ _ rfl) b1 b2 (by decide)) ?_
      rw [y1]
      refine QW_g ⟨by omega, hne.2⟩ ?_
      refine QW_if hne.1 ?_
      refine QW_p (k_gv (hs _ _ rfl) rfl rfl) ?_
      refine QW_p (k_ia (hs _ _ rfl) b1 b2 (by decide)) ?_
      rw [y1]
      refine QW_p (k_gv (hs _ _ rfl) rfl rfl) ?_
      refine QW_p (k_ia (hs _ _ rfl) y2 y3 (by decide)) ?_
      rw [hx59]
      refine QW_g (by omega) ?_
      refine QW_it (by decide) ?_
      refine QW_s ?_
      simp only [g_117]
      refine QW_p (k_rc (hs _ _ rfl)) ?_
      refine QW_e (m_118 hs b1 b2 (by rw [y1]; exact y2) (by rw [y1]; exact y3)) ?_
      refine QW_m (ih ys (m_pop s b) G m p d st2 xs2 r1 (by simpa using hl)) (fun q hq => ⟨hq.1, t1.tr hq.2⟩)
end RD
