/-! THE REFERENCE'S look -/
section RL
variable {o : X_O} {Ps : Int → PT} {szs : Int → Int → Int} {nP sec : Int} {sig : Int → Int64} {G : GT} {base u b : Int} {m p : Int} {d : DT} {st : List FR} {RX RB : List Int} {k : Nat}
theorem ST.ch {s : Q_S} {A B : List Int} {j v : Int} : ST s (q_si s 70 j v) A B := ST.glob (KP.si (by omega)) (fun a h0 h1 i => ⟨by rw [q_I_si, if_neg (fun z => by have := z.1; omega)], rfl⟩)
theorem RF.ch {s : Q_S} {t : BT k} {it : IT k} {j v : Int} (h : RF Ps nP sec sig s G k base u t it RX RB) : RF Ps nP sec sig (q_si s 70 j v) G k base u t it RX RB := by
  obtain ⟨h1, h2, h3, h4, h5, h6, h7, h8, h9, h10, h11⟩ := h
  have hst : ∀ A B, ST s (q_si s 70 j v) A B := fun A B => ST.ch
  refine ⟨h1, h2.si (by omega), RM_same k _ _ _ _ (hst (fxI k it) []).2.1 (hst [] (fbI k it)).2.2 h3, h4, ⟨fun x a0 a1 => ?_, fun x a0 a1 => ?_⟩, h6, ⟨fun x a0 a1 => ?_, fun x a0 a1 => ?_⟩, ?_, h9, ?_, ?_⟩
  · rw [show q_I (q_si s 70 j v) 61 x = q_I s 61 x by simp [q_I_si]]; exact h5.1 x a0 a1
  · rw [show q_I (q_si s 70 j v) 61 x = q_I s 61 x by simp [q_I_si]]; exact h5.2 x a0 a1
  · rw [show q_I (q_si s 70 j v) 69 x = q_I s 69 x by simp [q_I_si]]; exact h7.1 x a0 a1
  · rw [show q_I (q_si s 70 j v) 69 x = q_I s 69 x by simp [q_I_si]]; exact h7.2 x a0 a1
  · unfold UD
    rw [show q_I (q_si s 70 j v) 57 u = q_I s 57 u by simp [q_I_si]]
    exact h8
  · rw [show q_F (q_si s 70 j v) 38 47 = q_F s 38 47 by simp [q_F_si]]; exact h10
  · rw [show q_F (q_si s 70 j v) 38 36 = q_F s 38 36 by simp [q_F_si]]; exact h11
theorem rpS_at {s : Q_S} {y : Int} {ys : List Int} : ∀ (done : List Int) (st : List FR) (x : Int), rpS s base u st (done ++ y :: ys) x → ∃ st1 f st2, st = st1 ++ f :: st2 ∧ st1.length = done.length ∧ 0 ≤ y ∧ y < 6144 ∧ ¬ y = u ∧ q_I s 55 y = f.1 ∧ q_I s 56 y = ys.headD u ∧ st2.length = ys.length := by
  intro done
  induction done with
  | nil =>
    intro st x h
    cases st with
    | nil => exact h.elim
    | cons f t =>
      obtain ⟨fp, fa⟩ := f
      obtain ⟨_, h2, h3, h4, h5, _, _, h8⟩ := h
      refine ⟨[], (fp, fa), t, rfl, rfl, h2, h3, h4, h5, ?_, ?_⟩
      · cases t with
        | nil =>
          cases ys with
          | nil => exact h8
          | cons _ _ => exact h8.elim
        | cons f2 t2 =>
          obtain ⟨f3, f4⟩ := f2
          cases ys with
          | nil => exact h8.elim
          | cons w ws => exact h8.1
      · have hl : ∀ (t : List FR) (ys : List Int) (z : Int), rpS s base u t ys z → ys.length = t.length := by
          intro t
          induction t with
          | nil =>
            intro ys z h
            cases ys with
            | nil => rfl
            | cons _ _ => exact h.elim
          | cons f t ih =>
            intro ys z h
            obtain ⟨p, a⟩ := f
            cases ys with
            | nil => exact h.elim
            | cons w ws => simp [ih ws _ h.2.2.2.2.2.2.2]
        exact (hl _ _ _ h8).symm
  | cons w ws ih =>
    intro st x h
    cases st with
    | nil => exact h.elim
    | cons f t =>
      obtain ⟨fp, fa⟩ := f
      obtain ⟨_, _, _, _, _, _, _, h8⟩ := h
      obtain ⟨st1, g, st2, e1, e2, e3⟩ := ih t _ h8
      exact ⟨(fp, fa) :: st1, g, st2, by rw [e1]; rfl, by simp [e2], e3⟩
/-- the frames are noted in a row -/
theorem r_chain (e : Nat) {sub : Option (BT k × BT k)} {isub : Option (IT k × IT k)} (hu : q_in u) (hbl : st.length ≤ 60) : ∀ (rem done : List Int) (S : Q_S), RF Ps nP sec sig S G (k + 1) base u (m, p, d, st, sub) (b, done ++ rem, isub) RX RB → (∀ (i : Nat) (hi : i < done.length), q_I S 70 i = done[i]) →
    ∃ S', RF Ps nP sec sig S' G (k + 1) base u (m, p, d, st, sub) (b, done ++ rem, isub) RX RB ∧ (∀ (i : Nat) (hi : i < (done ++ rem).length), q_I S' 70 i = (done ++ rem)[i]) ∧ (∀ A B, ST S S' A B) ∧ ∀ Q, QW (fun n => g_110 o n e 2 S' 38 b 0 0 0 (((done ++ rem).length : Int) - 1)) Q → QW (fun n => g_110 o n e 1 S 38 b u done.length (rem.headD u) 0) Q := by
  intro rem
  induction rem with
  | nil =>
    intro done S h hc
    refine ⟨S, h, fun i hi => by simpa using hc i (by simpa using hi), fun A B => ST.rf S A B, fun Q K => ?_⟩
    refine QW_s ?_
    simp only [g_110]
    refine QW_g ⟨hu, hu⟩ ?_
    refine QW_it rfl ?_
    simpa using K
  | cons y ys ih =>
    intro done S h hc
    obtain ⟨st1, g, st2, e1, e2, y0, y1, y2, y3, y4, y5⟩ := rpS_at done st _ h.2.2.1.1.2.2.2.2.2
    have hdl : done.length < 60 := by
      have := congrArg List.length e1
      simp at this
      omega
    have h2 : RF Ps nP sec sig (q_si S 70 (done.length : Int) y) G (k + 1) base u (m, p, d, st, sub) (b, (done ++ [y]) ++ ys, isub) RX RB := by
      rw [List.append_assoc]
      exact h.ch
    have hs := h.1
    have hs2 : SH (q_si S 70 (done.length : Int) y) := hs
    obtain ⟨S', a1, a2, a3, a4⟩ := ih (done ++ [y]) (q_si S 70 (done.length : Int) y) h2 (fun i hi => by
      rw [q_I_si]
      by_cases e : i = done.length
      · subst e
        simp
      · rw [if_neg (by omega)]
        rw [hc i (by simp at hi; omega), List.getElem_append_left])
    refine ⟨S', by rw [List.append_assoc] at a1; exact a1, fun i hi => ?_, fun A B => ST.ch.tr (a3 A B), fun Q K => ?_⟩
    · have := a2 i (by simpa using hi)
      simpa using this
    · refine QW_s ?_
      simp only [g_110]
      refine QW_g ⟨(by show q_in y; omega), hu⟩ ?_
      refine QW_if y2 ?_
      refine QW_p (k_gv (hs _ _ rfl) rfl rfl) ?_
      refine QW_p (k_is (hs _ _ rfl) (by omega) (by omega) (by decide)) ?_
      refine QW_p (k_gv (hs2 _ _ rfl) rfl rfl) ?_
      refine QW_p (k_ia (hs2 _ _ rfl) y0 y1 (by decide)) ?_
      rw [show q_I (q_si S 70 (done.length : Int) ((y :: ys).headD u)) 56 ((y :: ys).headD u) = ys.headD u from (by simp only [q_I_si]; rw [if_neg (by omega)]; exact y4)]
      have := a4 Q (by simpa using K)
      rw [show ((done ++ [y]).length : Int) = (done.length : Int) + 1 by simp] at this
      exact this
end RL
