/-! THE LAW'S LOOP -/
section LOOPA
variable {o : X_O} {β : Type} {K : Nat} {k z : Nat} {E : Nat → Option Y_T} {s : Q_S} {Q : β → Prop} {X : Nat → Q_S → Option β}
theorem ci_a {R : Nat} {ty : FieldType} {r : Int} (h : CIn k E z s) (hr : r = (R : Int)) (hR : R ≤ 67108864) (hE : E k = none) (hk : shI k = some (.inl (ty, R, fun _ => none))) (g : ∀ s', CIn (k + 1) E (z + R) s' → (∀ c j, c ≠ k → q_I s' c j = q_I s c j) → QW (fun n => X n s') Q) : QW (fun n => (q_na s ty r).bind fun s1 => X n s1) Q := by
  subst hr
  obtain ⟨e1, e2, e3, e4⟩ := h
  refine QW_p (k_na (by omega) (by omega)) ?_
  rw [show ((R : Int)).toNat = R by omega]
  refine g _ ⟨by show s.1 + 1 = k + 1; omega, by show s.2.1 + R ≤ z + R; omega, fun a t ha et => ?_, ZZ.nw e4⟩ (fun c j hc => by rw [q_I_nw, if_neg (by omega)])
  rw [q_T_nw]
  by_cases w : a = k
  · rw [if_pos (by omega)]
    rw [w, eff_n hE, hk] at et
    exact et
  · rw [if_neg (by omega)]
    exact e3 a t (by omega) et
def T0 : PT := (0, fun _ => 0, fun _ => 0, fun _ => 0, fun _ => 0, fun _ => 0, fun _ => 0)
/-- the state before the first call -/
theorem tp_0 (h : CIn 81 (fun _ => none) z s) (hz : z ≤ 3000000) (h20 : q_F s 20 0 = 3) (h17 : q_F s 38 17 = 3) : TP (K + 1) 0 s := by
  obtain ⟨e1, e2, e3, e4, e5⟩ := h
  have tI : ∀ a t, a < 81 → shI a = some t → q_T s a = some t := fun a t ha et => e3 a t ha et
  have zF : ∀ (c : Nat) (f : Nat), ¬ excP c f → q_F s c f = 0 := fun c f hc => e5 c f hc
  have x38 : ∀ f : Nat, f ≠ 17 → f ≠ 21 → q_F s 38 f = 0 := fun f h1 h2 => zF 38 f (by unfold excP; omega)
  have hs : SH s := fun a t et => by
    have ha : a < 81 := by
      by_cases w : a < 81
      · exact w
      · exfalso
        have : sh a = none := by
          unfold sh
          rw [List.getElem?_eq_none (by show shL.length ≤ a; have : shL.length = 81 := rfl; omega)]
          rfl
        rw [this] at et
        cases et
    refine tI a t ha ?_
    unfold shI
    rw [et]
  have vw : VW s 24 24 16 ((fun _ _ => 0), (fun _ _ => 0), q_F s 24 10, q_F s 24 11, 0, q_F s 24 13) := by
    refine ⟨tI 24 _ (by decide) rfl, fun i t it => ?_, fun i x _ _ x0 x1 => ?_, fun i x _ _ x0 x1 => ?_, rfl, rfl, zF 24 12 (by unfold excP; omega), rfl, Int.le_refl _, by show (0 : Int) ≤ 16; decide, by decide, Or.inl rfl, by omega, by omega⟩
    · have i0 : i = 1 ∨ i = 2 ∨ i = 3 ∨ i = 4 ∨ i = 5 ∨ i = 6 ∨ i = 7 ∨ i = 8 ∨ i = 9 ∨ i = 10 := by
        unfold shFa at it
        split at it <;> first | omega | cases it
      rcases i0 with rfl | rfl | rfl | rfl | rfl | rfl | rfl | rfl | rfl | rfl <;> exact tI _ _ (by decide) it
    · have x1 : x < 0 := x1
      omega
    · have x1 : x < 0 := x1
      omega
  refine ⟨T0, fun _ => T0, fun _ _ => 0, fun _ _ => 0, fun _ => 0, 0, fun _ => 0, 24, 16, none, 0, fun _ => 0, fun _ => (0, 0, G0 0, newB K 0, (0, 0, 0)), ⟨⟨hs, fun j _ _ => e4 19 j, Or.inl rfl, by omega, fun i i0 i1 => by omega⟩, ⟨Int.le_refl _, by show (0 : Int) ≤ 300; decide, zF 1 4 (by unfold excP; omega), fun i i0 i1 => absurd i1 (by show ¬ i < 0; omega), fun i _ _ => e4 4 i⟩, ⟨Int.le_refl _, by decide, zF 0 8 (by unfold excP; omega), ⟨_, tI 37 _ (by decide) rfl, fun i i0 i1 => by omega⟩, fun i i0 i1 => by omega⟩, by decide, fun i i0 i1 => by omega, ?_⟩, ⟨_, tI 18 _ (by decide) rfl, fun i i0 i1 => by omega, zF 0 3 (by unfold excP; omega), Int.le_refl _, by decide⟩, ⟨⟨hs, x38 8 (by decide) (by decide), fun i i0 i1 => by omega, fun j _ _ => e4 44 j, by rw [x38 36 (by decide) (by decide)]; decide, by rw [x38 36 (by decide) (by decide)]; decide⟩, ⟨Int.le_refl _, by show (0 : Int) ≤ 300; decide, x38 1 (by decide) (by decide), fun i i0 i1 => absurd i1 (by show ¬ i < 0; omega)⟩, ⟨Int.le_refl _, by decide, x38 50 (by decide) (by decide), fun i i0 i1 => by omega⟩, h17, Or.inl (x38 22 (by decide) (by decide))⟩, ⟨⟨Int.le_refl _, by decide⟩, fun i i0 i1 => absurd i1 (by show ¬ i < 0; omega), fun i i0 i1 => by omega, (fun x hx => by cases hx), fun i i0 i1 => by omega⟩, ?_⟩
  · exact ⟨tI 20 _ (by decide) rfl, ⟨_, vw⟩, h20, zF 20 3 (by unfold excP; omega), zF 20 4 (by unfold excP; omega), fun j _ _ => e4 21 j, fun j _ _ => e4 22 j⟩
  · unfold SZq
    omega
end LOOPA
section LOOPB
variable {o : X_O} {K : Nat} {m : Int} {s s' : Q_S}
/-- a cell more of which nobody knows; the law's own row written -/
theorem TP.tab (h : TP K m s) (hs : SH s') (hn : s.1 ≤ s'.1) (h1 : s'.1 ≤ s.1 + 1) (h2 : s'.2.1 ≤ s.2.1 + 6) (eT : s'.2.2.1 = s.2.2.1) (e : ∀ a, a ≠ 80 → ∀ j, q_I s' a j = q_I s a j ∧ q_L s' a j = q_L s a j) {v : Int} : TP K (m + 1) (q_sf s' 38 0 v) := by
  obtain ⟨T, Ps, szs, ths, rc, nP, sig, c, room, ru, nS, sv, R, H⟩ := h
  have hW := H.wp
  obtain ⟨h1', h2', h3, h4, h5⟩ := id H
  have f : FRc s s' := ⟨hs, fun a ha j => e a (by omega) j⟩
  have a1 := h1'.mv hs hn (e 0 (by decide) 8).1 (congrFun eT 37) (fun a ha => ⟨congrFun eT a, fun j => e a (by omega) j⟩) (h1'.2.1.mv (fun a ha j => e a (by omega) j))
  refine ⟨T, Ps, szs, ths, rc, nP, sig, c, room, ru, nS, sv, R, a1.rf FRr.sf, (h2'.mv (congrFun eT 18) (e 0 (by decide) 3).1).rf FRr.sf, (h3.cl f hW h4.1.2).s0 (Or.inl rfl), h4.up, ?_⟩
  unfold SZq at h5 ⊢
  show (s'.1 : Int) ≤ _ ∧ (s'.2.1 : Int) ≤ _
  omega
theorem TP.shs (h : TP K m s) : SH s := by
  obtain ⟨T, Ps, szs, ths, rc, nP, sig, c, room, ru, nS, sv, R, H⟩ := h
  exact H.sh
theorem TP.sz (h : TP K m s) (hm : m ≤ 1000) : s.1 ≤ 601024 ∧ s.2.1 ≤ 7293034 := by
  obtain ⟨T, Ps, szs, ths, rc, nP, sig, c, room, ru, nS, sv, R, H⟩ := h
  obtain ⟨h1, h2, h3, h4, h5⟩ := H
  have a := h1.2.2.2.2.2.cc.2
  have b := h4.1
  have d := h1.2.2.1.2.1
  unfold SZq at h5
  omega
end LOOPB
section LOOPC
variable {K : Nat} {m : Int} {s s' : Q_S}
set_option maxHeartbeats 4000000 in
theorem law_step {o : X_O} {L : Nat} {xs : Nat → Int32} (o0 : o 0 = some (L, xs)) (o1 : o 1 = some (66, fun i => x_WANTED.getD i 0)) (o2 : o 2 = some (10, fun i => x_TABLE.getD i 0)) (hL : L ≤ 2560) (hK : 61 ≤ K + 1) {F : Nat} (hF : (600000000 : Int) ≤ F) {Q : Q_S × Int → Prop} {i : Int} (h : TP (K + 1) m s) (hm : 0 ≤ m ∧ m ≤ 1000) (hi : i = 5 * m) (hl : i + 5 ≤ L)
    (k : ∀ s', TP (K + 1) (m + 1) s' → QW (fun n => g_152 o n 1 s' (.retAddr 0) (.ref 0) (.ref 38) (.ref 80) (i + 5)) Q) : QW (fun n => g_152 o n 1 s (.retAddr 0) (.ref 0) (.ref 38) (.ref 80) i) Q := by
  have hs := h.shs
  have ga : ∀ (t : Q_S) (j : Int), 0 ≤ j → j < L → q_ia o t (.retAddr 0) j = some (xs j.toNat).toInt := fun t j j0 j1 => k_oa o0 j0 j1 (by omega)
  have qx : ∀ j : Nat, q_in (xs j).toInt := fun j => q_in_toInt _
  have k3 : ∀ s', TP (K + 1) (m + 1) s' → QW (fun n => g_152 o n 3 s' (.retAddr 0) (.ref 0) (.ref 38) (.ref 80) i) Q := fun s' hs' => by
    refine QW_s ?_
    simp only [g_152]
    exact k s' hs'
  have k2 : ∀ s', TP (K + 1) (m + 1) s' → QW (fun n => g_152 o n 2 s' (.retAddr 0) (.ref 0) (.ref 38) (.ref 80) i) Q := fun s' hs' => by
    refine QW_s ?_
    simp only [g_152]
    exact k3 s' hs'
  refine QW_s ?_
  simp only [g_152]
  refine QW_p (k_ol o0) ?_
  refine QW_g (by unfold q_in; omega) ?_
  refine QW_if (by omega) ?_
  refine QW_p (ga s i (by omega) (by omega)) ?_
  generalize hv : (xs i.toNat).toInt % 16 = v
  have hv0 : 0 ≤ v ∧ v ≤ 15 := by rw [← hv]; omega
  refine QW_g (by unfold q_in; omega) ?_
  refine QW_if (by omega) ?_
  refine QW_by (fun c0 => ?_) (fun c0 => ?_)
  · refine QW_p (ga _ (i + 1) (by omega) (by omega)) ?_
    refine QW_p (ga _ (i + 2) (by omega) (by omega)) ?_
    refine QW_g (qx _) ?_
    refine QW_p (ga _ (i + 3) (by omega) (by omega)) ?_
    refine QW_g (qx _) ?_
    refine QW_p (k_rc (hs _ _ rfl)) ?_
    refine QW_c (e_leaf h (qx _)) (fun q hq => ?_)
    obtain ⟨q1, q2, q3⟩ := hq
    refine QW_p (ga _ (i + 1) (by omega) (by omega)) ?_
    refine QW_p (ga _ (i + 2) (by omega) (by omega)) ?_
    refine QW_g (qx _) ?_
    refine QW_p (ga _ (i + 3) (by omega) (by omega)) ?_
    refine QW_g (qx _) ?_
    refine QW_p (k_rc (q1 _ _ rfl)) ?_
    refine QW_c q3 (fun r hr => ?_)
    obtain ⟨r1, r2⟩ := hr
    refine QW_g ⟨q2, by rw [r1]; exact q2⟩ ?_
    refine QW_it r1.symm ?_
    exact k3 r.1 r2
  refine QW_by (fun c1 => ?_) (fun c1 => ?_)
  · refine QW_p (ga _ (i + 1) (by omega) (by omega)) ?_
    refine QW_p (ga _ (i + 2) (by omega) (by omega)) ?_
    refine QW_p (ga _ (i + 3) (by omega) (by omega)) ?_
    refine QW_p (ga _ (i + 4) (by omega) (by omega)) ?_
    refine QW_p (k_rc (hs _ _ rfl)) ?_
    refine QW_c (e_node o1 h (qx _) (qx _) (qx _) (qx _)) (fun q hq => ?_)
    obtain ⟨q1, q2, q3⟩ := hq
    refine QW_p (ga _ (i + 1) (by omega) (by omega)) ?_
    refine QW_p (ga _ (i + 2) (by omega) (by omega)) ?_
    refine QW_p (ga _ (i + 3) (by omega) (by omega)) ?_
    refine QW_p (ga _ (i + 4) (by omega) (by omega)) ?_
    refine QW_p (k_rc (q1 _ _ rfl)) ?_
    refine QW_c q3 (fun r hr => ?_)
    obtain ⟨r1, r2⟩ := hr
    refine QW_g ⟨q2, by rw [r1]; exact q2⟩ ?_
    refine QW_it r1.symm ?_
    exact k3 r.1 r2
  refine QW_by (fun c2 => ?_) (fun c2 => ?_)
  · refine QW_p (ga _ (i + 1) (by omega) (by omega)) ?_
    refine QW_p (k_rc (hs _ _ rfl)) ?_
    refine QW_c (e_mak o1 h (qx _)) (fun q hq => ?_)
    obtain ⟨q1, q2, q3⟩ := hq
    refine QW_p (ga _ (i + 1) (by omega) (by omega)) ?_
    refine QW_p (k_rc (q1 _ _ rfl)) ?_
    refine QW_c q3 (fun r hr => ?_)
    obtain ⟨r1, r2⟩ := hr
    refine QW_g ⟨q2, by rw [r1]; exact q2⟩ ?_
    refine QW_it r1.symm ?_
    exact k3 r.1 r2
  refine QW_by (fun c3 => ?_) (fun c3 => ?_)
  · refine QW_p (ga _ (i + 1) (by omega) (by omega)) ?_
    refine QW_p (ga _ (i + 2) (by omega) (by omega)) ?_
    refine QW_g (qx _) ?_
    refine QW_p (ga _ (i + 3) (by omega) (by omega)) ?_
    refine QW_g (qx _) ?_
    refine QW_p (k_rc (hs _ _ rfl)) ?_
    refine QW_c (e_sig h (qx _)) (fun q hq => ?_)
    obtain ⟨q1, q2, q3⟩ := hq
    refine QW_p (ga _ (i + 1) (by omega) (by omega)) ?_
    refine QW_p (ga _ (i + 2) (by omega) (by omega)) ?_
    refine QW_g (qx _) ?_
    refine QW_p (ga _ (i + 3) (by omega) (by omega)) ?_
    refine QW_g (qx _) ?_
    refine QW_p (k_rc (q1 _ _ rfl)) ?_
    refine QW_c q3 (fun r hr => ?_)
    obtain ⟨r1, r2⟩ := hr
    refine QW_g ⟨q2, by rw [r1]; exact q2⟩ ?_
    refine QW_it r1.symm ?_
    exact k3 r.1 r2
  refine QW_by (fun c4 => ?_) (fun c4 => ?_)
  · refine QW_p (ga _ (i + 1) (by omega) (by omega)) ?_
    refine QW_p (k_rc (hs _ _ rfl)) ?_
    refine QW_c (e_stt h hm.1 (qx _)) (fun q hq => ?_)
    obtain ⟨q1, q2, q3⟩ := hq
    refine QW_p (ga _ (i + 1) (by omega) (by omega)) ?_
    refine QW_p (k_rc (q1 _ _ rfl)) ?_
    refine QW_c q3 (fun r hr => ?_)
    obtain ⟨r1, r2⟩ := hr
    refine QW_g ⟨q2, by rw [r1]; exact q2⟩ ?_
    refine QW_it r1.symm ?_
    exact k3 r.1 r2
  refine QW_by (fun c5 => ?_) (fun c5 => ?_)
  · refine QW_p (ga _ (i + 1) (by omega) (by omega)) ?_
    refine QW_p (k_rc (hs _ _ rfl)) ?_
    refine QW_c (e_tck o2 hK hF h hm (qx _)) (fun q hq => ?_)
    obtain ⟨q1, q2, q3⟩ := hq
    refine QW_p (ga _ (i + 1) (by omega) (by omega)) ?_
    refine QW_p (k_rc (q1 _ _ rfl)) ?_
    refine QW_c q3 (fun r hr => ?_)
    obtain ⟨r1, r2⟩ := hr
    refine QW_g ⟨q2, by rw [r1]; exact q2⟩ ?_
    refine QW_it r1.symm ?_
    exact k3 r.1 r2
  refine QW_by (fun c6 => ?_) (fun c6 => ?_)
  · refine QW_p (ga _ (i + 1) (by omega) (by omega)) ?_
    refine QW_p (k_rc (hs _ _ rfl)) ?_
    refine QW_c (e_out h (qx _)) (fun q hq => ?_)
    obtain ⟨q1, q3⟩ := hq
    refine QW_p (ga _ (i + 1) (by omega) (by omega)) ?_
    refine QW_p (k_rc (q1 _ _ rfl)) ?_
    refine QW_c q3 (fun r hr => ?_)
    obtain ⟨r1, r2⟩ := hr
    refine QW_it r1.symm ?_
    exact k3 r.1 r2
  refine QW_by (fun c7 => ?_) (fun c7 => ?_)
  · refine QW_p (ga _ (i + 1) (by omega) (by omega)) ?_
    refine QW_p (k_rc (hs _ _ rfl)) ?_
    refine QW_c (e_stp hK h (qx _)) (fun q hq => ?_)
    obtain ⟨q1, q2, q3⟩ := hq
    refine QW_p (ga _ (i + 1) (by omega) (by omega)) ?_
    refine QW_p (k_rc (q1 _ _ rfl)) ?_
    refine QW_c q3 (fun r hr => ?_)
    obtain ⟨r1, r2⟩ := hr
    refine QW_g ⟨q2, by rw [r1]; exact q2⟩ ?_
    refine QW_it r1.symm ?_
    exact k3 r.1 r2
  refine QW_by (fun c8 => ?_) (fun c8 => ?_)
  · refine QW_p (ga _ (i + 1) (by omega) (by omega)) ?_
    refine QW_p (ga _ (i + 2) (by omega) (by omega)) ?_
    refine QW_p (k_rc (hs _ _ rfl)) ?_
    refine QW_c (e_alm h (qx _) (qx _)) (fun q hq => ?_)
    obtain ⟨q1, q2, q3⟩ := hq
    refine QW_p (ga _ (i + 1) (by omega) (by omega)) ?_
    refine QW_p (ga _ (i + 2) (by omega) (by omega)) ?_
    refine QW_p (k_rc (q1 _ _ rfl)) ?_
    refine QW_c q3 (fun r hr => ?_)
    obtain ⟨r1, r2⟩ := hr
    refine QW_g ⟨q2, by rw [r1]; exact q2⟩ ?_
    refine QW_it r1.symm ?_
    exact k3 r.1 r2
  refine QW_by (fun c9 => ?_) (fun c9 => ?_)
  · refine QW_p (k_rc (hs _ _ rfl)) ?_
    refine QW_c (e_sav h) (fun q hq => ?_)
    obtain ⟨q1, q2, q3⟩ := hq
    refine QW_p (k_rc (q1 _ _ rfl)) ?_
    refine QW_c q3 (fun r hr => ?_)
    obtain ⟨r1, r2⟩ := hr
    refine QW_g ⟨q2, by rw [r1]; exact q2⟩ ?_
    refine QW_it r1.symm ?_
    exact k3 r.1 r2
  refine QW_by (fun c10 => ?_) (fun c10 => ?_)
  · refine QW_p (ga _ (i + 1) (by omega) (by omega)) ?_
    refine QW_p (k_rc (hs _ _ rfl)) ?_
    refine QW_c (e_bck h (qx _)) (fun q hq => ?_)
    obtain ⟨q1, q2, q3⟩ := hq
    refine QW_p (ga _ (i + 1) (by omega) (by omega)) ?_
    refine QW_p (k_rc (q1 _ _ rfl)) ?_
    refine QW_c q3 (fun r hr => ?_)
    obtain ⟨r1, r2⟩ := hr
    refine QW_g ⟨q2, by rw [r1]; exact q2⟩ ?_
    refine QW_it r1.symm ?_
    exact k3 r.1 r2
  refine QW_by (fun c11 => ?_) (fun c11 => ?_)
  · refine QW_p (ga _ (i + 1) (by omega) (by omega)) ?_
    refine QW_p (k_rc (hs _ _ rfl)) ?_
    refine QW_c (e_swp h (qx _)) (fun q hq => ?_)
    obtain ⟨q1, q2, q3⟩ := hq
    refine QW_p (ga _ (i + 1) (by omega) (by omega)) ?_
    refine QW_p (k_rc (q1 _ _ rfl)) ?_
    refine QW_c q3 (fun r hr => ?_)
    obtain ⟨r1, r2⟩ := hr
    refine QW_g ⟨q2, by rw [r1]; exact q2⟩ ?_
    refine QW_it r1.symm ?_
    exact k3 r.1 r2
  refine QW_by (fun c12 => ?_) (fun c12 => ?_)
  · refine QW_p (ga _ (i + 1) (by omega) (by omega)) ?_
    refine QW_p (k_rc (hs _ _ rfl)) ?_
    refine QW_c (e_val h (qx _)) (fun q hq => ?_)
    obtain ⟨q1, q3⟩ := hq
    refine QW_p (ga _ (i + 1) (by omega) (by omega)) ?_
    refine QW_p (k_rc (q1 _ _ rfl)) ?_
    refine QW_c q3 (fun r hr => ?_)
    obtain ⟨r1, r2⟩ := hr
    refine QW_it r1.symm ?_
    exact k3 r.1 r2
  refine QW_by (fun c13 => ?_) (fun c13 => ?_)
  · refine QW_p (ga _ (i + 1) (by omega) (by omega)) ?_
    refine QW_p (ga _ (i + 2) (by omega) (by omega)) ?_
    refine QW_p (k_rc (hs _ _ rfl)) ?_
    refine QW_c (e_shr h (qx _) (qx _)) (fun q hq => ?_)
    obtain ⟨q1, q2, q3⟩ := hq
    refine QW_p (ga _ (i + 1) (by omega) (by omega)) ?_
    refine QW_p (ga _ (i + 2) (by omega) (by omega)) ?_
    refine QW_p (k_rc (q1 _ _ rfl)) ?_
    refine QW_c q3 (fun r hr => ?_)
    obtain ⟨r1, r2⟩ := hr
    refine QW_g ⟨q2, by rw [r1]; exact q2⟩ ?_
    refine QW_it r1.symm ?_
    exact k3 r.1 r2
  refine QW_by (fun c14 => ?_) (fun c14 => ?_)
  · refine QW_p (ga _ (i + 1) (by omega) (by omega)) ?_
    generalize hp : (xs (i + 1).toNat).toInt = p
    have qp : q_in p := by rw [← hp]; exact qx _
    have t80 : s.2.2.1 80 = some (.inl (.long, 1, fun _ => none)) := hs 80 _ rfl
    have t00 : q_T s 0 = some (.inr (0, [some (.ref 1), some (.ref 6), some (.ref 18), none, some (.ref 19), some (.ref 20), some (.ref 35), some (.ref 37), none])) := hs 0 _ rfl
    have t0 : s.2.2.1 0 = some (.inr (0, [some (.ref 1), some (.ref 6), some (.ref 18), none, some (.ref 19), some (.ref 20), some (.ref 35), some (.ref 37), none])) := t00
    by_cases z : 0 ≤ p ∧ p < 10
    · refine QW_p (show q_tb o s (.ref 80) p (.ref 0) = some (q_sl s 80 0 (Int64.ofInt (tbl p)), 0) from ?_) ?_
      · simp only [q_tb, t80, t0, o2]
        rw [if_pos ⟨by decide, trivial, qp⟩, if_pos z, ← tbl_o z.1 (by omega)]
        rfl
      · dsimp only
        refine QW_p (ga _ (i + 1) (by omega) (by omega)) ?_
        rw [hp]
        have hs1 : SH (q_sl s 80 0 (Int64.ofInt (tbl p))) := hs
        refine QW_p (k_rc (hs1 _ _ rfl)) ?_
        refine QW_e (m_141 hs1 qp) ?_
        rw [if_neg (by omega)]
        dsimp only
        have hs2 : SH (q_sf (q_sl s 80 0 (Int64.ofInt (tbl p))) 38 0 0) := hs
        refine QW_p (k_rc (hs2 _ _ rfl)) ?_
        refine QW_e (m_92 hs2) ?_
        dsimp only
        rw [q_F_sf, if_pos ⟨rfl, rfl⟩]
        refine QW_g (by decide) ?_
        refine QW_it (by simp) ?_
        refine QW_g (by decide) ?_
        refine QW_if (by simp) ?_
        refine QW_p (k_la (hs2 _ _ rfl) (by decide) (by decide) (by decide)) ?_
        have tb := tbl_le p
        refine QW_g (by unfold q_in; omega) ?_
        refine QW_it (by rw [q_L_sf, q_L_sl, if_pos ⟨rfl, rfl⟩]) ?_
        exact k2 _ (h.tab hs1 (Nat.le_refl _) (Nat.le_succ _) (by show s.2.1 ≤ s.2.1 + 6; omega) rfl (fun a ha j => ⟨rfl, by rw [q_L_sl, if_neg (fun y => ha y.1)]⟩))
    · refine QW_p (show q_tb o s (.ref 80) p (.ref 0) = some ((s.1 + 1, s.2.1 + 6, s.2.2.1, s.2.2.2.1, s.2.2.2.2), 1) from ?_) ?_
      · simp only [q_tb, t80, t0, o2]
        rw [if_pos ⟨by decide, trivial, qp⟩, if_neg z]
      · dsimp only
        have hs1 : SH ((s.1 + 1, s.2.1 + 6, s.2.2.1, s.2.2.2.1, s.2.2.2.2) : Q_S) := hs
        refine QW_p (ga _ (i + 1) (by omega) (by omega)) ?_
        rw [hp]
        refine QW_p (k_rc (hs1 _ _ rfl)) ?_
        refine QW_e (m_141 hs1 qp) ?_
        rw [if_pos (by omega)]
        dsimp only
        have hs2 : SH (q_sf ((s.1 + 1, s.2.1 + 6, s.2.2.1, s.2.2.2.1, s.2.2.2.2) : Q_S) 38 0 1) := hs
        refine QW_p (k_rc (hs2 _ _ rfl)) ?_
        refine QW_e (m_92 hs2) ?_
        dsimp only
        rw [q_F_sf, if_pos ⟨rfl, rfl⟩]
        refine QW_g (by decide) ?_
        refine QW_it (by simp) ?_
        refine QW_g (by decide) ?_
        refine QW_it (by simp) ?_
        exact k2 _ (h.tab hs1 (Nat.le_succ _) (Nat.le_refl _) (Nat.le_refl _) rfl (fun a ha j => ⟨rfl, rfl⟩))
  refine QW_it (by omega) ?_
  refine QW_p (ga _ (i + 1) (by omega) (by omega)) ?_
  refine QW_p (k_rc (hs _ _ rfl)) ?_
  refine QW_c (e_tld h (qx _) hm) (fun q hq => ?_)
  obtain ⟨q1, q2, q3⟩ := hq
  refine QW_p (ga _ (i + 1) (by omega) (by omega)) ?_
  refine QW_p (k_rc (q1 _ _ rfl)) ?_
  refine QW_c q3 (fun r hr => ?_)
  obtain ⟨r1, r2⟩ := hr
  refine QW_g ⟨q2, by rw [r1]; exact q2⟩ ?_
  refine QW_it r1.symm ?_
  exact k3 r.1 r2
theorem law_loop {o : X_O} {L : Nat} {xs : Nat → Int32} (o0 : o 0 = some (L, xs)) (o1 : o 1 = some (66, fun i => x_WANTED.getD i 0)) (o2 : o 2 = some (10, fun i => x_TABLE.getD i 0)) (hL : L ≤ 2560) (hK : 61 ≤ K + 1) {F : Nat} (hF : (600000000 : Int) ≤ F) : ∀ (f : Nat) (m : Int) (s : Q_S), TP (K + 1) m s → 0 ≤ m → m + f = 600 → QW (fun n => g_152 o n 1 s (.retAddr 0) (.ref 0) (.ref 38) (.ref 80) (5 * m)) (fun q => q.2 = 1 ∧ q.1.1 ≤ 601024 ∧ q.1.2.1 ≤ 7293034) := by
  have fin : ∀ (m : Int) (s : Q_S), TP (K + 1) m s → 0 ≤ m → m ≤ 600 → (L : Int) - 5 < 5 * m → QW (fun n => g_152 o n 1 s (.retAddr 0) (.ref 0) (.ref 38) (.ref 80) (5 * m)) (fun q => q.2 = 1 ∧ q.1.1 ≤ 601024 ∧ q.1.2.1 ≤ 7293034) := fun m s h h0 h6 hl => by
    refine QW_s ?_
    simp only [g_152]
    refine QW_p (k_ol o0) ?_
    refine QW_g (by unfold q_in; omega) ?_
    refine QW_it hl ?_
    have := h.sz (by omega)
    exact QW_ret ⟨rfl, this.1, this.2⟩
  intro f
  induction f with
  | zero => intro m s h h0 hm; exact fin m s h h0 (by omega) (by simp at hm; omega)
  | succ f ih =>
    intro m s h h0 hm
    push_cast at hm
    by_cases z : (L : Int) - 5 < 5 * m
    · exact fin m s h h0 (by omega) z
    · refine law_step o0 o1 o2 hL hK hF h ⟨h0, by omega⟩ rfl (by omega) (fun s' hs' => ?_)
      rw [show 5 * m + 5 = 5 * (m + 1) by omega]
      exact ih (m + 1) s' hs' (by omega) (by omega)
end LOOPC
/-- the law's method over the script -/
theorem law_g (L : Nat) (xs : Nat → Int32) (hL : L ≤ 2560) : QW (fun n => g_152 (x_out L xs) n 0 (0, 0, (fun _ => none), (fun _ _ => 0), (fun _ _ => 0)) (.retAddr 0) .null .null .null 0) (fun q => q.2 = 1 ∧ q.1.1 ≤ 601024 ∧ q.1.2.1 ≤ 7293034) := by
  obtain ⟨K, hK⟩ : ∃ K : Nat, 61 ≤ K + 1 := ⟨61, by decide⟩
  obtain ⟨F, hF⟩ : ∃ F : Nat, (600000000 : Int) ≤ F := ⟨600000000, by decide⟩
  have h0 : CIn 0 (fun _ => none) 0 ((0, 0, (fun _ => none), (fun _ _ => 0), (fun _ _ => 0)) : Q_S) := ⟨rfl, Nat.le_refl _, fun a t ha => by omega, fun _ _ => rfl, fun _ _ _ => rfl⟩
  generalize ((0, 0, (fun _ => none), (fun _ _ => 0), (fun _ _ => 0)) : Q_S) = s at h0
  refine QW_s ?_
  simp only [g_152]
  rw [h0.1]
  refine ci_O h0 (fun s1 h1 _ => ?_)
  refine QW_c (k_0 h1) (fun q2 h2 => ?_)
  rw [h2.1.1]
  refine ci_O h2.1 (fun s3 h3 e3 => ?_)
  refine QW_c (k_91 h3 ((e3 20 0 (by omega)).trans h2.2)) (fun q4 h4 => ?_)
  rw [h4.1.1]
  refine ci_a (R := 1) h4.1 rfl (by decide) rfl rfl (fun s5 h5 e5 => ?_)
  have l0 : (x_dfl 0).length = 9 := rfl
  have l7 : (x_dfl 7).length = 60 := rfl
  rw [l0, l7] at h5
  have tp := tp_0 (K := K) h5 (by omega) ((e5 20 0 (by omega)).trans h4.2.1) ((e5 38 17 (by omega)).trans h4.2.2)
  exact law_loop rfl rfl rfl hL hK hF 600 0 s5 tp (Int.le_refl _) (by decide)
/-- the pure claim -/
theorem x_law_all (L : Nat) (xs : Nat → Int32) (hL : L ≤ 2560) : x_law L xs := by
  obtain ⟨N, a, ⟨a1, a2, a3⟩, hN⟩ := law_g L xs hL
  obtain ⟨s9, r⟩ := a
  have h := hN N (Nat.le_refl _)
  have c := (c_152 (x_out L xs) N).1 577 (Nat.le_refl _) _ _ _ _ _ _ _ _ h [(0, .retAddr 0)] rfl rfl
  have a1 : r = 1 := a1
  obtain ⟨n, w', r', hr, s', hw, hs', hr'⟩ := c
  refine ⟨n, 577, w', by decide, ?_, ?_, ?_⟩
  · have e : y_w (q_y ((0, 0, (fun _ => none), (fun _ _ => 0), (fun _ _ => 0)) : Q_S)) = (0, 0, fun _ => none) := rfl
    rw [e] at hr
    rw [hr, hr', a1]
    rfl
  · rw [hw, hs']
    exact a2
  · rw [hw, hs']
    exact a3
