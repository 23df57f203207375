/-! THE WHOLE STATE -/
abbrev RU (K : Nat) : Type := Int × Int × GT × BT K × (Int × Int × Int)
/-- the class's run -/
def CLr (K : Nat) (Ps : Int → PT) (szs ths : Int → Int → Int) (rc : Int → Nat) (nP : Int) (sig : Int → Int64) (s : Q_S) (c room : Nat) : Option (RU K) → Prop
  | none => q_T s 20 = some (sh20 .null .null) ∧ (∃ v, VW s 24 c room v) ∧ q_F s 20 0 = 3 ∧ q_F s 20 3 = 0 ∧ q_F s 20 4 = 0 ∧ (∀ j, 0 ≤ j → j < 16 → q_L s 21 j = 0) ∧ (∀ j, 0 ≤ j → j < 8 → q_L s 22 j = 0)
  | some x => CR Ps szs ths rc nP sig s c room x.1 x.2.1 x.2.2.1 x.2.2.2.1 x.2.2.2.2
/-- the class, but for the row of its programs -/
def CLc (K : Nat) (T : PT) (Ps : Int → PT) (szs ths : Int → Int → Int) (rc : Int → Nat) (nP : Int) (sig : Int → Int64) (c room : Nat) (ru : Option (RU K)) (nS : Int) (sv : Int → Nat) (R : Int → RU K) (s : Q_S) : Prop :=
  CP Ps szs ths rc nP sig s c ∧ NRc T s ∧ SVs K Ps szs rc nP s c room nS sv R ∧ 9 ≤ room ∧ (∀ k, 0 ≤ k → k < nP → q_F s (rc k) 9 = fstLk Ps k 20 0) ∧ CLr K Ps szs ths rc nP sig s c room ru
/-- the reference -/
def RFr (K : Nat) (Ps : Int → PT) (szs : Int → Int → Int) (nP : Int) (sig : Int → Int64) (s : Q_S) : Option (RU K) → Prop
  | none => q_F s 38 17 = 3 ∧ (q_F s 38 22 = 0 ∨ q_F s 38 22 = 1)
  | some x => MR Ps szs nP sig s x.1 x.2.1 x.2.2.1 x.2.2.2.1 x.2.2.2.2
def RFs (K : Nat) (T : PT) (Ps : Int → PT) (szs : Int → Int → Int) (nP : Int) (sig : Int → Int64) (ru : Option (RU K)) (nS : Int) (R : Int → RU K) (s : Q_S) : Prop :=
  RGl Ps nP sig s ∧ NRr T s ∧ SVr K Ps szs nP s nS R ∧ RFr K Ps szs nP sig s ru
def ALq (st : Int) (al : Int × Int × Int) : Prop := st = 2 → q_in al.1 ∧ q_in al.2.1 ∧ q_in al.2.2
/-- what both share -/
def COM (K : Nat) (T : PT) (Ps : Int → PT) (szs ths : Int → Int → Int) (nP : Int) (ru : Option (RU K)) (nS : Int) (R : Int → RU K) (m : Int) : Prop :=
  (0 ≤ nP ∧ nP ≤ 20) ∧ NV T ∧ (∀ k, 0 ≤ k → k < nP → LD T (Ps k) (szs k) ∧ TH (Ps k) (ths k)) ∧ (∀ x, ru = some x → x.2.1 ≤ 10000 * m ∧ ALq x.1 x.2.2.2.2) ∧ (∀ k, 0 ≤ k → k < nS → (R k).2.1 ≤ 10000 * m ∧ ALq (R k).1 (R k).2.2.2.2)
def SZq (s : Q_S) (room : Nat) (nP nS m : Int) : Prop := (s.1 : Int) ≤ 81 + 8 * nP + 15 * nS + room + m ∧ (s.2.1 : Int) ≤ 3000000 + 4000 * nP + 70000 * nS + 20 * room + 6 * m
def TQ (K : Nat) (T : PT) (Ps : Int → PT) (szs ths : Int → Int → Int) (rc : Int → Nat) (nP : Int) (sig : Int → Int64) (c room : Nat) (ru : Option (RU K)) (nS : Int) (sv : Int → Nat) (R : Int → RU K) (m : Int) (s : Q_S) : Prop :=
  CLc K T Ps szs ths rc nP sig c room ru nS sv R s ∧ PA s nP rc ∧ RFs K T Ps szs nP sig ru nS R s ∧ COM K T Ps szs ths nP ru nS R m ∧ SZq s room nP nS m
/-- the state behind m calls -/
def TP (K : Nat) (m : Int) (s : Q_S) : Prop := ∃ T Ps szs ths rc nP sig c room ru nS sv R, TQ K T Ps szs ths rc nP sig c room ru nS sv R m s
/-- what the reference's calls leave alone, what the class's do -/
def FRr (s s' : Q_S) : Prop := s'.1 = s.1 ∧ s'.2.1 = s.2.1 ∧ s'.2.2.1 = s.2.2.1 ∧ ∀ a, ¬ (38 ≤ a ∧ a ≤ 79) → ∀ j, q_I s' a j = q_I s a j ∧ q_L s' a j = q_L s a j
def FRc (s s' : Q_S) : Prop := SH s' ∧ ∀ a, 38 ≤ a ∧ a ≤ 79 → ∀ j, q_I s' a j = q_I s a j ∧ q_L s' a j = q_L s a j
section TOPA
variable {K : Nat} {T T' : PT} {Ps : Int → PT} {szs ths : Int → Int → Int} {rc : Int → Nat} {nP : Int} {sig : Int → Int64} {c room : Nat} {ru : Option (RU K)} {nS : Int} {sv : Int → Nat} {R : Int → RU K} {m : Int} {s s' s2 : Q_S}
theorem CLr.vw (h : CLr K Ps szs ths rc nP sig s c room ru) : (∃ v, VW s 24 c room v) ∧ ∃ rw wt, q_T s 20 = some (sh20 rw wt) := by
  cases ru with
  | none => exact ⟨h.2.1, _, _, h.1⟩
  | some x =>
    obtain ⟨⟨b, g1⟩, h0, -, g4, hg, ⟨v, g2, -⟩, -⟩ := h
    exact ⟨⟨v, g2⟩, _, _, g1.2.1⟩
theorem CLr.mv {sig' : Int → Int64} (h : CLr K Ps szs ths rc nP sig s c room ru) (h9 : 9 ≤ room) (hC : CP Ps szs ths rc nP sig' s' c) (hn : s.1 ≤ s'.1) (hc : c = 24 ∨ 80 ≤ c) (e : ∀ a, (20 ≤ a ∧ a ≤ 34) ∨ (80 < a ∧ a < s.1) → q_T s' a = q_T s a ∧ ∀ j, q_I s' a j = q_I s a j ∧ q_L s' a j = q_L s a j)   : CLr K Ps szs ths rc nP sig' s' c room ru := by
  have vb := h.vw
  obtain ⟨⟨v0, w0⟩, -⟩ := vb
  have hcn : c + 10 < s.1 := w0.2.2.2.2.2.2.2.2.2.2.2.2.1
  cases ru with
  | none =>
    obtain ⟨h1, ⟨v, h2⟩, h3, h4, h5, h6, h7⟩ := h
    have e20 := e 20 (Or.inl (by omega))
    refine ⟨e20.1.trans h1, ⟨v, h2.same (fun a ha => e a (by omega)) hn⟩, (e20.2 _).1.trans h3, (e20.2 _).1.trans h4, (e20.2 _).1.trans h5, fun j j0 j1 => ((e 21 (Or.inl (by omega))).2 j).2.trans (h6 j j0 j1), fun j j0 j1 => ((e 22 (Or.inl (by omega))).2 j).2.trans (h7 j j0 j1)⟩
  | some x =>
    obtain ⟨hC0, hR, h9⟩ := CR.rn h
    exact RNm.cr hC (hR.ext (Int.le_refl _) hn (fun a ha => e a (by omega))) h9
theorem NRc.mv (hN : NRc T s) (e : ∀ a, 1 ≤ a ∧ a ≤ 5 → ∀ j, q_I s' a j = q_I s a j ∧ q_L s' a j = q_L s a j) : NRc T s' := by
  obtain ⟨n0, n1, h1, g, g4⟩ := hN
  refine ⟨n0, n1, (e 1 (by decide) 4).1.trans h1, fun i i0 i1 => ?_, fun i i0 i1 => (e 4 (by decide) i).2.trans (g4 i i0 i1)⟩
  obtain ⟨⟨b1, b2, b3, b4, b5⟩, b6⟩ := g i i0 i1
  exact ⟨⟨(e 2 (by decide) i).1.trans b1, fun j j0 j3 hj => (e 3 (by decide) _).1.trans (b2 j j0 j3 hj), fun hw => (e 3 (by decide) _).1.trans (b3 hw), fun hw => (e 3 (by decide) _).1.trans (b4 hw), fun hw => (e 4 (by decide) _).2.trans (b5 hw)⟩, (e 5 (by decide) i).1.trans b6⟩
theorem NRr.mv (hN : NRr T s) (e : ∀ a, 38 ≤ a ∧ a ≤ 43 → ∀ j, q_I s' a j = q_I s a j ∧ q_L s' a j = q_L s a j) : NRr T s' := by
  obtain ⟨n0, n1, h1, g⟩ := hN
  refine ⟨n0, n1, (e 38 (by decide) 1).1.trans h1, fun i i0 i1 => ?_⟩
  obtain ⟨b0, b1, b2, b3, b4, b5⟩ := g i i0 i1
  exact ⟨b0, (e 39 (by decide) i).1.trans b1, (e 40 (by decide) i).2.trans b2, (e 41 (by decide) i).1.trans b3, (e 42 (by decide) i).1.trans b4, (e 43 (by decide) i).1.trans b5⟩
/-- the class where only its nodes, its layout and the reference's cells have changed -/
theorem CLc.mv (h : CLc K T Ps szs ths rc nP sig c room ru nS sv R s) (hs : SH s') (hn : s.1 ≤ s'.1) (e0 : q_F s' 0 8 = q_F s 0 8) (e37 : q_T s' 37 = q_T s 37) (e : ∀ a, (19 ≤ a ∧ a ≤ 34) ∨ (80 < a ∧ a < s.1) → q_T s' a = q_T s a ∧ ∀ j, q_I s' a j = q_I s a j ∧ q_L s' a j = q_L s a j) (hN : NRc T' s') : CLc K T' Ps szs ths rc nP sig c room ru nS sv R s' := by
  obtain ⟨a1, a2, a3, a4, a5, a6⟩ := h
  have hC : CP Ps szs ths rc nP sig s' c := a1.ext hn hs (fun j => ((e 19 (Or.inl (by omega))).2 j).2) (fun a h0 h1 _ => e a (Or.inr ⟨h0, h1⟩))
  refine ⟨hC, hN, a3.old (X := fun a => a < 81) ⟨hn, fun a h0 h1 => e a (Or.inr ⟨by omega, h0⟩)⟩ (fun a h => Or.inl h) e0 e37 (Nat.le_refl _) (Or.inl rfl), a4, fun k k0 k1 => ?_, a6.mv a4 hC hn a1.2.2.1 (fun a h => e a (by omega))⟩
  obtain ⟨b1, b2, b3, b4⟩ := a1.2.2.2.2 k k0 k1
  exact ((e (rc k) (Or.inr ⟨b2, by omega⟩)).2 9).1.trans (a5 k k0 k1)
theorem PA.mv (h : PA s nP rc) (e18 : q_T s' 18 = q_T s 18) (e3 : q_F s' 0 3 = q_F s 0 3) : PA s' nP rc := by
  obtain ⟨g, g1, g2, g3, g4, g5⟩ := h
  exact ⟨g, e18.trans g1, g2, e3.trans g3, g4, g5⟩
/-- a call of the reference leaves the class -/
theorem CLc.rf (h : CLc K T Ps szs ths rc nP sig c room ru nS sv R s) (f : FRr s s') : CLc K T Ps szs ths rc nP sig c room ru nS sv R s' := by
  obtain ⟨f1, f2, f3, f4⟩ := f
  exact h.mv (sh_T h.1.1 f3) (by omega) (f4 0 (by decide) 8).1 (congrFun f3 37) (fun a ha => ⟨congrFun f3 a, fun j => f4 a (by omega) j⟩) (h.2.1.mv (fun a ha j => f4 a (by omega) j))
theorem PA.rf (h : PA s nP rc) (f : FRr s s') : PA s' nP rc := h.mv (congrFun f.2.2.1 18) (f.2.2.2 0 (by decide) 3).1
theorem mP_mv (e : ∀ a, 38 ≤ a ∧ a ≤ 79 → ∀ j, q_I s' a j = q_I s a j ∧ q_L s' a j = q_L s a j) (k : Int) : m_P s' k = m_P s k := by
  have i45 : ∀ c, 45 ≤ c ∧ c ≤ 51 → ∀ j, q_I s' c j = q_I s c j := fun c hc j => (e c (by omega) j).1
  have i47 : ∀ j, q_L s' 47 j = q_L s 47 j := fun j => (e 47 (by omega) j).2
  unfold m_P
  simp only [i45 45 (by decide), i45 46 (by decide), i45 48 (by decide), i45 49 (by decide), i45 50 (by decide), i45 51 (by decide), i47]
theorem RGl.mv (h : RGl Ps nP sig s) (f : FRc s s') : RGl Ps nP sig s' := by
  obtain ⟨a1, a2, a3, a4, a5, a6⟩ := h
  obtain ⟨f1, f2⟩ := f
  have f38 : ∀ j : Nat, q_F s' 38 j = q_F s 38 j := fun j => (f2 38 (by decide) j).1
  exact ⟨f1, (f38 8).trans a2, fun k k0 k1 => (mP_mv f2 k).trans (a3 k k0 k1), fun j j0 j1 => (f2 44 (by decide) j).2.trans (a4 j j0 j1), by rw [f38]; exact a5, by rw [f38]; exact a6⟩
/-- a call of the class leaves the reference -/
theorem RFs.cl (h : RFs K T Ps szs nP sig ru nS R s) (f : FRc s s') (hW : ∀ k, 0 ≤ k → k < nP → WP (Ps k) (szs k)) (hn : nP ≤ 20) : RFs K T Ps szs nP sig ru nS R s' := by
  obtain ⟨a1, a2, a3, a4⟩ := h
  have g := a1.mv f
  have f2 := f.2
  have f38 : ∀ j : Nat, q_F s' 38 j = q_F s 38 j := fun j => (f2 38 (by decide) j).1
  refine ⟨g, a2.mv (fun a ha j => f2 a (by omega) j), a3.mv (fun c hc j => f2 c (by omega) j) (f38 50), ?_⟩
  cases ru with
  | none => exact ⟨(f38 17).trans a4.1, by rw [f38]; exact a4.2⟩
  | some x =>
    refine MR.copy a4 ⟨fun f _ => f38 f, fun x _ _ => (f2 52 (by decide) x).2, fun x _ _ => (f2 53 (by decide) x).2, fun x _ _ => (f2 54 (by decide) x).1, fun x _ _ => ?_, fun x _ _ => ?_⟩ g ⟨Int.le_refl _, hn⟩ (fun _ _ _ => ⟨rfl, rfl⟩) hW
    · exact ⟨(f2 61 (by decide) x).1, (f2 58 (by decide) x).2, (f2 55 (by decide) x).1, (f2 56 (by decide) x).1, (f2 57 (by decide) x).1, (f2 59 (by decide) x).1, (f2 60 (by decide) x).1⟩
    · exact ⟨(f2 69 (by decide) x).1, (f2 62 (by decide) x).1, (f2 63 (by decide) x).1, (f2 64 (by decide) x).1, (f2 65 (by decide) x).1, (f2 66 (by decide) x).2, (f2 67 (by decide) x).2, (f2 68 (by decide) x).2⟩
/-- the reference, its code alone changed -/
theorem RGl.s0 (h : RGl Ps nP sig s) {f : Nat} {v : Int} (hf : f = 0 ∨ f = 49) : RGl Ps nP sig (q_sf s 38 f v) := by
  obtain ⟨a1, a2, a3, a4, a5, a6⟩ := h
  have e : ∀ g : Nat, g ≠ 0 → g ≠ 49 → q_F (q_sf s 38 f v) 38 g = q_F s 38 g := fun g h1 h2 => by rw [q_F_sf, if_neg (fun z => by omega)]
  exact ⟨a1, (e 8 (by decide) (by decide)).trans a2, fun k k0 k1 => (m_P0 k).trans (a3 k k0 k1), a4, by rw [e 36 (by decide) (by decide)]; exact a5, by rw [e 36 (by decide) (by decide)]; exact a6⟩
theorem RFs.s0 (h : RFs K T Ps szs nP sig ru nS R s) {f : Nat} {v : Int} (hf : f = 0 ∨ f = 49) : RFs K T Ps szs nP sig ru nS R (q_sf s 38 f v) := by
  obtain ⟨a1, a2, a3, a4⟩ := h
  have e : ∀ g : Nat, g ≠ 0 → g ≠ 49 → q_F (q_sf s 38 f v) 38 g = q_F s 38 g := fun g h1 h2 => by rw [q_F_sf, if_neg (fun z => by omega)]
  have eI : ∀ a j, a ≠ 38 → q_I (q_sf s 38 f v) a j = q_I s a j := fun a j ha => by rw [q_I_sf, if_neg (fun z => ha z.1)]
  refine ⟨a1.s0 hf, ?_, a3.mv (fun c hc j => ⟨eI c j (by omega), rfl⟩) (e 50 (by decide) (by decide)), ?_⟩
  · obtain ⟨n0, n1, h1, g⟩ := a2
    refine ⟨n0, n1, (e 1 (by decide) (by decide)).trans h1, fun i i0 i1 => ?_⟩
    obtain ⟨b0, b1, b2, b3, b4, b5⟩ := g i i0 i1
    exact ⟨b0, (eI 39 _ (by decide)).trans b1, b2, (eI 41 _ (by decide)).trans b3, (eI 42 _ (by decide)).trans b4, (eI 43 _ (by decide)).trans b5⟩
  · cases ru with
    | none => exact ⟨(e 17 (by decide) (by decide)).trans a4.1, by rw [e 22 (by decide) (by decide)]; exact a4.2⟩
    | some x => exact MR.s0 a4 (by omega)
theorem FRr.sf {f : Nat} {v : Int} : FRr s (q_sf s 38 f v) := ⟨rfl, rfl, rfl, fun a ha j => ⟨by rw [q_I_sf, if_neg (fun z => by omega)], rfl⟩⟩
theorem FRr.tr (h : FRr s s') (g : FRr s' s2) : FRr s s2 := by
  obtain ⟨a1, a2, a3, a4⟩ := h
  obtain ⟨b1, b2, b3, b4⟩ := g
  exact ⟨b1.trans a1, b2.trans a2, b3.trans a3, fun a ha j => ⟨(b4 a ha j).1.trans (a4 a ha j).1, (b4 a ha j).2.trans (a4 a ha j).2⟩⟩
theorem FRr.kn (h : KNr s s') : FRr s s' := ⟨h.1, h.2.1, h.2.2.1, fun a ha j => h.2.2.2.1 a (by omega) j⟩
theorem FRr.km (h : KM s s') : FRr s s' := ⟨h.1.1, h.1.2.1, h.1.2.2, fun a ha j => h.2.1 a (by omega) (by omega) j⟩
theorem FRr.kt (h : KT s s') : FRr s s' := ⟨h.1, h.2.1, h.2.2.1, fun a ha j => h.2.2.2.1 a (by omega) j⟩
theorem SZq.rf {nP nS m : Int} (h : SZq s room nP nS m) (f : FRr s s') : SZq s' room nP nS (m + 1) := by
  unfold SZq at h ⊢
  rw [f.1, f.2.1]
  omega
theorem SZq.up {nP nS m : Int} (h : SZq s room nP nS m) : SZq s room nP nS (m + 1) := by
  unfold SZq at h ⊢
  omega
theorem COM.up (h : COM K T Ps szs ths nP ru nS R m) : COM K T Ps szs ths nP ru nS R (m + 1) := by
  obtain ⟨a1, a2, a3, a4, a5⟩ := h
  exact ⟨a1, a2, a3, fun x hx => ⟨by have := (a4 x hx).1; omega, (a4 x hx).2⟩, fun k k0 k1 => ⟨by have := (a5 k k0 k1).1; omega, (a5 k k0 k1).2⟩⟩
theorem TQ.wp (h : TQ K T Ps szs ths rc nP sig c room ru nS sv R m s) : ∀ k, 0 ≤ k → k < nP → WP (Ps k) (szs k) := fun k k0 k1 => (h.2.2.2.1.2.2.1 k k0 k1).1.wp h.2.2.2.1.2.1 h.1.2.1.2.1
theorem TQ.sh (h : TQ K T Ps szs ths rc nP sig c room ru nS sv R m s) : SH s := h.1.1.1
/-- the same state, told by the reference's code alone -/
theorem TQ.same (h : TQ K T Ps szs ths rc nP sig c room ru nS sv R m s) : TQ K T Ps szs ths rc nP sig c room ru nS sv R (m + 1) (q_sf s 38 0 0) := ⟨h.1.rf FRr.sf, h.2.1.rf FRr.sf, h.2.2.1.s0 (Or.inl rfl), h.2.2.2.1.up, h.2.2.2.2.rf FRr.sf⟩
end TOPA
