/-! EACH CALL: make -/
section CALE
variable {o : X_O} {K : Nat} {T T' : PT} {Ps Ps' : Int → PT} {szs ths szs' ths' : Int → Int → Int} {rc rc' : Int → Nat} {nP : Int} {sig : Int → Int64} {c room : Nat} {ru : Option (RU K)} {nS : Int} {sv : Int → Nat} {R : Int → RU K} {m : Int} {s s' s2 : Q_S} {st sec : Int} {G : GT} {t : BT K} {al : Int × Int × Int}
theorem RFs.km (h : RFs K T Ps szs nP sig ru nS R s) (f : KM s s') (h8 : q_F s' 38 8 = nP) (hm : ∀ j, j < nP → m_P s' j = m_P s j) (hW : ∀ k, 0 ≤ k → k < nP → WP (Ps k) (szs k)) (hn : nP ≤ 20) : RFs K T Ps szs nP sig ru nS R s' := by
  obtain ⟨⟨a1, a2, a3, a4, a5, a6⟩, b2, b3, b4⟩ := h
  obtain ⟨⟨f1, f2, f3⟩, f4, f5⟩ := f
  have e : ∀ f : Nat, f = 1 ∨ (17 ≤ f) → q_F s' 38 f = q_F s 38 f := fun f hf => f5 f (by omega) (by omega) (by omega)
  have g : RGl Ps nP sig s' := ⟨sh_T a1 f3, h8, fun k k0 k1 => (hm k k1).trans (a3 k k0 k1), fun j j0 j1 => (f4 44 (by decide) (by decide) j).2.trans (a4 j j0 j1), by rw [e 36 (by decide)]; exact a5, by rw [e 36 (by decide)]; exact a6⟩
  refine ⟨g, ?_, b3.mv (fun c hc j => f4 c (by omega) (by omega) j) (e 50 (by decide)), ?_⟩
  · obtain ⟨k0, k1, d1, d2⟩ := b2
    refine ⟨k0, k1, (e 1 (by decide)).trans d1, fun i i0 i1 => ?_⟩
    obtain ⟨x0, x1, x2, x3, x4, x5⟩ := d2 i i0 i1
    exact ⟨x0, (f4 39 (by decide) (by decide) i).1.trans x1, (f4 40 (by decide) (by decide) i).2.trans x2, (f4 41 (by decide) (by decide) i).1.trans x3, (f4 42 (by decide) (by decide) i).1.trans x4, (f4 43 (by decide) (by decide) i).1.trans x5⟩
  · cases ru with
    | none => exact ⟨(e 17 (by decide)).trans b4.1, by rw [e 22 (by decide)]; exact b4.2⟩
    | some x =>
      refine MR.copy b4 ⟨fun f hf => e f (by omega), fun x _ _ => (f4 52 (by decide) (by decide) x).2, fun x _ _ => (f4 53 (by decide) (by decide) x).2, fun x _ _ => (f4 54 (by decide) (by decide) x).1, fun x _ _ => ?_, fun x _ _ => ?_⟩ g ⟨Int.le_refl _, hn⟩ (fun _ _ _ => ⟨rfl, rfl⟩) hW
      · exact ⟨(f4 61 (by decide) (by decide) x).1, (f4 58 (by decide) (by decide) x).2, (f4 55 (by decide) (by decide) x).1, (f4 56 (by decide) (by decide) x).1, (f4 57 (by decide) (by decide) x).1, (f4 59 (by decide) (by decide) x).1, (f4 60 (by decide) (by decide) x).1⟩
      · exact ⟨(f4 69 (by decide) (by decide) x).1, (f4 62 (by decide) (by decide) x).1, (f4 63 (by decide) (by decide) x).1, (f4 64 (by decide) (by decide) x).1, (f4 65 (by decide) (by decide) x).1, (f4 66 (by decide) (by decide) x).2, (f4 67 (by decide) (by decide) x).2, (f4 68 (by decide) (by decide) x).2⟩
/-- one program more, of which no run knows -/
theorem RNm.grow {A ca rm : Nat} {ub : Int} (h : RNm Ps szs rc nP s A ca rm ub st sec G t al) (hP : ∀ k, 0 ≤ k → k < nP → Ps' k = Ps k ∧ szs' k = szs k) (hc : ∀ k, 0 ≤ k → k < nP → rc' k = rc k) (hn : nP + 1 ≤ 20) (hW : ∀ k, 0 ≤ k → k < nP + 1 → WP (Ps' k) (szs' k)) : RNm Ps' szs' rc' (nP + 1) s A ca rm ub st sec G t al := by
  obtain ⟨u1, u2, u3, u6, u7, u8, u9, u10, ⟨v, w1, w2, w3, w4, w5⟩, u12, u13⟩ := h
  have pg0 := u10.2.2.2.2.2.1
  have pg1 := u10.2.2.2.2.2.2.1
  have hsw := u10.2.2.2.2.2.2.2.1
  obtain ⟨e1, e2⟩ := hP _ pg0 pg1
  have e3 := hc _ pg0 pg1
  refine ⟨?_, u2, u3, u6, u7, u8, u9, u10.copy ⟨by omega, hn⟩ hP hW, ⟨v, w1, w2, w3, w4, ?_⟩, ?_, u13⟩
  · rw [e3]
    by_cases z : G_sw G = -1
    · rw [if_pos z] at u1 ⊢
      exact u1
    · rw [if_neg z] at u1 ⊢
      have := hsw.resolve_left z
      rw [hc _ this.1 this.2]
      exact u1
  · rw [e1]
    exact w5
  · rw [e1, e2]
    exact u12
theorem CLc.grow (h : CLc K T Ps szs ths rc nP sig c room ru nS sv R s) (hP : ∀ k, 0 ≤ k → k < nP → Ps' k = Ps k ∧ szs' k = szs k) (hc : ∀ k, 0 ≤ k → k < nP → rc' k = rc k ∧ ths' k = ths k) (hn : nP + 1 ≤ 20) (hW : ∀ k, 0 ≤ k → k < nP + 1 → WP (Ps' k) (szs' k)) (hR : RW s (rc' nP) (Ps' nP) (szs' nP) (ths' nP) ∧ 80 < rc' nP ∧ (rc' nP + 7 ≤ c ∨ c + 10 < rc' nP) ∧ rc' nP + 7 < s.1) (h9 : q_F s (rc' nP) 9 = fstLk Ps' nP 20 0) : CLc K T Ps' szs' ths' rc' (nP + 1) sig c room ru nS sv R s := by
  obtain ⟨⟨a1, a2, a3, a4, a5⟩, b2, ⟨b3, b4, b5, b6, b7⟩, b8, b9, b10⟩ := h
  have hC : CP Ps' szs' ths' rc' (nP + 1) sig s c := by
    refine ⟨a1, a2, a3, a4, fun k k0 k1 => ?_⟩
    by_cases z : k = nP
    · rw [z]; exact hR
    · rw [(hP k k0 (by omega)).1, (hP k k0 (by omega)).2, (hc k k0 (by omega)).1, (hc k k0 (by omega)).2]
      exact a5 k k0 (by omega)
  refine ⟨hC, b2, ⟨b3, b4, b5, b6, fun k k0 k1 => ?_⟩, b8, fun k k0 k1 => ?_, ?_⟩
  · obtain ⟨⟨rm, d1⟩, d2⟩ := b7 k k0 k1
    exact ⟨⟨rm, d1.grow hP (fun k k0 k1 => (hc k k0 k1).1) hn hW⟩, d2⟩
  · by_cases z : k = nP
    · rw [z]; exact h9
    · rw [(hc k k0 (by omega)).1, b9 k k0 (by omega)]
      exact (fst_cg (fun j j0 j1 => (hP j j0 (by omega)).1) 20 0 (Int.le_refl _) k0).symm
  · cases ru with
    | none => exact b10
    | some x =>
      obtain ⟨-, d1, d2⟩ := CR.rn b10
      exact RNm.cr hC (d1.grow hP (fun k k0 k1 => (hc k k0 k1).1) hn hW) d2
theorem SVr.grow (h : SVr K Ps szs nP s nS R) (hP : ∀ k, 0 ≤ k → k < nP → Ps' k = Ps k ∧ szs' k = szs k) : SVr K Ps' szs' (nP + 1) s nS R := by
  obtain ⟨a1, a2, a3, a4⟩ := h
  refine ⟨a1, a2, a3, fun k k0 k1 => ?_⟩
  obtain ⟨r, Ps0, szs0, nP0, sig0, b1, b2, b3, b4⟩ := a4 k k0 k1
  refine ⟨r, Ps0, szs0, nP0, sig0, b1, b2, by omega, fun j j0 j1 => ?_⟩
  rw [(hP j j0 (by omega)).1, (hP j j0 (by omega)).2]
  exact b4 j j0 j1
theorem numC_ag {P P' : PT} (h : AG P P') {q : Int} (q0 : 0 ≤ q) (q1 : q < P_n P) : numC P' q = numC P q := by
  obtain ⟨a1, a2, a3, a4, a5, a6⟩ := h.2 q q0 q1
  unfold numC
  rw [a1, a2, a5]
/-- like a program, or of the same rows -/
theorem like_of_SR {P0 P1 P2 : PT} {sz0 sz2 : Int → Int} (hV : NV T) (hn : P_n T ≤ 300) (h0 : LD T P0 sz0) (h2 : LD T P2 sz2) (ag : AG P0 P1) : likeP P2 P1 = true ↔ SR P0 P2 := by
  have n0 := (h0.wp hV hn).1
  have n2 := (h2.wp hV hn).1
  constructor
  · intro h
    obtain ⟨a, b⟩ := like_SR (by omega) h
    refine ⟨by rw [← a]; exact ag.1, fun q q0 q1 => ?_⟩
    obtain ⟨x, y⟩ := b q q0 (by have := ag.1; omega)
    rw [(ag.2 q q0 q1).1] at x
    rw [numC_ag ag q0 q1] at y
    exact ⟨x.symm, y.symm⟩
  · intro h
    obtain ⟨r0, N0, U0, D0, -, -, -, a4, a5, -⟩ := h0
    obtain ⟨r2, N2, U2, D2, -, -, -, b4, b5, -⟩ := h2
    have ag2 := (SR.ag hV hn a4 a5 b4 b5 h).1
    exact likeP_tr (by omega) (by omega) (likeP_sy (by omega) (by omega) (ag2.like (by omega))) (ag.like (by omega))
set_option maxHeartbeats 1000000 in
/-- make -/
theorem e_mak (ho : o 1 = some (66, fun i => x_WANTED.getD i 0)) (h : TP K m s) {i : Int} (hi : q_in i) : PRI K m (fun n => g_3 o n 0 s 0 i) (fun s1 n => g_99 o n 0 s1 38 i 0) := by
  obtain ⟨T, Ps, szs, ths, rc, nP, sig, c, room, ru, nS, sv, R, H⟩ := h
  have hs := H.sh
  have hW := H.wp
  obtain ⟨h1, h2, h3, h4, h5⟩ := id H
  have h80 := h1.1.2.2.2.1
  have hcc := h1.1.2.2.1
  have hV := h4.2.1
  have hN := h1.2.1
  have hn := hN.2.1
  have D := d_3 (o := o) ho hs h80 hV hN h2 (fun k k0 k1 => ⟨(h1.1.2.2.2.2 k k0 k1).1, (h1.1.2.2.2.2 k k0 k1).2.1, (h1.1.2.2.2.2 k k0 k1).2.2.2⟩) h4.2.2.1 hi
  -- nothing is made
  have no : ∀ x : Int, q_in x → QW (fun n => g_3 o n 0 s 0 i) (fun q => q = (s, x)) → QW (fun n => g_99 o n 0 s 38 i 0) (fun q => KM s q.1 ∧ q.2 = x ∧ q_F q.1 38 8 = nP ∧ ∀ j, j < nP → m_P q.1 j = m_P s j) → PRI K m (fun n => g_3 o n 0 s 0 i) (fun s1 n => g_99 o n 0 s1 38 i 0) := fun x hx A B => by
    refine QW_m A (fun q e => ?_)
    subst e
    refine ⟨hs, hx, QW_m B (fun r hr => ?_)⟩
    obtain ⟨r1, r2, r3, r4⟩ := hr
    exact ⟨r2, T, Ps, szs, ths, rc, nP, sig, c, room, ru, nS, sv, R, h1.rf (FRr.km r1), h2.rf (FRr.km r1), h3.km r1 r3 r4 hW h4.1.2, h4.up, h5.rf (FRr.km r1)⟩
  by_cases z : eS T i = true ∧ Zn T i ≤ 500
  · by_cases y : nP = 20
    · refine no (-2) (by decide) (QW_m D (fun q e => by rw [if_pos z, if_pos y] at e; exact e)) (QW_m (m_99 hV hs h3.2.1 h3.1.2.1 h4.1 hi) (fun q e => ?_))
      rw [if_pos z, if_pos y] at e
      exact e
    · refine QW_m D (fun q e => ?_)
      rw [if_pos z, if_neg y] at e
      obtain ⟨e1, ⟨m1, m2, m3, m4, m5, m6⟩, r, th, pa, hth, hrw, r80, r7, kind⟩ := e
      have hs1 : SH q.1 := fun a t et => by
        have ha : a < 81 := by
          by_cases w : a < 81
          · exact w
          · exfalso
            have : sh a = none := by
              unfold sh
              rw [List.getElem?_eq_none (by show shL.length ≤ a; have : shL.length = 81 := rfl; omega)]
              rfl
            rw [this] at et
            cases et
        rw [m4 a (by omega) (fun w => by subst w; cases et)]
        exact hs a t et
      have f : FRc s q.1 := ⟨hs1, fun a ha j => m5 a (by omega) (by omega) (by omega) j⟩
      have h3' := h3.cl f hW h4.1.2
      have hT : inT T i := by
        have := of_decide_eq_true z.1
        exact ⟨this.1, this.2.1⟩
      have hSt : isS (P_w T i) := (NK_es (hV i hT.1 hT.2)).2 (of_decide_eq_true z.1).2.2
      have hL := ly_LT hV hn hT
      refine ⟨hs1, by rw [e1]; have := h4.1; unfold q_in; omega, QW_m (m_99 hV hs1 h3'.2.1 h3'.1.2.1 h4.1 hi) (fun u eu => ?_)⟩
      obtain ⟨km, eu⟩ := eu
      rw [if_pos z, if_neg y] at eu
      obtain ⟨u1, u2, u3, u4, u5⟩ := eu
      have fr := FRr.km km
      have h1q : CLc K T Ps szs ths rc nP sig c room ru nS sv R u.1 := (h1.mv hs1 m1 (m6 8 (by decide)) (m4 37 (by omega) (by decide)) (fun a ha => ⟨m4 a (by omega) (by omega), fun j => m5 a (by omega) (by omega) (by omega) j⟩) (hN.mv (fun a ha j => m5 a (by omega) (by omega) (by omega) j))).rf fr
      generalize hP1 : m_P u.1 nP = P1 at u4 u5
      have ag : AG (PR T (Zn T i) (lyN T i) (lyU T i)) P1 := (PR_LPr T (Zn T i) (lyN T i) (lyU T i)).ag u4 u5
      have hW0 := (PR_LPr T (Zn T i) (lyN T i) (lyU T i)).wp hL hV hn hT hSt z.2
      have LD0 : LD T (PR T (Zn T i) (lyN T i) (lyU T i)) (fun x => Zn T (lyN T i x)) := ⟨i, lyN T i, lyU T i, lyD T i, hT, hSt, z.2, hL, PR_LPr _ _ _ _, fun _ _ _ => rfl⟩
      have LD1 : LD T P1 (fun x => Zn T (lyN T i x)) := ⟨i, lyN T i, lyU T i, lyD T i, hT, hSt, by rw [u4]; exact z.2, by rw [u4]; exact hL, u5, fun _ _ _ => rfl⟩
      have hrw1 : RW u.1 r P1 (fun x => Zn T (lyN T i x)) th := (hrw.ag hW0 ag (fun _ _ _ => rfl)).same (fun x hx => ⟨congrFun fr.2.2.1 _, fun j => fr.2.2.2 _ (by omega) j⟩)
      have hth1 := hth.ag hW0 ag
      have n20 : nP + 1 ≤ 20 := by have := h4.1; omega
      have up : ∀ {α : Type} {f : Int → α} {w : α} {k : Int}, k < nP → upN f nP w k = f k := fun {α f w k} hk => upN_o (by omega)
      have hP : ∀ k, 0 ≤ k → k < nP → upN Ps nP P1 k = Ps k ∧ upN szs nP (fun x => Zn T (lyN T i x)) k = szs k := fun k _ k1 => ⟨up k1, up k1⟩
      have hWn : ∀ k, 0 ≤ k → k < nP + 1 → WP (upN Ps nP P1 k) (upN szs nP (fun x => Zn T (lyN T i x)) k) := fun k k0 k1 => by
        by_cases w : k = nP
        · rw [w, upN_s, upN_s]; exact LD1.wp hV hn
        · rw [(hP k k0 (by omega)).1, (hP k k0 (by omega)).2]; exact hW k k0 (by omega)
      have lk : ∀ j, 0 ≤ j → j < nP → (likeP (Ps j) P1 = true ↔ SR (PR T (Zn T i) (lyN T i) (lyU T i)) (Ps j)) := fun j j0 j1 => like_of_SR hV hn LD0 (h4.2.2.1 j j0 j1).1 ag
      have nP0 := h4.1.1
      have pos : (r + 7 ≤ c ∨ c + 10 < r) ∧ q_F u.1 r 9 = fstLk (upN Ps nP P1) nP 20 0 := by
        obtain ⟨w1, w2, w3⟩ := fst_rg (Ps := upN Ps nP P1) (g := nP) 20 0 nP0 (by omega)
        rw [upN_s] at w2 w3
        have qu : ∀ b : Nat, 80 < b → q_F u.1 b 9 = q_F q.1 b 9 := fun b hb => (fr.2.2.2 b (by omega) 9).1
        rcases kind with ⟨k, ⟨k0, k1⟩, rk, hsr, hfst⟩ | ⟨rs, r9, hno⟩
        · obtain ⟨d1, d2, d3, d4⟩ := h1.1.2.2.2.2 k k0 k1
          have num := h1.2.2.2.2.1 k k0 k1
          have lkk := (lk k k0 k1).mpr hsr
          have uk : fstLk (upN Ps nP P1) nP 20 0 = k := by
            have x1 : ¬ k < fstLk (upN Ps nP P1) nP 20 0 := fun w => by
              have := w3 k k0 w
              rw [up k1] at this
              exact this lkk
            have x2 : ¬ fstLk (upN Ps nP P1) nP 20 0 < k := fun w => by
              rw [up (by omega)] at w2
              exact hfst _ w1.1 w ((lk _ w1.1 (by omega)).mp w2)
            omega
          have vk : fstLk Ps k 20 0 = k := by
            obtain ⟨v1, v2, v3⟩ := fst_rg (Ps := Ps) (g := k) 20 0 k0 (by omega)
            by_cases w : fstLk Ps k 20 0 = k
            · exact w
            · exfalso
              have a := (hW _ v1.1 (by omega)).1
              have b := (hW k k0 k1).1
              exact hfst _ v1.1 (by omega) ((lk _ v1.1 (by omega)).mp (likeP_tr (by omega) (by omega) v2 lkk))
          refine ⟨by rw [rk]; exact d3, ?_⟩
          rw [qu r r80, uk, rk]
          have := (m5 (rc k) (by omega) (by omega) (by omega) 9).1
          exact (this.trans num).trans vk
        · have cc := h1.2.2.2.2.2.cc.1
          refine ⟨by omega, ?_⟩
          rw [qu r r80, r9]
          have x2 : ¬ fstLk (upN Ps nP P1) nP 20 0 < nP := fun w => by
            rw [up w] at w2
            exact hno _ w1.1 w ((lk _ w1.1 w).mp w2)
          omega
      refine ⟨u1.trans e1.symm, T, upN Ps nP P1, upN szs nP (fun x => Zn T (lyN T i x)), upN ths nP th, upN rc nP r, nP + 1, sig, c, room, ru, nS, sv, R, ?_, pa.rf fr, ?_, ?_, ?_⟩
      · refine h1q.grow hP (fun k _ k1 => ⟨up k1, up k1⟩) n20 hWn ?_ ?_
        · rw [upN_s, upN_s, upN_s, upN_s]
          exact ⟨hrw1, r80, pos.1, by rw [fr.1]; exact r7⟩
        · rw [upN_s]
          exact pos.2
      · obtain ⟨⟨a1, a2, a3, a4, a5, a6⟩, b2, b3, b4⟩ := h3'
        obtain ⟨⟨f1, f2, f3⟩, f4, f5⟩ := id km
        have e : ∀ f : Nat, f = 1 ∨ (17 ≤ f) → q_F u.1 38 f = q_F q.1 38 f := fun f hf => f5 f (by omega) (by omega) (by omega)
        have g : RGl (upN Ps nP P1) (nP + 1) sig u.1 := by
          refine ⟨sh_T a1 f3, u2, fun k k0 k1 => ?_, fun j j0 j1 => (f4 44 (by decide) (by decide) j).2.trans (a4 j j0 j1), by rw [e 36 (by decide)]; exact a5, by rw [e 36 (by decide)]; exact a6⟩
          by_cases w : k = nP
          · rw [w, upN_s]; exact hP1
          · rw [(hP k k0 (by omega)).1]
            exact (u3 k (by omega)).trans (a3 k k0 (by omega))
        refine ⟨g, ?_, (b3.mv (fun c hc j => f4 c (by omega) (by omega) j) (e 50 (by decide))).grow hP, ?_⟩
        · obtain ⟨k0, k1, d1, d2⟩ := b2
          refine ⟨k0, k1, (e 1 (by decide)).trans d1, fun i i0 i1 => ?_⟩
          obtain ⟨x0, x1, x2, x3, x4, x5⟩ := d2 i i0 i1
          exact ⟨x0, (f4 39 (by decide) (by decide) i).1.trans x1, (f4 40 (by decide) (by decide) i).2.trans x2, (f4 41 (by decide) (by decide) i).1.trans x3, (f4 42 (by decide) (by decide) i).1.trans x4, (f4 43 (by decide) (by decide) i).1.trans x5⟩
        · cases ru with
          | none => exact ⟨(e 17 (by decide)).trans b4.1, by rw [e 22 (by decide)]; exact b4.2⟩
          | some x =>
            refine MR.copy b4 ⟨fun f hf => e f (by omega), fun x _ _ => (f4 52 (by decide) (by decide) x).2, fun x _ _ => (f4 53 (by decide) (by decide) x).2, fun x _ _ => (f4 54 (by decide) (by decide) x).1, fun x _ _ => ?_, fun x _ _ => ?_⟩ g ⟨by omega, n20⟩ hP hWn
            · exact ⟨(f4 61 (by decide) (by decide) x).1, (f4 58 (by decide) (by decide) x).2, (f4 55 (by decide) (by decide) x).1, (f4 56 (by decide) (by decide) x).1, (f4 57 (by decide) (by decide) x).1, (f4 59 (by decide) (by decide) x).1, (f4 60 (by decide) (by decide) x).1⟩
            · exact ⟨(f4 69 (by decide) (by decide) x).1, (f4 62 (by decide) (by decide) x).1, (f4 63 (by decide) (by decide) x).1, (f4 64 (by decide) (by decide) x).1, (f4 65 (by decide) (by decide) x).1, (f4 66 (by decide) (by decide) x).2, (f4 67 (by decide) (by decide) x).2, (f4 68 (by decide) (by decide) x).2⟩
      · obtain ⟨d1, d2, d3, d4, d5⟩ := h4.up
        refine ⟨⟨by omega, n20⟩, d2, fun k k0 k1 => ?_, d4, d5⟩
        by_cases w : k = nP
        · rw [w, upN_s, upN_s, upN_s]; exact ⟨LD1, hth1⟩
        · rw [(hP k k0 (by omega)).1, (hP k k0 (by omega)).2, up (show k < nP by omega)]
          exact d3 k k0 (by omega)
      · unfold SZq at h5 ⊢
        rw [fr.1, fr.2.1]
        omega
  · refine no (-1) (by decide) (QW_m D (fun q e => by rw [if_neg z] at e; exact e)) (QW_m (m_99 hV hs h3.2.1 h3.1.2.1 h4.1 hi) (fun q e => ?_))
    rw [if_neg z] at e
    exact e
end CALE
