section RS4
variable {o : X_O} {Ps : Int → PT} {szs : Int → Int → Int} {nP sec : Int} {sig : Int → Int64} {G : GT} {s : Q_S} {K : Nat} {t : BT K} {al : Int × Int × Int} {F : Nat}
theorem m_secF {st : Int} {f : Nat} (h : ¬ f = 17) (h' : ¬ f = 19) : q_F (m_sec s st) 38 f = q_F s 38 f := by
  unfold m_sec
  rw [q_F_sf, if_neg (fun z => h' z.2), q_F_sf, if_neg (fun z => h z.2)]
theorem rs_2 {s' : Q_S} {st : Int} (hs : SH s') : QW (fun n => g_109 o n 2 s' 38 (.ref 38) st) (fun q => q = (m_sec s' st, ())) := by
  refine QW_s ?_
  simp only [g_109]
  refine QW_p (k_pi (hs _ _ rfl) rfl rfl) ?_
  have hs1 : SH (q_sf s' 38 17 st) := hs
  refine QW_p (k_gi (hs1 _ _ rfl) rfl) ?_
  refine QW_p (k_pi (hs1 _ _ rfl) rfl rfl) ?_
  exact QW_ret rfl
theorem rs_flt {s' : Q_S} (hs : SH s') (hf : q_F s' 38 47 = 1) : QW (fun n => g_109 o n 1 s' 38 .null 0) (fun q => q = (m_sec s' 2, ())) := by
  refine QW_s ?_
  simp only [g_109]
  refine QW_p (k_gi (hs _ _ rfl) rfl) ?_
  rw [hf]
  refine QW_g (by omega) ?_
  refine QW_if (by decide) ?_
  exact rs_2 hs
theorem MR_flt {s0 s' : Q_S} {G3 : GT} {x : Int × Int} (hs0 : SH s0) (h : FltP Ps nP sec sig G3 s0 s' x) (he : G_eq G G3) (hg : GW Ps szs nP sec G) (hsec : sec + 1 ≤ 100000000) : MR Ps szs nP sig (m_sec s' 2) 2 (sec + 1) G t (sec, x.1, x.2) := by
  obtain ⟨h1, h2, h3, h4, h5, h6, h7, h8⟩ := h
  have hs' := h1.sh hs0
  refine ⟨hs', ?_, Or.inr (Or.inr rfl), ?_, hg.sc hsec, fun z => absurd z (by decide), fun _ => ?_, fun z => absurd rfl z, h8⟩
  · simp only [m_sec, q_F_sf]; simp
  · rcases h2 with h2 | h2
    · exact ⟨G3, he, h2.sc⟩
    · exact ⟨G_begun G3, he, h2.sc⟩
  · rw [m_secF (by decide) (by decide), m_secF (by decide) (by decide), m_secF (by decide) (by decide), m_secF (by decide) (by decide), m_secF (by decide) (by decide)]
    exact ⟨h3, h4, h5, h6, h7⟩
theorem KT.sc {s' : Q_S} {st : Int} : KT s' (m_sec s' st) := (KT.sf (by decide)).tr (KT.sf (by decide))
set_option maxHeartbeats 2000000 in
theorem r_second (hK : 61 ≤ K) (hF : (600000000 : Int) ≤ F) (h : MR Ps szs nP sig s 1 sec G t al) (hsec : sec + 1 ≤ 100000000) :
    QW (fun n => g_109 o n 0 s 38 .null 0) (fun q => MR Ps szs nP sig q.1 (secA Ps sig F sec G t).1 (sec + 1) (secA Ps sig F sec G t).2.1 (secA Ps sig F sec G t).2.2.1 (match (secA Ps sig F sec G t).2.2.2 with | some x => (sec, x.1, x.2) | none => al) ∧ KT s q.1) := by
  obtain ⟨hs, h17, _, _, hg, h1, _, _, _⟩ := h
  obtain ⟨⟨it, bb, hR, hit⟩, hv, hsd⟩ := h1 rfl
  have hG := hR.2.1
  have hW := hg.2.2.2.2.1 _ hg.2.2.2.2.2.1 hg.2.2.2.2.2.2.1
  have hsdr : 0 ≤ G_sd G ∧ G_sd G ≤ 49 := ⟨hg.2.2.2.2.2.2.2.2.2.2.1, hg.2.2.2.2.2.2.2.2.2.2.2.1⟩
  have hs1 : SH (q_sf s 38 46 0) := hs
  have hR1 : RF Ps nP sec sig (q_sf s 38 46 0) (G_bg0 G) K 0 (-1) t it [] [] := hR.glob hs1 hG.bg0 rfl sf_I (by simp [q_F_sf]) (by simp [q_F_sf])
  have hK1 : KP s (q_sf s 38 46 0) := KP.sf (by decide)
  have L := r_look (o := o) (szs := szs) K none 0 (-1) t (q_sf s 38 46 0) it [] [] 60 (G_bg0 G) hg.bg0 hv hR1 (by omega) (by show sidesB K t ≤ G_sd G; omega)
  rw [hit] at L
  refine QW_s ?_
  simp only [g_109]
  refine QW_p (k_pi (hs _ _ rfl) rfl rfl) ?_
  refine QW_p (k_rc (hs1 _ _ rfl)) ?_
  refine QW_c L (fun q hq => ?_)
  cases hx : lookA Ps sig (G_bg0 G) K t with
  | inr x =>
    rw [hx] at hq
    obtain ⟨y, hq⟩ := hq
    have hsq := hq.1.sh hs1
    rw [show secA Ps sig F sec G t = (2, G_bg0 G, t, some x) by simp [secA, hx]]
    refine QW_p (k_gi (hsq _ _ rfl) rfl) ?_
    rw [hq.2.2.1]
    refine QW_g (by omega) ?_
    refine QW_it (by decide) ?_
    refine QW_m (rs_flt hsq hq.2.2.1) (fun q2 hq2 => ?_)
    subst hq2
    exact ⟨MR_flt hs1 hq ⟨rfl, rfl, rfl, rfl, rfl, rfl⟩ hg.bg0 hsec, (hK1.tr hq.1).kt.tr KT.sc⟩
  | inl y =>
    obtain ⟨t1, n⟩ := y
    rw [hx] at hq
    obtain ⟨it1, hF, hit1, hst⟩ := hq
    obtain ⟨i1, i2, i3⟩ := look_inv hg.bg0 K _ _ _ _ _ hv hx
    have hsq := hF.1
    have hfq := hF.2.2.2.2.2.2.2.2.2.1
    have hs0 := sides0 K t1
    have hgl : GW Ps szs nP sec (G_side (G_bg0 G) (-n)) := hg.bg0.side (by show 0 ≤ G_sd G + -n; omega) (by omega)
    have hwt := VT.wt_le (sw := G_sw (G_side (G_bg0 G) (-n))) hW.2.1 K none 0 t1 i1
    have hms : (500 - G_bg (G_side (G_bg0 G) (-n))) * 1000000 + wtB (G_sw (G_side (G_bg0 G) (-n))) K t1 < (F : Int) := by
      show (500 - (0 : Int)) * 1000000 + _ < _
      omega
    obtain ⟨res, hres, hI⟩ := run_tot (sig := sig) F K 0 none (G_side (G_bg0 G) (-n)) t1 hms hgl i1 (by omega) (by show sidesB K t1 ≤ G_sd G + -n; omega)
    have R := (r_run2 (o := o) (szs := szs) F K 0 (-1) none (G_side (G_bg0 G) (-n)) t1 q.1 it1 [] [] 60 res hres hms hgl i1 (by omega) (by omega) hF (by show (([] : List Int).length : Int) + 2 * sidesB K t1 = 2 * (G_sd G + -n); simp; omega) (by simp)).2
    rw [hit1] at R
    refine QW_p (k_gi (hsq _ _ rfl) rfl) ?_
    rw [hfq]
    refine QW_g (by omega) ?_
    refine QW_if (by decide) ?_
    refine QW_p (k_rc (hsq _ _ rfl)) ?_
    refine QW_c R (fun q' hq' => ?_)
    cases res with
    | inr z =>
      obtain ⟨G2, x⟩ := z
      rw [show secA Ps sig F sec G t = (2, G2, t1, some x) by simp only [secA, hx, hres]]
      have hq2 : FltP Ps nP sec sig G2 q.1 q'.1 x := hq'
      have hsq' := hq2.1.sh hsq
      refine QW_m (rs_flt hsq' hq2.2.2.1) (fun q2 hq3 => ?_)
      subst hq3
      exact ⟨MR_flt hsq hq2 ⟨rfl, rfl, rfl, rfl, rfl, rfl⟩ hI.1 hsec, ((hK1.tr hst.1).tr hq2.1).kt.tr KT.sc⟩
    | inl z =>
      obtain ⟨G2, t2⟩ := z
      obtain ⟨a1, a2, a3, a4, a5, a6, a7⟩ := hI
      obtain ⟨it2, hF2, hit2, hst2⟩ := hq'
      have hsq' := hF2.1
      have hfq' := hF2.2.2.2.2.2.2.2.2.2.1
      have hmd := (RM_mode hF2.2.2.1).1
      rw [hit2] at hmd
      rw [show secA Ps sig F sec G t = (if modeB K t2 = 0 then 0 else 1, G2, t2, none) by simp only [secA, hx, hres]]
      have hsd2 : sidesB K t2 = G_sd G2 := by
        have : G_sd G2 - sidesB K t2 = (G_sd G + -n) - sidesB K t1 := a3
        omega
      have h22 : q_F q'.1 38 22 = 0 := hF2.2.1.1.2.1 hfq'
      refine QW_s ?_
      simp only [g_109]
      refine QW_p (k_gi (hsq' _ _ rfl) rfl) ?_
      rw [hfq']
      refine QW_g (by omega) ?_
      refine QW_it (by decide) ?_
      refine QW_p (k_gv (hsq' _ _ rfl) rfl rfl) ?_
      refine QW_p (k_ia (hsq' _ _ rfl) (by decide) (by decide) (by decide)) ?_
      rw [hmd]
      refine QW_g (by omega) ?_
      have fin : ∀ st : Int, (st = 0 ∨ st = 1) → MR Ps szs nP sig (m_sec q'.1 st) st (sec + 1) G2 t2 al := by
        intro st hst3
        refine ⟨hsq', ?_, by omega, ⟨G2, ⟨rfl, rfl, rfl, rfl, rfl, rfl⟩, hF2.2.1.sc⟩, a1.sc hsec, fun z => ⟨⟨it2, G_bg G2, ?_, hit2⟩, VT.sec (by omega) K _ _ _ a2, hsd2⟩, fun z => by omega, fun z => ?_, ⟨hF2.2.2.2.2.1.1, hF2.2.2.2.2.2.2.1.1⟩⟩
        · simp only [m_sec, q_F_sf]; simp
        · refine hF2.glob hsq' hF2.2.1.sc rfl (fun a h0 h1 j => ⟨?_, rfl⟩) (m_secF (by decide) (by decide)) (m_secF (by decide) (by decide))
          simp only [m_sec, q_I_sf]
          rw [if_neg (by omega), if_neg (by omega)]
        · rw [m_secF (by decide) (by decide), m_secF (by decide) (by decide)]
          exact ⟨hfq', h22⟩
      by_cases m0 : modeB K t2 = 0
      · refine QW_if (by omega) ?_
        simp only [if_pos m0]
        refine QW_m (rs_2 hsq') (fun q2 hq3 => ?_)
        subst hq3
        exact ⟨fin 0 (Or.inl rfl), ((hK1.tr hst.1).tr hst2.1).kt.tr KT.sc⟩
      · refine QW_it m0 ?_
        simp only [if_neg m0]
        refine QW_m (rs_2 hsq') (fun q2 hq3 => ?_)
        subst hq3
        exact ⟨fin 1 (Or.inr rfl), ((hK1.tr hst.1).tr hst2.1).kt.tr KT.sc⟩
/-- the seconds of a tick -/
def tickA {K : Nat} (Ps : Int → PT) (sig : Int → Int64) (F : Nat) : Nat → Int → Int → GT → BT K → Int × Int × Int → Int × Int × GT × BT K × (Int × Int × Int)
  | 0, st, sec, G, t, al => (st, sec, G, t, al)
  | n + 1, st, sec, G, t, al => if st = 1 then tickA Ps sig F n (secA Ps sig F sec G t).1 (sec + 1) (secA Ps sig F sec G t).2.1 (secA Ps sig F sec G t).2.2.1 (match (secA Ps sig F sec G t).2.2.2 with | some x => (sec, x.1, x.2) | none => al) else (st, sec, G, t, al)
theorem r_ticks (hK : 61 ≤ K) (hF : (600000000 : Int) ≤ F) {i : Int} (hi : 0 ≤ i ∧ i ≤ 10000) : ∀ (n : Nat) (j st sec : Int) (G : GT) (t : BT K) (al : Int × Int × Int) (s : Q_S), j + n = i → 0 ≤ j → sec + n ≤ 100000000 → MR Ps szs nP sig s st sec G t al →
    QW (fun m => g_108 o m 2 s 38 i j) (fun q => MR Ps szs nP sig q.1 (tickA Ps sig F n st sec G t al).1 (tickA Ps sig F n st sec G t al).2.1 (tickA Ps sig F n st sec G t al).2.2.1 (tickA Ps sig F n st sec G t al).2.2.2.1 (tickA Ps sig F n st sec G t al).2.2.2.2 ∧ KT s q.1 ∧ q.2 = (tickA Ps sig F n st sec G t al).1) := by
  have e3 : ∀ (s : Q_S) (st sec : Int) (G : GT) (t : BT K) (al : Int × Int × Int), MR Ps szs nP sig s st sec G t al → QW (fun m => g_108 o m 3 s 38 0 0) (fun q => q = (s, st)) := by
    intro s st sec G t al h
    refine QW_s ?_
    simp only [g_108]
    refine QW_p (k_gi (h.1 _ _ rfl) rfl) ?_
    rw [h.2.1]
    exact QW_ret rfl
  intro n
  induction n with
  | zero =>
    intro j st sec G t al s hj h0 hsec h
    refine QW_s ?_
    simp only [g_108]
    refine QW_g (by omega) ?_
    refine QW_it (by omega) ?_
    refine QW_m (e3 s st sec G t al h) (fun q hq => ?_)
    subst hq
    exact ⟨h, KT.rf s, rfl⟩
  | succ n ih =>
    intro j st sec G t al s hj h0 hsec h
    have hstr := h.2.2.1
    refine QW_s ?_
    simp only [g_108]
    refine QW_g (by omega) ?_
    refine QW_if (by omega) ?_
    refine QW_p (k_gi (h.1 _ _ rfl) rfl) ?_
    rw [h.2.1]
    refine QW_g (by omega) ?_
    simp only [tickA]
    by_cases c : st = 1
    · subst c
      refine QW_if (by omega) ?_
      simp only [if_true]
      refine QW_p (k_rc (h.1 _ _ rfl)) ?_
      refine QW_c (r_second hK hF h (by omega)) (fun q hq => ?_)
      refine QW_m (ih (j + 1) _ _ _ _ _ q.1 (by omega) (by omega) (by omega) hq.1) (fun q2 hq2 => ?_)
      exact ⟨hq2.1, hq.2.tr hq2.2.1, hq2.2.2⟩
    · refine QW_it c ?_
      simp only [if_neg c]
      refine QW_m (e3 s st sec G t al h) (fun q hq => ?_)
      subst hq
      exact ⟨h, KT.rf s, rfl⟩
end RS4
