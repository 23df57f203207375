/-! A SECOND OF THE CLASS: look, go on, count -/
section CSC
variable {o : X_O} {Ps : Int → PT} {szs ths : Int → Int → Int} {rc : Int → Nat} {nP sec : Int} {sig : Int → Int64} {G G' : GT} {s s' : Q_S} {c room c' room' : Nat} {v v' : CV} {K : Nat} {t : BT K} {it : IT K}
theorem CX.root {v : CV} : CX v [] 0 (-1) false (-1) none := ⟨⟨rfl, rfl, rfl⟩, (fun z => by cases z), rfl, rfl⟩
theorem slot_root {v : CV} : slotV v (-1) false = v_t v := if_pos rfl
theorem d_61 (ho : o 2 = some (10, fun i => x_TABLE.getD i 0)) (hg : GW Ps szs nP sec (G_bgb G 0)) (hC : CTr Ps szs ths rc nP sec sig G s c room v none 0 (-1) false (-1) K t it []) (hv : VT (Ps (G_pg G)) (szs (G_pg G)) sec (G_ph G) K none 0 t) (hn : NB K t) (hm : ¬ modeB K t = 0) (hsd : sidesB K t ≤ G_sd G) :
    QW (fun n => g_61 o n 0 s 35 0 0) (fun q => match lookA Ps sig G K t with
      | .inr x => CF Ps szs ths rc nP sec sig s c room G x q.1
      | .inl (t', n) => ∃ v' it', KC s c room q.1 c room ∧ CTr Ps szs ths rc nP sec sig (G_side G (-n)) q.1 c room v' none 0 (-1) false (-1) K t' it' []) := by
  have hlen : ((flC K it).length : Int) ≤ 6500 := by
    obtain ⟨g1, g2, g3, g4, g5, g6, ⟨fl, w1, w2, w3, w4, w5⟩, g8⟩ := hC
    simp only [List.append_nil] at w4
    omega
  have hs := hC.1.1
  have hF := hC.2.1
  refine QW_s ?_
  simp only [g_61]
  refine QW_p (k_gv (hs _ _ rfl) rfl rfl) ?_
  refine QW_p (k_gi hF.1 rfl) ?_
  rw [hF.2.2.2.2.1, ← slot_root]
  refine lk_all ho K 0 none false (-1) (-1) G t it s c room v [] 0 _ _ rfl hg hv hn hm hsd hC (by omega) (by omega) ?_
  cases hl : lookA Ps sig G K t with
  | inr x => exact fun s' hf => hf
  | inl y =>
    obtain ⟨t', n⟩ := y
    intro s' v' i' it' sm kc ct hi hb
    exact lk_end ct.1.1 ⟨hi, by omega⟩ ⟨v', it', kc, ct⟩
theorem CTr.f35 (hC : CTr Ps szs ths rc nP sec sig G s c room v none 0 (-1) false (-1) K t it []) {f : Nat} {x : Int} (hf : f ≠ 6) : CTr Ps szs ths rc nP sec sig G (q_sf s 35 f x) c room v none 0 (-1) false (-1) K t it [] := by
  obtain ⟨g1, g2, g3, g4, g5, g6, g7, g8⟩ := hC
  exact ⟨g1.f35 hf, g2.f35, g3, g4, g5, g6, g7, g8⟩
theorem CG.bg (h : CG Ps szs ths rc nP sec sig G s c) {b : Int} : CG Ps szs ths rc nP sec sig (G_bgb G b) (q_sf s 35 6 b) c := by
  have h' := h
  obtain ⟨a1, a2, a3, a4, a5, a6, a7, a8, a9, a10, a11, a12, a13⟩ := h'
  refine h.step (room := 0) (room' := 0) KC.f35 a2 ?_ ?_ ?_ a6 a7 (fun j j0 j1 => ?_) ?_
  · rw [q_F_sf, if_neg (by omega)]; exact a3
  · rw [q_F_sf, if_neg (by omega)]; exact a4
  · rw [q_F_sf, if_neg (by omega)]; exact a5
  · rw [q_I_sf, if_neg (by omega)]; exact a8 j j0 j1
  · rw [q_F_sf, if_pos ⟨rfl, rfl⟩]; rfl
/-- what goOn leaves -/
def GoP (Ps : Int → PT) (szs ths : Int → Int → Int) (rc : Int → Nat) (nP sec : Int) (sig : Int → Int64) (K : Nat) (s : Q_S) (c room : Nat) (res : Option ((GT × BT K) ⊕ (GT × Int × Int))) (s' : Q_S) : Prop := match res with
  | none => False
  | some (.inr (G2, x)) => CF Ps szs ths rc nP sec sig s c room G2 x s'
  | some (.inl (G2, t2)) => (modeB K t2 = 0 → CEn Ps szs ths rc nP sec sig s c room G2 s') ∧ (¬ modeB K t2 = 0 → ∃ c' room' v' it', KC s c room s' c' room' ∧ CTr Ps szs ths rc nP sec sig G2 s' c' room' v' none 0 (-1) false (-1) K t2 it' [])
set_option maxHeartbeats 1000000 in
theorem d_68 (ho : o 2 = some (10, fun i => x_TABLE.getD i 0)) (hT : ∀ k, 0 ≤ k → k < nP → TH (Ps k) (ths k)) (hK : 61 ≤ K) {F : Nat} (hF6 : (600000000 : Int) ≤ F) (hg : GW Ps szs nP sec (G_bgb G 0)) (hC : CTr Ps szs ths rc nP sec sig G s c room v none 0 (-1) false (-1) K t it []) (hv : VT (Ps (G_pg G)) (szs (G_pg G)) sec (G_ph G) K none 0 t) (hx : XT (Ps (G_pg G)) K none false t) (hn : NB K t) (hm : ¬ modeB K t = 0) (hsd : sidesB K t ≤ G_sd G) :
    QW (fun n => g_68 o n 0 s 35 0 0) (fun q => GoP Ps szs ths rc nP sec sig K s c room (runA Ps sig sec F K 0 (G_bgb G 0) t) q.1) := by
  obtain ⟨g1, g2, g3, g4, g5, g6, g7, g8⟩ := hC
  have hs := g1.1
  have hW := (g1.any hg).1
  have hg0 := hg
  have h1 := g1.bg (b := 0)
  have hs1 := h1.1
  have h2 : VW (q_sf s 35 6 0) 24 c room v := g2.f35
  have hsg : 0 ≤ G_sd G ∧ G_sd G ≤ 49 := ⟨hg.2.2.2.2.2.2.2.2.2.2.1, hg.2.2.2.2.2.2.2.2.2.2.2.1⟩
  have hwt := VT.wt_le (sw := G_sw G) hW.2.1 K none 0 t hv
  have hpl := potB_le K none 0 t hv
  have hs0 := sides0 K t
  obtain ⟨res, hr, -⟩ := run_tot (Ps := Ps) (szs := szs) (nP := nP) (sec := sec) (sig := sig) F K 0 none (G_bgb G 0) t (by show (500 - 0) * 1000000 + wtB (G_sw G) K t < (F : Int); omega) hg0 hv (by omega) hsd
  rw [hr]
  refine QW_s ?_
  simp only [g_68]
  refine QW_p (k_pi (hs _ _ rfl) rfl rfl) ?_
  refine QW_p (k_gv (hs1 _ _ rfl) rfl rfl) ?_
  refine QW_p (k_gv (hs1 _ _ rfl) rfl rfl) ?_
  refine QW_p (k_gi h2.1 rfl) ?_
  rw [h2.2.2.2.2.1]
  refine QW_p (k_rc h2.1) ?_
  refine QW_e (d_57 h2 g3 g3.2.1.1 g3.2.1.2) ?_
  dsimp only
  refine QW_p (k_pi (hs1 _ _ rfl) rfl rfl) ?_
  have enl : lfb v 61 (v_t v) = fstL K t it := by
    rw [← slot_root]
    exact CB_lfb K none 0 (-1) false t it hv g6 hn hm 61 (by omega)
  rw [enl]
  have hph := hg.2.2.2.2.2.2.2.2.2.2.2.2.1
  have hphV : 0 ≤ G_ph G ∧ G_ph G ≤ 500 := by
    cases K with
    | zero => exact hv.elim
    | succ K => obtain ⟨m, p, d, st, sub⟩ := t; exact ⟨hv.1.2.2.1, hv.1.2.2.2.1⟩
  have egp : gp (G_bgb G 0) = 10000 + (501 - G_ph G) := by
    show 20 * (500 - 0) + (501 - G_ph G) = _
    omega
  have kc0 : KC s c room (q_sf (q_sf s 35 6 0) 35 5 (fstL K t it)) c room := KC.f35.tr KC.f35
  refine (go_all ho hT F F (Nat.le_refl _)).2 K 0 none false (-1) (-1) (G_bgb G 0) t it _ c room v [] 0 res _ hr hg0 hv hx hn hm (by omega) hsd (by show (0 : Int) ≤ 122 * (G_sd G - sidesB K t); omega) ⟨h1.f35 (by decide), h2.f35, g3, g4, g5, g6, g7, g8⟩ (by rw [q_F_sf, if_pos ⟨rfl, rfl⟩]) (by omega) (by rw [egp]; omega) ?_
  cases res with
  | inr y =>
    obtain ⟨G2, x⟩ := y
    intro s' hf
    obtain ⟨s2, c2, room2, v2, b, e1, e2, e3, e4, e5, e6, e7⟩ := hf
    exact ⟨s2, c2, room2, v2, b, e1, e2, e3, e4, e5, e6, kc0.tr e7⟩
  | inl y =>
    obtain ⟨G2, t2⟩ := y
    refine ⟨fun mz _ s' hf => ⟨fun _ => ?_, fun z => absurd mz z⟩, (fun _ q hq => by cases hq), fun mz s' c' room' v' i' it' sm kc ct nl hi hb => ?_⟩
    · obtain ⟨s2, c2, room2, v2, e1, e2, e3, e4, e5, e6, e7⟩ := hf
      exact ⟨s2, c2, room2, v2, e1, e2, e3, e4, e5, e6, kc0.tr e7⟩
    · have hG2 := run_inv hr hg0 hv (by omega) hsd
      have hphV2 : 0 ≤ G_ph G2 ∧ G_ph G2 ≤ 500 := by
        have := hG2.2.1
        cases K with
        | zero => exact this.elim
        | succ K => obtain ⟨m, p, d, st, sub⟩ := t2; exact ⟨this.1.2.2.1, this.1.2.2.2.1⟩
      have hbg2 := hG2.1.2.2.2.2.2.2.2.2.2.1
      have hgp2 : 0 ≤ gp G2 := by unfold gp; omega
      refine go_stop ct.1 ⟨hi, by rw [egp] at hb; omega⟩ (by rw [nl]; rfl) ⟨fun z => absurd z mz, fun _ => ⟨c', room', v', it', kc0.tr kc, ct⟩⟩
/-- goOn of a run that is held -/
theorem d_68f {x : Int × Int} (h : CF Ps szs ths rc nP sec sig s c room G x s') : QW (fun n => g_68 o n 0 s' 35 0 0) (fun q => CF Ps szs ths rc nP sec sig s c room G x q.1) := by
  obtain ⟨s2, c2, room2, v2, b, e1, e2, e3, e4, e5, e6, e7⟩ := h
  subst e1
  have hs : SH (c_flt s2 x.1 x.2) := e2.1
  have hw : VW (c_flt s2 x.1 x.2) 24 c2 room2 v2 := e3.f20.f20.f20.f20
  have hw1 : VW (q_sf (c_flt s2 x.1 x.2) 35 6 0) 24 c2 room2 v2 := hw.f35
  refine QW_s ?_
  simp only [g_68]
  refine QW_p (k_pi (hs _ _ rfl) rfl rfl) ?_
  refine QW_p (k_gv (hs _ _ rfl) rfl rfl) ?_
  refine QW_p (k_gv (hs _ _ rfl) rfl rfl) ?_
  refine QW_p (k_gi hw1.1 rfl) ?_
  rw [hw1.2.2.2.2.1]
  refine QW_p (k_rc hw1.1) ?_
  refine QW_e (d_57 hw1 e4 e4.2.1.1 e4.2.1.2) ?_
  dsimp only
  refine QW_p (k_pi (hs _ _ rfl) rfl rfl) ?_
  have ee : q_sf (q_sf (c_flt s2 x.1 x.2) 35 6 0) 35 5 (lfb v2 61 (v_t v2)) = c_flt (q_sf (q_sf s2 35 6 0) 35 5 (lfb v2 61 (v_t v2))) x.1 x.2 := by
    unfold c_flt q_sf q_si q_F
    refine congrArg (fun z => (s2.1, s2.2.1, s2.2.2.1, z, s2.2.2.2.2)) (funext fun a => funext fun j => ?_)
    dsimp only
    by_cases h35 : a = 35
    · subst h35; simp
    · simp [h35]
  rw [ee]
  have h1 := (e2.bg (b := 0)).f35 (f := 5) (x := lfb v2 61 (v_t v2)) (by decide)
  refine go_off (s := c_flt (q_sf (q_sf s2 35 6 0) 35 5 (lfb v2 61 (v_t v2))) x.1 x.2) h1.1 h1.2.1 (Or.inr c_flt_0) ⟨by omega, by omega⟩ ?_
  exact ⟨_, c2, room2, v2, 0, rfl, h1, e3.f35.f35, e4, e5, e6, e7.tr (KC.f35.tr KC.f35)⟩
end CSC
