/-! THE WALKER VISITS A LEAF -/
section CVI
variable {o : X_O} {Ps : Int → PT} {szs ths : Int → Int → Int} {rc : Int → Nat} {nP sec : Int} {sig : Int → Int64} {G G' : GT} {s s' : Q_S} {c room c' room' : Nat} {v v' : CV} {side : Option Int} {base : Nat} {u N : Int} {r : Bool} {st : List FR} {xs RX : List Int} {m p y : Int} {d : DT}
theorem CL.setO (h : CL Ps szs ths rc nP sec sig G s c room v side base u r N m p d st y xs RX) {j : Int} {x : Int64} : CL Ps szs ths rc nP sec sig (G_setO G j x) (q_sl s 22 j x) c room v side base u r N m p d st y xs RX := by
  obtain ⟨h1, h2, h3, h4, h5, h6, h7, h8, h9, h10⟩ := h
  have hc := h2.cc
  refine ⟨h1.setO, h2.same (fun a ha => ⟨rfl, fun i => ⟨rfl, ?_⟩⟩) (Nat.le_refl _), h3, h4, h5, h6, h7, h8, h9, h10⟩
  rw [q_L_sl, if_neg (by omega)]
theorem CL.rem (h : CL Ps szs ths rc nP sec sig G s c room v side base u r N m p d st y xs RX) (hg : GW Ps szs nP sec G) (ha : q_F s 35 4 = hdI xs u) (hk : ¬ vI v 1 y = 18) :
    QW (fun n => g_54 o n 0 s 24 y) (fun q => ∃ v', CA Ps szs ths rc nP sec sig G q.1 c room v' side base u r N st xs RX ∧ SM v v' RX u r ∧ KC s c room q.1 c room) := by
  have hy := h.yu
  obtain ⟨h1, h2, h3, h4, h5, h6, h7, h8, h9, h10⟩ := h
  obtain ⟨c1, c2, c3, c4, c5, c6, c7⟩ := h10
  have hsd := hg.2.2.2.2.2.2.2.2.2.2
  have hup : vI v 3 y ≠ y := by
    rw [c4]
    intro z
    have nd : (y :: (xs ++ RX)).Nodup := by
      obtain ⟨fl, q1, q2, q3, q4, q5⟩ := h7
      exact (List.nodup_append.mp q2).1
    have nx := (List.nodup_cons.mp nd).1
    cases xs with
    | nil =>
      have z : u = y := z
      rcases h8.1.depth.2 with q | q
      · omega
      · exact nx (by rw [← z]; exact q)
    | cons w zs =>
      have z : w = y := z
      exact nx (by rw [← z]; exact List.mem_cons_self)
  refine QW_m (d_54 h2 h3 hy.1 hy.2 hup (by omega)) (fun b hb => ?_)
  obtain ⟨v', e2, e3, e4, e5⟩ := hb
  obtain ⟨t1, t2, t3, t4, t5, t6⟩ := t_rem h6 h9 c2 c4 h7 h8 e4
  refine ⟨v', ⟨h1.fk e5, e2, e3, h4, ?_, t2, t6, t5, ?_, t4, t3⟩, t1, e5.kc h2.cc⟩
  · rw [e4.2.2.2.2.2.2, if_neg hk]
    exact h5
  · have k := e5.2.2.2.2.2 35 (by have := h1.2.2.2.2.2.2.2.2.2.2.2.1; omega) (by decide) (by have := h2.cc; omega)
    exact ((k.2 4).1).trans ha
/-- a ramp moves -/
theorem d_90 (h : CL Ps szs ths rc nP sec sig G s c room v side base u r N 1 p d st y xs RX) (hg : GW Ps szs nP sec G) (p0 : 0 ≤ p) (p1 : p < P_n (Ps (G_pg G))) (hw : P_w (Ps (G_pg G)) p = 13) (hd : 1 ≤ d.2.1) {gone : Int64} :
    QW (fun n => g_90 o n 0 s 35 y gone 0 0) (fun q => q = (q_sl s 22 (P_v (Ps (G_pg G)) p).toInt (if d.2.1 ≤ gone then d.2.2.2 else d.2.2.1 + (d.2.2.2 - d.2.2.1) * gone / d.2.1), ())) := by
  have hy := h.yu
  obtain ⟨h1, h2, h3, h4, h5, h6, h7, h8, h9, h10⟩ := h
  obtain ⟨c1, c2, c3, c4, c5, c6, c7⟩ := h10
  have c7 : vL v 8 y = d.2.1 ∧ vL v 9 y = d.2.2.1 ∧ vL v 10 y = d.2.2.2 := by
    rcases c7 with z | ⟨_, _, _, z1, z2⟩
    · exact absurd z.1 (by decide)
    · exact ⟨z1, z2 hw⟩
  have hs := h1.1
  have h20 := h1.2.1
  obtain ⟨hW, ⟨n, np, hRS, hn, hnp, f7, f8, hkk, hK, hph1, hph2⟩, hr80, hr7⟩ := h1.rows hg
  have hn5 := hW.2.1
  have hk := (hW.2.2.2.2.2.1 p p0 p1).2.2
  have hC : 0 ≤ (P_v (Ps (G_pg G)) p).toInt ∧ (P_v (Ps (G_pg G)) p).toInt < 8 := by
    rcases hk with k | k | k | k | k | k | k | k | k | k | k | k | k | k | k | k
    · have := k.1; omega
    · have := k.1; omega
    · have := k.2.1; omega
    · have := k.1; omega
    · have := k.1; omega
    · have := k.1; omega
    · exact k.2.2.2.2.1
    all_goals (have := k.1; omega)
  obtain ⟨hF0, hFa, w1, w2, w3, w4, w5, w6, w7, w8, w9, w10, w11, w12⟩ := h2
  have e8 := (w2 8 y (by decide) (by decide) hy.1 hy.2).trans c7.1
  have e9 := (w2 9 y (by decide) (by decide) hy.1 hy.2).trans c7.2.1
  have e10 := (w2 10 y (by decide) (by decide) hy.1 hy.2).trans c7.2.2
  have e2 := (w1 2 y (by decide) (by decide) hy.1 hy.2).trans c3
  have ev0 : q_L s (rc (G_pg G) + 2) p = P_v (Ps (G_pg G)) p := by
    rw [(hkk p p0 p1).2.1]
    unfold numC
    rw [if_neg (by omega)]
  have K2 : ∀ x : Int64, QW (fun n => g_90 o n 2 s 35 y 0 0 x) (fun q => q = (q_sl s 22 (P_v (Ps (G_pg G)) p).toInt x, ())) := fun x => by
    refine QW_s ?_
    simp only [g_90]
    refine QW_p (k_gv (hs _ _ rfl) rfl rfl) ?_
    refine QW_p (k_gv h20 rfl rfl) ?_
    refine QW_p (k_gv (hs _ _ rfl) rfl rfl) ?_
    refine QW_p (k_gv h20 rfl rfl) ?_
    refine QW_p (k_gv hRS.1 rfl rfl) ?_
    refine QW_p (k_gv (hs _ _ rfl) rfl rfl) ?_
    refine QW_p (k_gv hF0 rfl rfl) ?_
    refine QW_p (k_ia (hFa _ _ rfl) hy.1 (by omega) (by omega)) ?_
    rw [e2]
    refine QW_p (k_la (hRS.2 _ _ rfl) p0 (by omega) (by omega)) ?_
    rw [ev0]
    refine QW_p (k_ls (hs _ _ rfl) hC.1 hC.2 (by decide)) ?_
    exact QW_ret rfl
  refine QW_s ?_
  simp only [g_90]
  refine QW_p (k_gv (hs _ _ rfl) rfl rfl) ?_
  refine QW_p (k_gv hF0 rfl rfl) ?_
  refine QW_p (k_la (hFa _ _ rfl) hy.1 (by omega) (by omega)) ?_
  refine QW_p (k_gv (hs _ _ rfl) rfl rfl) ?_
  refine QW_p (k_gv hF0 rfl rfl) ?_
  refine QW_p (k_la (hFa _ _ rfl) hy.1 (by omega) (by omega)) ?_
  refine QW_p (k_gv (hs _ _ rfl) rfl rfl) ?_
  refine QW_p (k_gv hF0 rfl rfl) ?_
  refine QW_p (k_la (hFa _ _ rfl) hy.1 (by omega) (by omega)) ?_
  rw [e8, e9, e10]
  refine QW_by (fun z => ?_) (fun z => ?_)
  · rw [if_pos z]
    refine QW_s ?_
    simp only [g_90]
    exact K2 _
  · rw [if_neg z]
    have z0 : ¬ d.2.1 ≤ 0 := fun q => by
      rw [Int64.le_iff_toInt_le] at hd q
      have e1 : (1 : Int64).toInt = 1 := rfl
      have e0 : (0 : Int64).toInt = 0 := rfl
      omega
    refine QW_if z0 ?_
    refine QW_g (fun q => z0 (by rw [q]; exact Int64.le_refl _)) ?_
    exact K2 _
/-- what is to begin: it is taken away and begun -/
theorem d_89b (h : CL Ps szs ths rc nP sec sig G s c room v side base u r N 2 p d st y xs RX) (hg : GW Ps szs nP sec G) :
    QW (fun n => g_89 o n 0 s 35 y 0 0) (fun q => q.2 = p ∧ ∃ v', CA Ps szs ths rc nP sec sig G q.1 c room v' side base u r N st xs RX ∧ SM v v' RX u r ∧ KC s c room q.1 c room) := by
  have hy := h.yu
  have hs := h.1.1
  have h10 := h.2.2.2.2.2.2.2.2.2
  obtain ⟨c1, c2, c3, c4, c5, c6, c7⟩ := h10
  have c7 : vI v 1 y = 40 := by
    rcases c7 with z | z
    · exact z.2
    · exact absurd z.1 (by decide)
  obtain ⟨hF0, hFa, w1, w2, w3, w4, w5, w6, w7, w8, w9, w10, w11, w12⟩ := h.2.1
  have e1 := (w1 1 y (by decide) (by decide) hy.1 hy.2).trans c7
  have e2 := (w1 2 y (by decide) (by decide) hy.1 hy.2).trans c3
  have e3 := (w1 3 y (by decide) (by decide) hy.1 hy.2).trans c4
  have h1 := h.f35 (f := 4) (x := hdI xs u) (by decide)
  have hs1 := h1.1.1
  obtain ⟨hF01, hFa1, w11, -⟩ := h1.2.1
  have e11 := (w11 1 y (by decide) (by decide) hy.1 hy.2).trans c7
  refine QW_s ?_
  simp only [g_89]
  refine QW_p (k_gv (hs _ _ rfl) rfl rfl) ?_
  refine QW_p (k_gv hF0 rfl rfl) ?_
  refine QW_p (k_ia (hFa _ _ rfl) hy.1 (by omega) (by omega)) ?_
  rw [e2]
  refine QW_p (k_gv (hs _ _ rfl) rfl rfl) ?_
  refine QW_p (k_gv hF0 rfl rfl) ?_
  refine QW_p (k_ia (hFa _ _ rfl) hy.1 (by omega) (by omega)) ?_
  rw [e3]
  refine QW_p (k_pi (hs _ _ rfl) rfl rfl) ?_
  refine QW_p (k_gv (hs1 _ _ rfl) rfl rfl) ?_
  refine QW_p (k_gv hF01 rfl rfl) ?_
  refine QW_p (k_ia (hFa1 _ _ rfl) hy.1 (by omega) (by omega)) ?_
  rw [e11]
  refine QW_g (by decide) ?_
  refine QW_if (by decide) ?_
  refine QW_p (k_gv (hs1 _ _ rfl) rfl rfl) ?_
  refine QW_p (k_rc hF01) ?_
  refine QW_c (h1.rem hg (by rw [q_F_sf, if_pos ⟨rfl, rfl⟩]) (by omega)) (fun q hq => ?_)
  obtain ⟨v', g1, g2, g3⟩ := hq
  exact QW_ret ⟨rfl, v', g1, g2, KC.f35.tr g3⟩
set_option maxHeartbeats 1000000 in
/-- what stands: it is over, or it stands on -/
theorem d_89s (h : CL Ps szs ths rc nP sec sig G s c room v side base u r N 1 p d st y xs RX) (hg : GW Ps szs nP sec G) (p0 : 0 ≤ p) (p1 : p < P_n (Ps (G_pg G))) (hw : P_w (Ps (G_pg G)) p = 12 ∨ P_w (Ps (G_pg G)) p = 13) (d0 : 0 ≤ d.1 ∧ d.1 ≤ sec) (hd : 1 ≤ d.2.1) (hb : (base : Int) + st.length ≤ 60) :
    QW (fun n => g_89 o n 0 s 35 y 0 0) (fun q => KC s c room q.1 c room ∧ ∃ v', SM v v' RX u r ∧ (if (standA Ps sec G p d).2 = true then q.2 = ths (G_pg G) p ∧ CA Ps szs ths rc nP sec sig (standA Ps sec G p d).1 q.1 c room v' side base u r N st xs RX
      else q.2 = -1000000 ∧ q_F q.1 35 5 = lfb v' 61 N ∧ CL Ps szs ths rc nP sec sig (standA Ps sec G p d).1 q.1 c room v' side base u r N 1 p d st y xs RX)) := by
  have hy := h.yu
  have hs := h.1.1
  have hsec := hg.2.2.2.1
  have h10 := h.2.2.2.2.2.2.2.2.2
  obtain ⟨c1, c2, c3, c4, c5, c6, c7⟩ := h10
  have c7 : vI v 1 y = P_w (Ps (G_pg G)) p ∧ vI v 7 y = d.1 ∧ vL v 8 y = d.2.1 := by
    rcases c7 with z | z
    · exact absurd z.1 (by decide)
    · exact ⟨z.2.1, z.2.2.1, z.2.2.2.1⟩
  obtain ⟨hF0, hFa, w1, w2, w3, w4, w5, w6, w7, w8, w9, w10, w11, w12⟩ := h.2.1
  have e2 := (w1 2 y (by decide) (by decide) hy.1 hy.2).trans c3
  have e3 := (w1 3 y (by decide) (by decide) hy.1 hy.2).trans c4
  have h1 := h.f35 (f := 4) (x := hdI xs u) (by decide)
  have hs1 := h1.1.1
  obtain ⟨hF01, hFa1, w11, -⟩ := h1.2.1
  have e11 := (w11 1 y (by decide) (by decide) hy.1 hy.2).trans c7.1
  have e17 := (w11 7 y (by decide) (by decide) hy.1 hy.2).trans c7.2.1
  have e20 : q_F (q_sf s 35 4 (hdI xs u)) 20 3 = sec := h1.1.2.2.2.1
  -- behind the ramp: the state with the same numbers as standA
  have K1 : ∀ s2 : Q_S, CL Ps szs ths rc nP sec sig (standA Ps sec G p d).1 s2 c room v side base u r N 1 p d st y xs RX → KC s c room s2 c room → q_F s2 35 4 = hdI xs u → QW (fun n => g_89 o n 1 s2 35 y p (Int64.ofInt (sec - d.1))) (fun q => KC s c room q.1 c room ∧ ∃ v', SM v v' RX u r ∧ (if (standA Ps sec G p d).2 = true then q.2 = ths (G_pg G) p ∧ CA Ps szs ths rc nP sec sig (standA Ps sec G p d).1 q.1 c room v' side base u r N st xs RX
      else q.2 = -1000000 ∧ q_F q.1 35 5 = lfb v' 61 N ∧ CL Ps szs ths rc nP sec sig (standA Ps sec G p d).1 q.1 c room v' side base u r N 1 p d st y xs RX)) := fun s2 h2 kc ha => by
    have eg : G_pg (standA Ps sec G p d).1 = G_pg G := by unfold standA; split <;> rfl
    have hg2 : GW Ps szs nP sec (standA Ps sec G p d).1 := by
      unfold standA
      split
      · exact hg
      · exact hg
    have hs2 := h2.1.1
    obtain ⟨hF02, hFa2, w12, w22, -⟩ := h2.2.1
    have e18 := (w22 8 y (by decide) (by decide) hy.1 hy.2).trans c7.2.2
    refine QW_s ?_
    simp only [g_89]
    refine QW_p (k_gv (hs2 _ _ rfl) rfl rfl) ?_
    refine QW_p (k_gv hF02 rfl rfl) ?_
    refine QW_p (k_la (hFa2 _ _ rfl) hy.1 (by omega) (by omega)) ?_
    rw [e18]
    refine QW_by (fun z => ?_) (fun z => ?_)
    · have zt : (standA Ps sec G p d).2 = true := decide_eq_true z
      simp only [if_pos zt]
      refine QW_p (k_gv (hs2 _ _ rfl) rfl rfl) ?_
      refine QW_p (k_rc hF02) ?_
      refine QW_c (h2.rem hg2 ha (by omega)) (fun q hq => ?_)
      obtain ⟨v', g1, g2, g3⟩ := hq
      obtain ⟨hW, ⟨n, np, hRS, hn, hnp, f7, f8, hkk, hK, hph1, hph2⟩, hr80, hr7⟩ := g1.1.rows hg2
      have hn5 := hW.2.1
      rw [eg] at hn hkk hn5
      refine QW_m (k_then g1.1.1 g1.1.2.1 hRS (by omega) p0 (by omega)) (fun q9 e => ?_)
      rw [e]
      refine ⟨kc.tr g3, v', g2, ?_, g1⟩
      show q_I q.1 (rc (G_pg (standA Ps sec G p d).1) + 4) p = ths (G_pg G) p
      have := (hkk p p0 p1).2.2.2 (by unfold isS; omega)
      rw [eg]
      exact this
    · have zt : ¬ (standA Ps sec G p d).2 = true := fun q => z (of_decide_eq_true q)
      simp only [if_neg zt]
      refine QW_p (k_rc (hs2 _ _ rfl)) ?_
      refine QW_m (QW_eta (d_75s h2 hb)) (fun q e => ?_)
      rw [e]
      refine ⟨kc.tr KC.f35, v, SM.rf _ _ _ _, rfl, ?_, h2.f35 (by decide)⟩
      show q_F (q_sf s2 35 5 _) 35 5 = _
      rw [q_F_sf, if_pos ⟨rfl, rfl⟩]
  refine QW_s ?_
  simp only [g_89]
  refine QW_p (k_gv (hs _ _ rfl) rfl rfl) ?_
  refine QW_p (k_gv hF0 rfl rfl) ?_
  refine QW_p (k_ia (hFa _ _ rfl) hy.1 (by omega) (by omega)) ?_
  rw [e2]
  refine QW_p (k_gv (hs _ _ rfl) rfl rfl) ?_
  refine QW_p (k_gv hF0 rfl rfl) ?_
  refine QW_p (k_ia (hFa _ _ rfl) hy.1 (by omega) (by omega)) ?_
  rw [e3]
  refine QW_p (k_pi (hs _ _ rfl) rfl rfl) ?_
  refine QW_p (k_gv (hs1 _ _ rfl) rfl rfl) ?_
  refine QW_p (k_gv hF01 rfl rfl) ?_
  refine QW_p (k_ia (hFa1 _ _ rfl) hy.1 (by omega) (by omega)) ?_
  rw [e11]
  refine QW_g (by omega) ?_
  refine QW_it (by omega) ?_
  refine QW_p (k_gv (hs1 _ _ rfl) rfl rfl) ?_
  refine QW_p (k_gi h1.1.2.1 rfl) ?_
  rw [e20]
  refine QW_p (k_gv (hs1 _ _ rfl) rfl rfl) ?_
  refine QW_p (k_gv hF01 rfl rfl) ?_
  refine QW_p (k_ia (hFa1 _ _ rfl) hy.1 (by omega) (by omega)) ?_
  rw [e17]
  refine QW_g (by omega) ?_
  refine QW_p (k_gv (hs1 _ _ rfl) rfl rfl) ?_
  refine QW_p (k_gv hF01 rfl rfl) ?_
  refine QW_p (k_ia (hFa1 _ _ rfl) hy.1 (by omega) (by omega)) ?_
  rw [e11]
  refine QW_g (by omega) ?_
  have ha1 : q_F (q_sf s 35 4 (hdI xs u)) 35 4 = hdI xs u := by rw [q_F_sf, if_pos ⟨rfl, rfl⟩]
  refine QW_by (fun z => ?_) (fun z => ?_)
  · refine K1 _ ?_ KC.f35 ha1
    have e : (standA Ps sec G p d).1 = G := by unfold standA; rw [if_neg z]
    rw [e]
    exact h1
  · have z := Decidable.of_not_not z
    refine QW_p (k_rc (hs1 _ _ rfl)) ?_
    refine QW_e (d_90 h1 hg p0 p1 z hd) ?_
    refine K1 _ ?_ (KC.f35.tr (KC.sl (Or.inr rfl))) ha1
    have e : (standA Ps sec G p d).1 = G_setO G (P_v (Ps (G_pg G)) p).toInt (if d.2.1 ≤ Int64.ofInt (sec - d.1) then d.2.2.2 else d.2.2.1 + (d.2.2.2 - d.2.2.1) * Int64.ofInt (sec - d.1) / d.2.1) := by unfold standA; rw [if_pos z]
    rw [e]
    exact h1.setO
end CVI
