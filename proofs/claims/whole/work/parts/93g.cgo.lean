/-! THE WALKER GOES ON = the abstract run -/
section CGG
variable {o : X_O} {Ps : Int → PT} {szs ths : Int → Int → Int} {rc : Int → Nat} {nP sec : Int} {sig : Int → Int64}
set_option maxHeartbeats 4000000 in
/-- a side, the left branch first -/
theorem gb_4 {f : Nat} (IH : GA o Ps szs ths rc nP sec sig f) (IHB : GB o Ps szs ths rc nP sec sig f)
    (k base : Nat) (side : Option Int) (r : Bool) (u N : Int) (G : GT) (p : Int) (d : DT) (t1 : List FR) (x : Int) (ys : List Int) (l rr : BT k) (il ir : IT k) (s : Q_S) (c room : Nat) (v : CV) (RX : List Int) (i : Int) (res : (GT × BT (k + 1)) ⊕ (GT × Int × Int)) (Q : Q_S × Unit → Prop)
    (hres : (match runA Ps sig sec f k ((base + (t1.length + 1) : Nat) : Int) G l with
        | none => none
        | some (.inr x) => some (.inr x)
        | some (.inl (G1, l1)) => (match runA Ps sig sec f k ((base + (t1.length + 1) : Nat) : Int) G1 rr with
          | none => none
          | some (.inr x) => some (.inr x)
          | some (.inl (G2, r1)) =>
            if modeB k l1 = 0 ∧ modeB k r1 = 0 then runA Ps sig sec f (k + 1) base (G_side G2 (-1)) (3, p, d, t1, none)
            else some (.inl (G2, (4, p, d, (p, 0) :: t1, some (l1, r1)))))) = some res)
    (hg : GW Ps szs nP sec G) (p0 : 0 ≤ p) (p1 : p < P_n (Ps (G_pg G))) (hw : P_w (Ps (G_pg G)) p = 18)
    (hV : VC (Ps (G_pg G)) (szs (G_pg G)) sec (G_ph G) side base (3, p, d, t1)) (hX : XC (Ps (G_pg G)) side r p t1) (hb60 : (base : Int) + (t1.length + 1) ≤ 60) (hk : 61 ≤ k + 1 + base)
    (hvl : VT (Ps (G_pg G)) (szs (G_pg G)) sec (G_ph G) k (some p) ((base + (t1.length + 1) : Nat) : Int) l) (hvr : VT (Ps (G_pg G)) (szs (G_pg G)) sec (G_ph G) k (some p) ((base + (t1.length + 1) : Nat) : Int) rr) (hxl : XT (Ps (G_pg G)) k (some p) false l) (hxr : XT (Ps (G_pg G)) k (some p) true rr) (hnl : NB k l) (hnr : NB k rr) (hmm : ¬ (modeB k l = 0 ∧ modeB k rr = 0))
    (hsd : 1 + sidesB k l + sidesB k rr ≤ G_sd G) (hRX : (RX.length : Int) ≤ 122 * (G_sd G - (1 + sidesB k l + sidesB k rr)))
    (h1 : CG Ps szs ths rc nP sec sig G s c) (h2 : VW s 24 c room v) (h3 : VB v) (h4 : 9 ≤ room) (h5 : v_s v = G_sd G) (hc : chV v (Ps (G_pg G)) base u r ((p, 0) :: t1) (x :: ys)) (hx : CX v RX base u r N side)
    (hcl : CB v (Ps (G_pg G)) k ((base + (t1.length + 1) : Nat) : Int) x false l il) (hcr : CB v (Ps (G_pg G)) k ((base + (t1.length + 1) : Nat) : Int) x true rr ir) (hwd : CWd v (flC k ir ++ (flC k il ++ (x :: ys ++ RX)))) (hnx : q_F s 35 5 = if modeB k l = 0 then fstL k rr ir else fstL k l il)
    (hi : 0 ≤ i) (hb : i + gp G + potB k l + potB k rr + potF 3 t1 ≤ 900000) (hGO : GO o Ps szs ths rc nP sec sig s c room v side base u r N RX (i + gp G + potB k l + potB k rr + potF 3 t1) Q (k + 1) res) : QW (fun n => g_68 o n 1 s 35 (-1000000) i) Q := by
  have hpf : potF 3 t1 = 3 * t1.length + 4 := by unfold potF; rw [if_neg (by decide)]
  have hW := hg.2.2.2.2.1 _ hg.2.2.2.2.2.1 hg.2.2.2.2.2.2.1
  have hn5 := hW.2.1
  have hx0 : 0 ≤ x := hc.1.1
  have hsl := sides0 k l
  have hsr := sides0 k rr
  have hpl := potB_ge k l
  have hpr := potB_ge k rr
  have hk1 : 61 ≤ k + (base + (t1.length + 1)) := by omega
  by_cases ml : modeB k l = 0
  · cases hl : runA Ps sig sec f k ((base + (t1.length + 1) : Nat) : Int) G l with
    | none => rw [hl] at hres; cases hres
    | some rl =>
      have e := run_m0 hl ml
      subst e
      rw [hl] at hres
      rw [if_pos ml] at hnx
      have mr : ¬ modeB k rr = 0 := fun z => hmm ⟨ml, z⟩
      exact gb_right IH IHB k base side r u N G p d t1 x ys l rr il ir s c room v RX i res Q hres hg p0 p1 hw hV hX hb60 hk hvl hvr hxr hnr mr hsd hRX h1 h2 h3 h4 h5 hc hx hcl hcr hwd hnx hi (by omega) (hGO.mv (KC.rf _ _ _) (SM.rf _ _ _ _) (by omega))
  · rw [if_neg ml] at hnx
    have hwd' : CWd v (flC k il ++ (flC k ir ++ (x :: ys ++ RX))) := hwd.perm (l_perm (fun a => by simp only [List.count_append]; omega))
    have nd0 : (flC k il ++ (flC k ir ++ (x :: ys ++ RX))).Nodup := by
      obtain ⟨fl, w1, w2, w3, w4, w5⟩ := hwd'
      exact (List.nodup_append.mp w2).1
    have ndr : (flC k ir ++ (x :: ys ++ RX)).Nodup := (List.nodup_append.mp nd0).2.1
    have nd : (x :: ys ++ RX).Nodup := (List.nodup_append.mp ndr).2.1
    have hin : ∀ z ∈ x :: ys ++ RX, z ∈ flC k ir ++ (x :: ys ++ RX) := fun z hz => List.mem_append_right _ hz
    have hxir : x ∉ flC k ir := fun z => nd_app ndr z List.mem_cons_self
    have hlen : (flC k ir).length ≤ 61 * (1 + 2 * sidesB k rr) := flC_len k _ _ _ _ _ _ hvr hcr
    have hys : ys.length = t1.length := (chV_ge _ _ hc.2).2
    have hCL := (hx.sub (RY := flC k ir ++ (x :: ys ++ RX)) hc hw nd hin).1
    cases hl : runA Ps sig sec f k ((base + (t1.length + 1) : Nat) : Int) G l with
    | none => rw [hl] at hres; cases hres
    | some rl =>
      rw [hl] at hres
      have hri := run_inv hl hg hvl (by omega) (by omega)
      refine IHB k (base + (t1.length + 1)) (some p) false x _ G l il s c room v (flC k ir ++ (x :: ys ++ RX)) i rl Q hl hg hvl hxl hnl ml hk1 (by omega) ?_ ⟨h1, h2, h3, h4, h5, hcl, hwd', hCL⟩ hnx hi (by omega) ?_
      · simp only [List.length_append, List.length_cons]
        push_cast
        omega
      · cases rl with
        | inr y =>
          cases hres
          exact fun s' hf => hGO s' hf
        | inl y =>
          obtain ⟨G1, l1⟩ := y
          dsimp only at hres
          obtain ⟨d1, d2, d3, d4, d5, d6, d7⟩ := hri
          obtain ⟨e1, e2, e3⟩ := d6 p rfl
          have hs1 := sides0 k l1
          have hgp1 : 0 ≤ gp G1 := by
            unfold gp
            have := hV.2.2.1
            have := hV.2.2.2.1
            have := d1.2.2.2.2.2.2.2.2.2.1
            omega
          have keep : ∀ v', SM v v' (flC k ir ++ (x :: ys ++ RX)) x false → slotV v' x true = slotV v x true → CB v' (Ps (G_pg G)) k ((base + (t1.length + 1) : Nat) : Int) x true rr ir := fun v' sm a4 => CB_same k _ _ _ _ _ (fun z hz => by
            have := sm.1 z (List.mem_append_left _ hz)
            rw [if_neg (fun q => hxir (by rw [← q]; exact hz))] at this
            exact this) a4 hcr
          refine ⟨(fun _ z => by cases z), fun mz q hq s' c' room' v' i' sm kc ca hi' hb' => ?_, fun mz s' c' room' v' i' it' sm kc ct nl hi' hb' => ?_⟩
          · injection hq with hq
            subst hq
            obtain ⟨a1, a2, a3, a4⟩ := sm.above hin nd hc hx
            have a4 : slotV v' x true = slotV v x true := a4
            have hs2 := d2.sub0 mz
            have hcr' := keep v' sm a4
            by_cases mr : modeB k rr = 0
            · cases hr : runA Ps sig sec f k ((base + (t1.length + 1) : Nat) : Int) G1 rr with
              | none => rw [hr] at hres; cases hres
              | some rx =>
                have e := run_m0 hr mr
                subst e
                rw [hr] at hres
                dsimp only at hres
                rw [if_pos ⟨mz, mr⟩] at hres
                obtain ⟨o1, o2⟩ := CB_over0 hcr mr
                have hs3 := hvr.sub0 mr
                refine gb_close IH k base side r false u N _ G1 p d t1 x ys s' c' room' v' RX (flC k ir ++ (x :: ys ++ RX)) i' res Q hres d1 (by omega) p0 (by rw [e1]; exact p1) (by rw [e1]; exact hw) (by rw [e1, e2]; exact hV) (by rw [e1]; exact hX) hk (by omega) ca (by rw [o1]; exact List.Perm.refl _) ?_ ?_ (by rw [e1]; exact a2) a3 hi' (by omega) (hGO.mv kc a1 (by omega))
                · have z : slotV v' x false = -1 := ca.2.2.2.2.2.2.2.2.2.2
                  rw [slot_l hx0] at z
                  exact z
                · rw [← slot_r hx0, a4]; exact o2
            · have hh := ca.hd
              obtain ⟨b1, b2, b3, b4, b5, b6, b7, b8, b9, b10, b11⟩ := ca
              have hx1 : x < v_u v' := hh.2.1
              have b11 : slotV v' x false = -1 := b11
              have hl4 : vI v' 4 x = -1 := by rw [← slot_l hx0]; exact b11
              have hl5 : ¬ vI v' 5 x = -1 := by
                rw [← slot_r hx0, a4]
                have := (CB_slot hcr).2 mr
                omega
              obtain ⟨il1, j1, j2⟩ := CB_over (v := v') (u := x) (r := false) d2 mz b11
              refine go_prt b1 ⟨hi', by omega⟩ ⟨p0, by omega⟩ rfl (d_83k b1 d1 p0 (by rw [e1]; exact p1) (fun z => by rw [e1] at z; omega) (fun z => by rw [e1] at z; omega) (fun _ => d_87b b1.1 b2 b3 hx0 hx1 b9 hl4 hl5) (fun z => by rw [e1] at z; omega) (by rw [e1]; omega)) (fun q hq => ?_)
              rw [hq]
              have enl : lfb v' 61 (vI v' 5 x) = fstL k rr ir := by
                rw [← slot_r hx0]
                exact CB_lfb k _ _ _ _ _ _ hvr hcr' hnr mr 61 (by omega)
              refine gb_right IH IHB k base side r u N G1 p d t1 x ys l1 rr il1 ir _ c' room' v' RX (i' + 1) res Q hres d1 p0 (by rw [e1]; exact p1) (by rw [e1]; exact hw) (by rw [e1, e2]; exact hV) (by rw [e1]; exact hX) hb60 hk d2 (by rw [e1, e2]; exact hvr) (by rw [e1]; exact hxr) hnr mr (by omega) (by omega) (b1.f35 (by decide)) b2.f35 b3 b4 b5 (by rw [e1]; exact a2) a3 j1 (by rw [e1]; exact hcr') (b7.perm (l_perm (fun a => by rw [j2]; simp only [List.count_append, List.count_nil]; omega))) (by rw [q_F_sf, if_pos ⟨rfl, rfl⟩]; exact enl) (by omega) (by omega) (hGO.mv (kc.tr KC.f35) a1 (by omega))
          · obtain ⟨a1, a2, a3, a4⟩ := sm.above hin nd hc hx
            have a4 : slotV v' x true = slotV v x true := a4
            have hcr' := keep v' sm a4
            obtain ⟨b1, b2, b3, b4, b5, b6, b7, b8⟩ := ct
            by_cases mr : modeB k rr = 0
            · cases hr : runA Ps sig sec f k ((base + (t1.length + 1) : Nat) : Int) G1 rr with
              | none => rw [hr] at hres; cases hres
              | some rx =>
                have e := run_m0 hr mr
                subst e
                rw [hr] at hres
                dsimp only at hres
                rw [if_neg (fun z => mz z.1)] at hres
                cases hres
                have hv5 : vI v 5 x = -1 := by
                  rw [← slot_r hx0]
                  exact (CB_slot hcr).1 mr
                rw [if_pos hv5] at nl
                refine hGO.2.2 (by show ¬ (4 : Int) = 0; decide) s' c' room' v' i' (-1, x :: ys, some (it', ir)) a1 kc ?_ nl hi' (by show i' + gp G1 ≤ _; omega)
                rw [e1] at b6
                refine CTr.join (RY := flC k it' ++ (flC k ir ++ (x :: ys ++ RX))) b1 b2 b3 b4 b5 (by rw [e1]; exact a2) ?_ ?_ b7 (fun a => ?_) a3
                · rw [e1]
                  have : (base : Int) + (((p, (0 : Int64)) :: t1).length : Int) = ((base + (t1.length + 1) : Nat) : Int) := by simp
                  rw [this]; exact b6
                · rw [e1]
                  have : (base : Int) + (((p, (0 : Int64)) :: t1).length : Int) = ((base + (t1.length + 1) : Nat) : Int) := by simp
                  rw [this]; exact hcr'
                · simp only [List.count_append]
                  omega
            · have hv5 : ¬ vI v 5 x = -1 := by
                rw [← slot_r hx0]
                have := (CB_slot hcr).2 mr
                omega
              rw [if_neg hv5, ← slot_r hx0, ← a4] at nl
              have enl : lfb v' 61 (slotV v' x true) = fstL k rr ir := CB_lfb k _ _ _ _ _ _ hvr hcr' hnr mr 61 (by omega)
              rw [enl] at nl
              refine gb_right IH IHB k base side r u N G1 p d t1 x ys l1 rr it' ir _ c' room' v' RX i' res Q hres d1 p0 (by rw [e1]; exact p1) (by rw [e1]; exact hw) (by rw [e1, e2]; exact hV) (by rw [e1]; exact hX) hb60 hk d2 (by rw [e1, e2]; exact hvr) (by rw [e1]; exact hxr) hnr mr (by omega) (by omega) b1 b2 b3 b4 b5 (by rw [e1]; exact a2) a3 b6 (by rw [e1]; exact hcr') (b7.perm (l_perm (fun a => by simp only [List.count_append]; omega))) nl hi' (by omega) (hGO.mv kc a1 (by omega))
/-- both, by the fuel -/
theorem go_all (ho : o 2 = some (10, fun i => x_TABLE.getD i 0)) (hT : ∀ k, 0 ≤ k → k < nP → TH (Ps k) (ths k)) : ∀ n f, f ≤ n → GA o Ps szs ths rc nP sec sig f ∧ GB o Ps szs ths rc nP sec sig f := by
  have z0 : GA o Ps szs ths rc nP sec sig 0 ∧ GB o Ps szs ths rc nP sec sig 0 := by
    refine ⟨fun k base side r u N G m p d st s c room v xs RX i res Q hres => ?_, fun k base side r u N G t it s c room v RX i res Q hres => ?_⟩
    · simp only [runA] at hres; cases hres
    · simp only [runA] at hres; cases hres
  intro n
  induction n with
  | zero =>
    intro f hf
    have : f = 0 := by omega
    subst this
    exact z0
  | succ n ih =>
    intro f hf
    cases f with
    | zero => exact z0
    | succ f =>
      have IH := fun g (hgf : g ≤ f) => ih g (by omega)
      have hA : GA o Ps szs ths rc nP sec sig (f + 1) := by
        intro k base side r u N G m p d st s c room v xs RX i res Q hres hm hg hV hX hk hRX hA hi hb hGO
        rcases hm with e | e
        · subst e
          rw [if_pos rfl]
          exact ga_2 ho IH k base side r u N G p d st s c room v xs RX i res Q hres hg hV hX hk hRX hA hi hb hGO
        · subst e
          rw [if_neg (by decide)]
          exact ga_3 hT (IH f (Nat.le_refl _)).1 k base side r u N G p d st s c room v xs RX i res Q hres hg hV hX hk hRX hA hi hb hGO
      refine ⟨hA, ?_⟩
      intro k base side r u N G t it s c room v RX i res Q hres hg hVT hXT hNB hm hk hsd hRX hCT hnl hi hb hGO
      cases k with
      | zero => exact hVT.elim
      | succ k =>
        obtain ⟨m, p, d, st, sub⟩ := t
        obtain ⟨b, xs, isub⟩ := it
        obtain ⟨g1, g2, g3, g4, g5, ⟨g6, g7⟩, g8, g9⟩ := hCT
        obtain ⟨hV, hsub⟩ := hVT
        have hm : ¬ m = 0 := hm
        cases sub with
        | none =>
          cases isub with
          | some _ => exact g7.elim
          | none =>
            rcases g7 with ⟨a1, _⟩ | ⟨lf, a2⟩
            · exact absurd a1 hm
            · have hb0 := lf.1
              have e0 : sidesB (k + 1) (m, p, d, st, none) = 0 := rfl
              rw [e0] at hRX
              refine gb_1 (IH f (Nat.le_refl _)).1 hA k base side r u N G m p d st b xs s c room v RX i res Q hres hg hV (hXT.1 hm) (by omega) (by omega) ⟨g1, g2, g3, g4, g5, g6, g8.perm (l_perm (fun a => ?_)), g9, a2, lf⟩ hnl hi hb hGO
              simp only [flC]
              rw [if_neg (by omega)]
              simp only [List.count_append, List.count_cons, List.count_nil]
              omega
        | some lr =>
          obtain ⟨l, rr⟩ := lr
          cases isub with
          | none => exact g7.elim
          | some ilr =>
            obtain ⟨il, ir⟩ := ilr
            obtain ⟨m4, b1, xne, cl, cr⟩ := g7
            subst m4
            subst b1
            obtain ⟨_, v1, v2⟩ := hsub
            obtain ⟨x1, x2, x3⟩ := hXT
            obtain ⟨n1, n2, n3⟩ := hNB
            obtain ⟨w18, h0, h1, t1, et, hct, hphi⟩ : P_w (Ps (G_pg G)) p = 18 ∧ 0 ≤ p ∧ p < P_n (Ps (G_pg G)) ∧ ∃ t', st = (p, 0) :: t' ∧ CNS (Ps (G_pg G)) side p t' ∧ (side = none → PHI (Ps (G_pg G)) (szs (G_pg G)) (G_ph G) (4, p, d, st)) := by
              rcases hV.2.2.2.2 with z | z | z
              · exact absurd z.1 (by simp)
              · exact absurd z.1 (by simp)
              · obtain ⟨_, z1, z2, z3, t', z4, z5, z6⟩ := z
                exact ⟨z3, z1, z2, t', z4, z5, z6⟩
            subst et
            obtain ⟨x, ys, rfl⟩ := ch_cons g6
            have eb : (base : Int) + (((p, (0 : Int64)) :: t1).length : Int) = ((base + (t1.length + 1) : Nat) : Int) := by simp
            have hb60 : (base : Int) + (((p, (0 : Int64)) :: t1).length : Int) ≤ 60 := hV.2.1
            have hV3 : VC (Ps (G_pg G)) (szs (G_pg G)) sec (G_ph G) side base (3, p, d, t1) := by
              refine VC.of3 hV.1 (by simp at hb60; omega) hV.2.2.1 hV.2.2.2.1 h0 h1 (by unfold isS; omega) hct (fun y => ?_)
              rcases hphi y with ⟨y3, _⟩ | ⟨y4, y5, y6, y7, y8, y9⟩
              · exact absurd y3 (by simp)
              · exact Or.inr ⟨y4, y5, y6, y7, y8, y9⟩
            rw [eb] at cl cr v1 v2
            simp only [runA] at hres
            rw [if_neg (by decide), if_neg (by decide), if_neg (by decide), if_pos trivial] at hres
            rw [eb] at hres
            have hpf : potF 3 t1 = 3 * t1.length + 4 := by unfold potF; rw [if_neg (by decide)]
            have epb : potB (k + 1) (4, p, d, (p, 0) :: t1, some (l, rr)) = 3 * (t1.length + 1) + 4 + potB k l + potB k rr := by simp only [potB, List.length_cons]; push_cast; rfl
            have esb : sidesB (k + 1) (4, p, d, (p, 0) :: t1, some (l, rr)) = 1 + sidesB k l + sidesB k rr := rfl
            rw [esb] at hsd hRX
            simp only [List.length_cons] at hb60
            push_cast at hb60
            refine gb_4 (IH f (Nat.le_refl _)).1 (IH f (Nat.le_refl _)).2 k base side r u N G p d t1 x ys l rr il ir s c room v RX i res Q hres hg h0 h1 w18 hV3 (x1 (by decide)) (by omega) (by omega) v1 v2 x2 x3 n1 n2 n3 hsd hRX g1 g2 g3 g4 g5 g6 g9 cl cr (g8.perm (l_perm (fun a => ?_))) hnl hi (by omega) (hGO.mv (KC.rf _ _ _) (SM.rf _ _ _ _) (by omega))
            simp only [flC]
            rw [if_pos trivial]
            simp only [List.count_append, List.count_nil]
            omega
end CGG
