/-! THE WALKER GOES ON: a side's two branches -/
section CGF
variable {o : X_O} {Ps : Int → PT} {szs ths : Int → Int → Int} {rc : Int → Nat} {nP sec : Int} {sig : Int → Int64}
/-- both are over: the side is left -/
theorem gb_close {f : Nat} (IH : GA o Ps szs ths rc nP sec sig f)
    (k base : Nat) (side : Option Int) (r rb : Bool) (u N Nx : Int) (G : GT) (p : Int) (d : DT) (t1 : List FR) (x : Int) (ys : List Int) (s : Q_S) (c room : Nat) (v : CV) (RX RY : List Int) (i : Int) (res : (GT × BT (k + 1)) ⊕ (GT × Int × Int)) (Q : Q_S × Unit → Prop)
    (hres : runA Ps sig sec f (k + 1) base (G_side G (-1)) (3, p, d, t1, none) = some res) (hg : GW Ps szs nP sec G) (hsd : 1 ≤ G_sd G) (p0 : 0 ≤ p) (p1 : p < P_n (Ps (G_pg G))) (hw : P_w (Ps (G_pg G)) p = 18)
    (hV : VC (Ps (G_pg G)) (szs (G_pg G)) sec (G_ph G) side base (3, p, d, t1)) (hX : XC (Ps (G_pg G)) side r p t1) (hk : 61 ≤ k + 1 + base) (hRX : (RX.length : Int) ≤ 122 * (G_sd G - 1))
    (hA : CA Ps szs ths rc nP sec sig G s c room v (some p) (base + (t1.length + 1)) x rb Nx [] [] RY) (hRY : RY.Perm (x :: ys ++ RX)) (h4 : vI v 4 x = -1) (h5 : vI v 5 x = -1) (hc : chV v (Ps (G_pg G)) base u r ((p, 0) :: t1) (x :: ys)) (hx : CX v RX base u r N side)
    (hi : 0 ≤ i) (hb : i + 1 + gp G + potF 3 t1 ≤ 900000) (hGO : GO o Ps szs ths rc nP sec sig s c room v side base u r N RX (i + 1 + gp G + potF 3 t1) Q (k + 1) res) : QW (fun n => g_68 o n 1 s 35 (-1 - p) i) Q := by
  have hW := hg.2.2.2.2.1 _ hg.2.2.2.2.2.1 hg.2.2.2.2.2.2.1
  have hn5 := hW.2.1
  have hph := hV.2.2
  have hbg : 0 ≤ G_bg G ∧ G_bg G ≤ 500 := ⟨hg.2.2.2.2.2.2.2.2.1, hg.2.2.2.2.2.2.2.2.2.1⟩
  have hgp : 0 ≤ gp G := by
    unfold gp
    have := hph.1
    have := hph.2.1
    omega
  have hpf : 0 ≤ potF 3 t1 := by unfold potF; rw [if_neg (by decide)]; omega
  have hh := hA.hd
  obtain ⟨b1, b2, b3, b4, b5, b6, b7, b8, b9, b10, b11⟩ := hA
  have hx0 : 0 ≤ x := hc.1.1
  have hx1 : x < v_u v := hh.2.1
  have hP : CA Ps szs ths rc nP sec sig G s c room v side base u r N ((p, 0) :: t1) (x :: ys) RX := ⟨b1, b2, b3, b4, b5, hc, b7.perm hRY, hx, b9, fun _ => h5, by show slotV v x false = -1; rw [slot_l hx0]; exact h4⟩
  refine go_prt b1 ⟨hi, by omega⟩ ⟨p0, by omega⟩ rfl (d_83k b1 hg p0 p1 (fun z => by omega) (fun z => by omega) (fun _ => d_87c b1.1 b2 b3 hx0 hx1 b9 h4 h5 (d_86 hP hg ⟨p0, p1⟩ (by unfold isS; omega) h4)) (fun z => by omega) (by omega)) (fun q hq => ?_)
  obtain ⟨e1, v', e2, e3, e4⟩ := hq
  rw [if_pos hw] at e2
  have hg2 : GW Ps szs nP sec (G_side G (-1)) := by
    obtain ⟨w1, w2, w3, w4, w5, w6, w7, w8, w9, w10, w11, w12, w13⟩ := hg
    exact ⟨w1, w2, w3, w4, w5, w6, w7, w8, w9, w10, (by show 0 ≤ G_sd G + -1; omega), (by show G_sd G + -1 ≤ 49; omega), w13⟩
  have egp : gp (G_side G (-1)) = gp G := rfl
  have := IH k base side r u N (G_side G (-1)) 3 p d t1 q.1 c room v' ys RX (i + 1) res Q hres (Or.inr rfl) hg2 hV hX hk (by show (RX.length : Int) ≤ 122 * (G_sd G + -1); omega) e2 (by omega) (by omega) (hGO.mv e4 e3 (by omega))
  rw [if_neg (by decide)] at this
  rw [e1]
  exact this
/-- the tree put together -/
theorem CTr.join {G : GT} {s : Q_S} {c room : Nat} {v : CV} {side : Option Int} {base : Nat} {u N : Int} {r : Bool} {k : Nat} {p : Int} {d : DT} {st : List FR} {x : Int} {ys RX RY : List Int} {l rr : BT k} {il ir : IT k} (h1 : CG Ps szs ths rc nP sec sig G s c) (h2 : VW s 24 c room v) (h3 : VB v) (h4 : 9 ≤ room) (h5 : v_s v = G_sd G) (hc : chV v (Ps (G_pg G)) base u r st (x :: ys)) (hl : CB v (Ps (G_pg G)) k (base + st.length) x false l il) (hr : CB v (Ps (G_pg G)) k (base + st.length) x true rr ir) (hw : CWd v RY) (hp : ∀ a, List.count a RY = List.count a (flC k il) + List.count a (flC k ir) + List.count a (x :: ys) + List.count a RX) (hx : CX v RX base u r N side) :
    CTr Ps szs ths rc nP sec sig G s c room v side base u r N (k + 1) (4, p, d, st, some (l, rr)) (-1, x :: ys, some (il, ir)) RX := by
  refine ⟨h1, h2, h3, h4, h5, ⟨hc, rfl, rfl, by simp, hl, hr⟩, hw.perm (l_perm (fun a => ?_)), hx⟩
  rw [hp]
  simp only [flC]
  rw [if_pos trivial]
  simp only [List.count_append, List.count_nil]
  omega
set_option maxHeartbeats 4000000 in
/-- the right branch -/
theorem gb_right {f : Nat} (IH : GA o Ps szs ths rc nP sec sig f) (IHB : GB o Ps szs ths rc nP sec sig f)
    (k base : Nat) (side : Option Int) (r : Bool) (u N : Int) (G : GT) (p : Int) (d : DT) (t1 : List FR) (x : Int) (ys : List Int) (l1 rr : BT k) (il ir : IT k) (s : Q_S) (c room : Nat) (v : CV) (RX : List Int) (i : Int) (res : (GT × BT (k + 1)) ⊕ (GT × Int × Int)) (Q : Q_S × Unit → Prop)
    (hres : (match runA Ps sig sec f k ((base + (t1.length + 1) : Nat) : Int) G rr with
          | none => none
          | some (.inr x) => some (.inr x)
          | some (.inl (G2, r1)) =>
            if modeB k l1 = 0 ∧ modeB k r1 = 0 then runA Ps sig sec f (k + 1) base (G_side G2 (-1)) (3, p, d, t1, none)
            else some (.inl (G2, (4, p, d, (p, 0) :: t1, some (l1, r1))))) = some res)
    (hg : GW Ps szs nP sec G) (p0 : 0 ≤ p) (p1 : p < P_n (Ps (G_pg G))) (hw : P_w (Ps (G_pg G)) p = 18)
    (hV : VC (Ps (G_pg G)) (szs (G_pg G)) sec (G_ph G) side base (3, p, d, t1)) (hX : XC (Ps (G_pg G)) side r p t1) (hb60 : (base : Int) + (t1.length + 1) ≤ 60) (hk : 61 ≤ k + 1 + base)
    (hvl : VT (Ps (G_pg G)) (szs (G_pg G)) sec (G_ph G) k (some p) ((base + (t1.length + 1) : Nat) : Int) l1) (hvr : VT (Ps (G_pg G)) (szs (G_pg G)) sec (G_ph G) k (some p) ((base + (t1.length + 1) : Nat) : Int) rr) (hxr : XT (Ps (G_pg G)) k (some p) true rr) (hnr : NB k rr) (hmr : ¬ modeB k rr = 0)
    (hsd : 1 + sidesB k l1 + sidesB k rr ≤ G_sd G) (hRX : (RX.length : Int) ≤ 122 * (G_sd G - (1 + sidesB k l1 + sidesB k rr)))
    (h1 : CG Ps szs ths rc nP sec sig G s c) (h2 : VW s 24 c room v) (h3 : VB v) (h4 : 9 ≤ room) (h5 : v_s v = G_sd G) (hc : chV v (Ps (G_pg G)) base u r ((p, 0) :: t1) (x :: ys)) (hx : CX v RX base u r N side)
    (hcl : CB v (Ps (G_pg G)) k ((base + (t1.length + 1) : Nat) : Int) x false l1 il) (hcr : CB v (Ps (G_pg G)) k ((base + (t1.length + 1) : Nat) : Int) x true rr ir) (hwd : CWd v (flC k ir ++ (flC k il ++ (x :: ys ++ RX)))) (hnl : q_F s 35 5 = fstL k rr ir)
    (hi : 0 ≤ i) (hb : i + gp G + potB k rr + potF 3 t1 ≤ 900000) (hGO : GO o Ps szs ths rc nP sec sig s c room v side base u r N RX (i + gp G + potB k rr + potF 3 t1) Q (k + 1) res) : QW (fun n => g_68 o n 1 s 35 (-1000000) i) Q := by
  have hpf : potF 3 t1 = 3 * t1.length + 4 := by unfold potF; rw [if_neg (by decide)]
  have hW := hg.2.2.2.2.1 _ hg.2.2.2.2.2.1 hg.2.2.2.2.2.2.1
  have hn5 := hW.2.1
  have hx0 : 0 ≤ x := hc.1.1
  have hsl := sides0 k l1
  have hsr := sides0 k rr
  have nd0 : (flC k ir ++ (flC k il ++ (x :: ys ++ RX))).Nodup := by
    obtain ⟨fl, w1, w2, w3, w4, w5⟩ := hwd
    exact (List.nodup_append.mp w2).1
  have ndr : (flC k il ++ (x :: ys ++ RX)).Nodup := (List.nodup_append.mp nd0).2.1
  have nd : (x :: ys ++ RX).Nodup := (List.nodup_append.mp ndr).2.1
  have hin : ∀ z ∈ x :: ys ++ RX, z ∈ flC k il ++ (x :: ys ++ RX) := fun z hz => List.mem_append_right _ hz
  have hxl : x ∉ flC k il := fun z => nd_app ndr z List.mem_cons_self
  have hlen : (flC k il).length ≤ 61 * (1 + 2 * sidesB k l1) := flC_len k _ _ _ _ _ _ hvl hcl
  have hys : ys.length = t1.length := (chV_ge _ _ hc.2).2
  have h4x : vI v 4 x = -1 ∨ vI v 4 x ∈ flC k il ++ (x :: ys ++ RX) := by
    rw [← slot_l hx0]
    by_cases z : modeB k l1 = 0
    · exact Or.inl ((CB_slot hcl).1 z)
    · exact Or.inr (List.mem_append_left _ (CB_mem hcl z))
  have hCR := (hx.sub (RY := flC k il ++ (x :: ys ++ RX)) hc hw nd hin).2 h4x
  have hk1 : 61 ≤ k + (base + (t1.length + 1)) := by omega
  cases hr : runA Ps sig sec f k ((base + (t1.length + 1) : Nat) : Int) G rr with
  | none => rw [hr] at hres; cases hres
  | some rx =>
    rw [hr] at hres
    have hri := run_inv hr hg hvr (by omega) (by omega)
    refine IHB k (base + (t1.length + 1)) (some p) true x N G rr ir s c room v (flC k il ++ (x :: ys ++ RX)) i rx Q hr hg hvr hxr hnr hmr hk1 (by omega) ?_ ⟨h1, h2, h3, h4, h5, hcr, hwd, hCR⟩ hnl hi (by omega) ?_
    · simp only [List.length_append, List.length_cons]
      push_cast
      omega
    · cases rx with
      | inr y =>
        cases hres
        exact fun s' hf => hGO s' hf
      | inl y =>
        obtain ⟨G2, r1⟩ := y
        dsimp only at hres
        obtain ⟨d1, d2, d3, d4, d5, d6, d7⟩ := hri
        obtain ⟨e1, e2, e3⟩ := d6 p rfl
        have hs1 := sides0 k r1
        refine ⟨(fun _ z => by cases z), fun mz q hq s' c' room' v' i' sm kc ca hi' hb' => ?_, fun mz s' c' room' v' i' it' sm kc ct nl hi' hb' => ?_⟩
        · injection hq with hq
          subst hq
          obtain ⟨a1, a2, a3, a4⟩ := sm.above hin nd hc hx
          have a4 : slotV v' x false = slotV v x false := a4
          have hs2 := d2.sub0 mz
          by_cases ml : modeB k l1 = 0
          · rw [if_pos ⟨ml, mz⟩] at hres
            obtain ⟨o1, o2⟩ := CB_over0 hcl ml
            have hs3 := hvl.sub0 ml
            refine gb_close IH k base side r true u N N G2 p d t1 x ys s' c' room' v' RX (flC k il ++ (x :: ys ++ RX)) i' res Q hres d1 (by omega) p0 (by rw [e1]; exact p1) (by rw [e1]; exact hw) (by rw [e1, e2]; exact hV) (by rw [e1]; exact hX) hk (by omega) ca (by rw [o1]; exact List.Perm.refl _) ?_ ?_ (by rw [e1]; exact a2) a3 hi' (by omega) (hGO.mv kc a1 (by omega))
            · rw [← slot_l hx0, a4]; exact o2
            · have z : slotV v' x true = -1 := ca.2.2.2.2.2.2.2.2.2.2
              rw [slot_r hx0] at z
              exact z
          · rw [if_neg (fun z => ml z.1)] at hres
            cases hres
            have hh := ca.hd
            obtain ⟨b1, b2, b3, b4, b5, b6, b7, b8, b9, b10, b11⟩ := ca
            have hx1 : x < v_u v' := hh.2.1
            have hl4 : ¬ vI v' 4 x = -1 := by
              rw [← slot_l hx0, a4]
              have := (CB_slot hcl).2 ml
              omega
            have hcl' : CB v' (Ps (G_pg G)) k ((base + (t1.length + 1) : Nat) : Int) x false l1 il := CB_same k _ _ _ _ _ (fun z hz => by
              have := sm.1 z (List.mem_append_left _ hz)
              rw [if_neg (fun q => hxl (by rw [← q]; exact hz))] at this
              exact this) a4 hcl
            have b11 : slotV v' x true = -1 := b11
            obtain ⟨ir1, j1, j2⟩ := CB_over (v := v') (u := x) (r := true) d2 mz b11
            rw [e1] at j1
            have hgp2 : 0 ≤ gp G2 := by
              unfold gp
              have := hV.2.2.1
              have := hV.2.2.2.1
              have := d1.2.2.2.2.2.2.2.2.2.1
              omega
            refine go_prt b1 ⟨hi', by omega⟩ ⟨p0, by omega⟩ rfl (d_83k b1 d1 p0 (by rw [e1]; exact p1) (fun z => by rw [e1] at z; omega) (fun z => by rw [e1] at z; omega) (fun _ => d_87a b1.1 b2 b3 hx0 hx1 b9 hl4) (fun z => by rw [e1] at z; omega) (by rw [e1]; omega)) (fun q hq => ?_)
            rw [hq, chV_ttr a3 a2 nd (by omega)]
            refine hGO.2.2 (by show ¬ (4 : Int) = 0; decide) _ c' room' v' (i' + 1) (-1, x :: ys, some (il, ir1)) a1 (kc.tr KC.f35) ?_ (by rw [q_F_sf, if_pos ⟨rfl, rfl⟩]) (by omega) (by show i' + 1 + gp G2 ≤ _; omega)
            refine CTr.join (RY := flC k il ++ (x :: ys ++ RX)) (b1.f35 (by decide)) b2.f35 b3 b4 b5 (by rw [e1]; exact a2) ?_ ?_ b7 (fun a => ?_) a3
            · rw [e1]
              have : (base : Int) + (((p, (0 : Int64)) :: t1).length : Int) = ((base + (t1.length + 1) : Nat) : Int) := by simp
              rw [this]; exact hcl'
            · rw [e1]
              have : (base : Int) + (((p, (0 : Int64)) :: t1).length : Int) = ((base + (t1.length + 1) : Nat) : Int) := by simp
              rw [this]; exact j1
            · rw [j2]
              simp only [List.count_append, List.count_nil]
              omega
        · rw [if_neg (fun z => mz z.2)] at hres
          cases hres
          obtain ⟨a1, a2, a3, a4⟩ := sm.above hin nd hc hx
          have a4 : slotV v' x false = slotV v x false := a4
          obtain ⟨b1, b2, b3, b4, b5, b6, b7, b8⟩ := ct
          have hcl' : CB v' (Ps (G_pg G)) k ((base + (t1.length + 1) : Nat) : Int) x false l1 il := CB_same k _ _ _ _ _ (fun z hz => by
            have := sm.1 z (List.mem_append_left _ hz)
            rw [if_neg (fun q => hxl (by rw [← q]; exact hz))] at this
            exact this) a4 hcl
          refine hGO.2.2 (by show ¬ (4 : Int) = 0; decide) s' c' room' v' i' (-1, x :: ys, some (il, it')) a1 kc ?_ nl hi' (by show i' + gp G2 ≤ _; omega)
          rw [e1] at b6
          refine CTr.join (RY := flC k it' ++ (flC k il ++ (x :: ys ++ RX))) b1 b2 b3 b4 b5 (by rw [e1]; exact a2) ?_ ?_ b7 (fun a => ?_) a3
          · rw [e1]
            have : (base : Int) + (((p, (0 : Int64)) :: t1).length : Int) = ((base + (t1.length + 1) : Nat) : Int) := by simp
            rw [this]; exact hcl'
          · rw [e1]
            have : (base : Int) + (((p, (0 : Int64)) :: t1).length : Int) = ((base + (t1.length + 1) : Nat) : Int) := by simp
            rw [this]; exact b6
          · simp only [List.count_append]
            omega
end CGF
