/-! THE CLASS'S LOOK AT THE LIMITS = the abstract look -/
def LKO (o : X_O) (Ps : Int → PT) (szs ths : Int → Int → Int) (rc : Int → Nat) (nP sec : Int) (sig : Int → Int64) (G : GT) (s : Q_S) (c room : Nat) (v : CV) (side : Option Int) (base : Nat) (u : Int) (r : Bool) (N : Int) (RX : List Int) (bound : Int) (Q : Q_S × Unit → Prop) (k : Nat) (res : (BT k × Int) ⊕ (Int × Int)) : Prop := match res with
  | .inr x => ∀ s', CF Ps szs ths rc nP sec sig s c room G x s' → Q (s', ())
  | .inl (t', n) => ∀ s' v' i' it', SM v v' RX u r → KC s c room s' c room → CTr Ps szs ths rc nP sec sig (G_side G (-n)) s' c room v' side base u r N k t' it' RX → 0 ≤ i' → i' ≤ bound → QW (fun n => g_61 o n 1 s' 35 N i') Q
theorem look_m0 {Ps : Int → PT} {sig : Int → Int64} {P : PT} {sz : Int → Int} {sec ph : Int} {G : GT} {k : Nat} {side : Option Int} {base : Int} {t : BT k} (hv : VT P sz sec ph k side base t) (hm : modeB k t = 0) : lookA Ps sig G k t = .inl (t, 0) := by
  cases k with
  | zero => exact hv.elim
  | succ k =>
    obtain ⟨m, p, d, st, sub⟩ := t
    have hm : m = 0 := hm
    subst hm
    have est : st = [] := by
      rcases hv.1.2.2.2.2 with z | z | z
      · exact z.2
      · have := z.1; simp at this
      · have := z.1; simp at this
    subst est
    simp only [lookA, List.reverse_nil, limA]
    rw [if_neg (by decide)]
section CLM
variable {o : X_O} {Ps : Int → PT} {szs ths : Int → Int → Int} {rc : Int → Nat} {nP sec : Int} {sig : Int → Int64} {G : GT} {s s1 : Q_S} {c room : Nat} {v v1 : CV} {side : Option Int} {base : Nat} {u N : Int} {r : Bool} {RX : List Int} {Q : Q_S × Unit → Prop} {k : Nat} {bound b1 : Int}
theorem LKO.mv {res : (BT k × Int) ⊕ (Int × Int)} (h : LKO o Ps szs ths rc nP sec sig G s c room v side base u r N RX bound Q k res) (hk : KC s c room s1 c room) (hs : SM v v1 RX u r) (hb : b1 ≤ bound) : LKO o Ps szs ths rc nP sec sig G s1 c room v1 side base u r N RX b1 Q k res := by
  cases res with
  | inr x =>
    intro s' hf
    obtain ⟨s2, c2, room2, v2, b, e1, e2, e3, e4, e5, e6, e7⟩ := hf
    exact h s' ⟨s2, c2, room2, v2, b, e1, e2, e3, e4, e5, e6, hk.tr e7⟩
  | inl x =>
    obtain ⟨t', n⟩ := x
    exact fun s' v' i' it' g1 g2 g3 g4 g5 => h s' v' i' it' (hs.tr g1) (hk.tr g2) g3 g4 (by omega)
theorem fol_rg (h3 : VB v) {y : Int} (y0 : 0 ≤ y) (y1 : y < v_u v) : -1 ≤ (if fbV v y = -1 then ttr v 61 y else fbV v y) ∧ (if fbV v y = -1 then ttr v 61 y else fbV v y) < v_u v := by
  split
  · exact ttr_rg h3 61 y y0 y1
  · exact fbV_rg h3 y0 y1
theorem lk_fol (hs : SH s) (h2 : VW s 24 c room v) (h3 : VB v) {y i : Int} (y0 : 0 ≤ y) (y1 : y < v_u v) (h : QW (fun n => g_61 o n 1 s 35 (if fbV v y = -1 then ttr v 61 y else fbV v y) (i + 1)) Q) : QW (fun n => g_61 o n 2 s 35 y i) Q := by
  refine QW_s ?_
  simp only [g_61]
  refine QW_p (k_gv (hs _ _ rfl) rfl rfl) ?_
  refine QW_p (k_rc h2.1) ?_
  refine QW_e (d_55 h2 h3 y0 y1) ?_
  exact h
theorem lk_off {rw wt : Value} (hs : SH s) (h20 : q_T s 20 = some (sh20 rw wt)) (h0 : q_F s 20 0 = 2) {i y : Int} (hi : 0 ≤ i ∧ i ≤ 1000000) (hy : -1 ≤ y ∧ y ≤ 1000000) (hQ : Q (s, ())) : QW (fun n => g_61 o n 1 s 35 y i) Q := by
  have K3 : QW (fun n => g_61 o n 3 s 0 0 0) Q := by
    refine QW_s ?_
    simp only [g_61]
    exact QW_ret hQ
  refine QW_s ?_
  simp only [g_61]
  refine QW_g (by omega) ?_
  refine QW_by (fun _ => K3) (fun _ => ?_)
  refine QW_g (by omega) ?_
  refine QW_by (fun _ => K3) (fun _ => ?_)
  refine QW_p (k_gv (hs _ _ rfl) rfl rfl) ?_
  refine QW_p (k_rc h20) ?_
  refine QW_e (d_43 h20 (by omega)) ?_
  rw [if_neg (by omega)]
  dsimp only
  refine QW_g (by decide) ?_
  refine QW_it rfl ?_
  exact K3
theorem lk_end (hs : SH s) {i : Int} (hi : 0 ≤ i ∧ i ≤ 1000000) (hQ : Q (s, ())) : QW (fun n => g_61 o n 1 s 35 (-1) i) Q := by
  have K3 : QW (fun n => g_61 o n 3 s 0 0 0) Q := by
    refine QW_s ?_
    simp only [g_61]
    exact QW_ret hQ
  refine QW_s ?_
  simp only [g_61]
  refine QW_g (by omega) ?_
  refine QW_by (fun _ => K3) (fun _ => ?_)
  refine QW_g (by decide) ?_
  refine QW_it (by simp) ?_
  exact K3
/-- a frame: a limit, or none -/
theorem lk_frm (h1 : CG Ps szs ths rc nP sec sig G s c) (h2 : VW s 24 c room v) (h3 : VB v) {y i : Int} (y0 : 0 ≤ y) (y1 : y < v_u v) (hi : 0 ≤ i ∧ i < 1000000) (k1 : ¬ vI v 1 y = 16 → QW (fun n => g_61 o n 1 s 35 (if fbV v y = -1 then ttr v 61 y else fbV v y) (i + 1)) Q) {Q1 : Q_S × Unit → Prop} (k2 : vI v 1 y = 16 → QW (fun n => g_62 o n 0 s 35 y) Q1 ∧ ∀ z, Q1 z → QW (fun n => g_61 o n 2 z.1 35 y i) Q) : QW (fun n => g_61 o n 1 s 35 y i) Q := by
  have hs := h1.1
  have bk := (h3.1 y y0 y1).1
  have h2' := h2
  obtain ⟨hF0, hFa, w1, w2, w3, w4, w5, w6, w7, w8, w9, w10, w11, w12⟩ := h2'
  refine QW_s ?_
  simp only [g_61]
  refine QW_g (by omega) ?_
  refine QW_if (by omega) ?_
  refine QW_g (by omega) ?_
  refine QW_if (by omega) ?_
  refine QW_p (k_gv (hs _ _ rfl) rfl rfl) ?_
  refine QW_p (k_rc h1.2.1) ?_
  refine QW_e (d_43on h1) ?_
  dsimp only
  refine QW_g (by decide) ?_
  refine QW_if (by decide) ?_
  refine QW_p (k_gv (hs _ _ rfl) rfl rfl) ?_
  refine QW_p (k_gv hF0 rfl rfl) ?_
  refine QW_p (k_ia (hFa _ _ rfl) y0 (by omega) (by omega)) ?_
  rw [w1 1 y (by decide) (by decide) y0 y1]
  refine QW_g (by omega) ?_
  refine QW_by (fun z => ?_) (fun z => ?_)
  · exact lk_fol hs h2 h3 y0 y1 (k1 z)
  · obtain ⟨a, b⟩ := k2 (Decidable.of_not_not z)
    refine QW_p (k_rc (hs _ _ rfl)) ?_
    exact QW_c a b
end CLM
section CLN
variable {o : X_O} {Ps : Int → PT} {szs ths : Int → Int → Int} {rc : Int → Nat} {nP sec : Int} {sig : Int → Int64}
def LK (o : X_O) (Ps : Int → PT) (szs ths : Int → Int → Int) (rc : Int → Nat) (nP sec : Int) (sig : Int → Int64) (k : Nat) : Prop := ∀ (base : Nat) (side : Option Int) (r : Bool) (u N : Int) (G : GT) (t : BT k) (it : IT k) (s : Q_S) (c room : Nat) (v : CV) (RX : List Int) (i : Int) (res : (BT k × Int) ⊕ (Int × Int)) (Q : Q_S × Unit → Prop),
  lookA Ps sig G k t = res → GW Ps szs nP sec (G_bgb G 0) → VT (Ps (G_pg G)) (szs (G_pg G)) sec (G_ph G) k side base t → NB k t → ¬ modeB k t = 0 → sidesB k t ≤ G_sd G → CTr Ps szs ths rc nP sec sig G s c room v side base u r N k t it RX → 0 ≤ i → i + (flC k it).length ≤ 900000 → LKO o Ps szs ths rc nP sec sig G s c room v side base u r N RX (i + (flC k it).length) Q k res → QW (fun n => g_61 o n 1 s 35 (slotV v u r) i) Q
theorem G_side0 {G : GT} {s : Q_S} {c : Nat} (h : CG Ps szs ths rc nP sec sig G s c) (n : Int) : CG Ps szs ths rc nP sec sig (G_side G n) s c := h
theorem GW.sideN {G : GT} (hg : GW Ps szs nP sec G) {n : Int} (h0 : 0 ≤ n) (h1 : n ≤ G_sd G) : GW Ps szs nP sec (G_side G (-n)) := by
  obtain ⟨w1, w2, w3, w4, w5, w6, w7, w8, w9, w10, w11, w12, w13⟩ := hg
  exact ⟨w1, w2, w3, w4, w5, w6, w7, w8, w9, w10, (by show 0 ≤ G_sd G + -n; omega), (by show G_sd G + -n ≤ 49; omega), w13⟩
set_option maxHeartbeats 4000000 in
/-- the two branches of a side are looked at -/
theorem lk_sub {k : Nat} (IH : LK o Ps szs ths rc nP sec sig k) (base : Nat) (side : Option Int) (r : Bool) (u N : Int) (G : GT) (p : Int) (d : DT) (t1 : List FR) (x : Int) (ys : List Int) (l rr : BT k) (il ir : IT k) (s : Q_S) (c room : Nat) (v : CV) (RX : List Int) (i : Int) (res : (BT (k + 1) × Int) ⊕ (Int × Int)) (Q : Q_S × Unit → Prop)
    (hres : (match lookA Ps sig G k l with
          | .inr x => .inr x
          | .inl (l1, n1) => (match lookA Ps sig G k rr with
            | .inr x => .inr x
            | .inl (r1, n2) => .inl ((4, p, d, (p, 0) :: t1, some (l1, r1)), n1 + n2))) = res)
    (hg : GW Ps szs nP sec (G_bgb G 0)) (hw : P_w (Ps (G_pg G)) p = 18) (hb60 : (base : Int) + (t1.length + 1) ≤ 60)
    (hvl : VT (Ps (G_pg G)) (szs (G_pg G)) sec (G_ph G) k (some p) ((base + (t1.length + 1) : Nat) : Int) l) (hvr : VT (Ps (G_pg G)) (szs (G_pg G)) sec (G_ph G) k (some p) ((base + (t1.length + 1) : Nat) : Int) rr) (hnl : NB k l) (hnr : NB k rr) (hmm : ¬ (modeB k l = 0 ∧ modeB k rr = 0)) (hsd : 1 + sidesB k l + sidesB k rr ≤ G_sd G)
    (h1 : CG Ps szs ths rc nP sec sig G s c) (h2 : VW s 24 c room v) (h3 : VB v) (h4 : 9 ≤ room) (h5 : v_s v = G_sd G) (hc : chV v (Ps (G_pg G)) base u r ((p, 0) :: t1) (x :: ys)) (hx : CX v RX base u r N side)
    (hcl : CB v (Ps (G_pg G)) k ((base + (t1.length + 1) : Nat) : Int) x false l il) (hcr : CB v (Ps (G_pg G)) k ((base + (t1.length + 1) : Nat) : Int) x true rr ir) (hwd : CWd v (flC k ir ++ (flC k il ++ (x :: ys ++ RX))))
    (hi : 0 ≤ i) (hb : i + (flC k il).length + (flC k ir).length ≤ 900000) (hLK : LKO o Ps szs ths rc nP sec sig G s c room v side base u r N RX (i + (flC k il).length + (flC k ir).length) Q (k + 1) res) : QW (fun n => g_61 o n 1 s 35 (fbV v x) i) Q := by
  have hx0 : 0 ≤ x := hc.1.1
  have hsl := sides0 k l
  have hsr := sides0 k rr
  have eb : (base : Int) + (((p, (0 : Int64)) :: t1).length : Int) = ((base + (t1.length + 1) : Nat) : Int) := by simp
  -- the right one
  have RT : ∀ (s1 : Q_S) (v1 : CV) (i1 : Int) (l1 : BT k) (il1 : IT k) (n1 : Int), (match lookA Ps sig G k rr with
            | .inr x => (.inr x : (BT (k + 1) × Int) ⊕ (Int × Int))
            | .inl (r1, n2) => .inl ((4, p, d, (p, 0) :: t1, some (l1, r1)), n1 + n2)) = res → 0 ≤ n1 → n1 + sidesB k rr ≤ G_sd G → CG Ps szs ths rc nP sec sig G s1 c → VW s1 24 c room v1 → VB v1 → v_s v1 = G_sd G - n1 → chV v1 (Ps (G_pg G)) base u r ((p, 0) :: t1) (x :: ys) → CX v1 RX base u r N side → CB v1 (Ps (G_pg G)) k ((base + (t1.length + 1) : Nat) : Int) x false l1 il1 → CB v1 (Ps (G_pg G)) k ((base + (t1.length + 1) : Nat) : Int) x true rr ir → CWd v1 (flC k ir ++ (flC k il1 ++ (x :: ys ++ RX))) → SM v v1 RX u r → KC s c room s1 c room → ¬ modeB k rr = 0 → 0 ≤ i1 → i1 ≤ i + (flC k il).length → QW (fun n => g_61 o n 1 s1 35 (slotV v1 x true) i1) Q := by
    intro s1 v1 i1 l1 il1 n1 hres n10 n11 g1 g2 g3 g5 gc gx gl gr gw gsm gkc mr hi1 hi2
    have nd0 : (flC k ir ++ (flC k il1 ++ (x :: ys ++ RX))).Nodup := by
      obtain ⟨fl, w1, w2, w3, w4, w5⟩ := gw
      exact (List.nodup_append.mp w2).1
    have ndr : (flC k il1 ++ (x :: ys ++ RX)).Nodup := (List.nodup_append.mp nd0).2.1
    have nd : (x :: ys ++ RX).Nodup := (List.nodup_append.mp ndr).2.1
    have hin : ∀ z ∈ x :: ys ++ RX, z ∈ flC k il1 ++ (x :: ys ++ RX) := fun z hz => List.mem_append_right _ hz
    have hxl : x ∉ flC k il1 := fun z => nd_app ndr z List.mem_cons_self
    have h4x : vI v1 4 x = -1 ∨ vI v1 4 x ∈ flC k il1 ++ (x :: ys ++ RX) := by
      rw [← slot_l hx0]
      by_cases z : modeB k l1 = 0
      · exact Or.inl ((CB_slot gl).1 z)
      · exact Or.inr (List.mem_append_left _ (CB_mem gl z))
    have hCR := (gx.sub (RY := flC k il1 ++ (x :: ys ++ RX)) gc hw nd hin).2 h4x
    refine IH (base + (t1.length + 1)) (some p) true x N (G_side G (-n1)) rr ir s1 c room v1 (flC k il1 ++ (x :: ys ++ RX)) i1 _ Q rfl (hg.sideN n10 (by show n1 ≤ G_sd G; omega)) hvr hnr mr (by show sidesB k rr ≤ G_sd G + -n1; omega) ⟨g1, g2, g3, h4, (by rw [g5]; show G_sd G - n1 = G_sd G + -n1; omega), gr, gw, hCR⟩ hi1 (by omega) ?_
    rw [lookA_side]
    cases hlr : lookA Ps sig G k rr with
    | inr y =>
      rw [hlr] at hres
      subst hres
      exact fun s' hf => (hLK.mv gkc gsm (Int.le_refl _) : LKO o Ps szs ths rc nP sec sig G s1 c room v1 side base u r N RX _ Q (k + 1) (.inr y)) s' hf
    | inl y =>
      obtain ⟨r1, n2⟩ := y
      rw [hlr] at hres
      subst hres
      intro s' v' i' it' sm kc ct hi' hb'
      obtain ⟨a1, a2, a3, a4⟩ := sm.above hin nd gc gx
      have a4 : slotV v' x false = slotV v1 x false := a4
      obtain ⟨b1, b2, b3, b4, b5, b6, b7, b8⟩ := ct
      have hcl' : CB v' (Ps (G_pg G)) k ((base + (t1.length + 1) : Nat) : Int) x false l1 il1 := CB_same k _ _ _ _ _ (fun z hz => by
        have := sm.1 z (List.mem_append_left _ hz)
        rw [if_neg (fun q => hxl (by rw [← q]; exact hz))] at this
        exact this) a4 gl
      refine hLK s' v' i' (-1, x :: ys, some (il1, it')) (gsm.tr a1) (gkc.tr kc) ?_ hi' (by omega)
      refine CTr.join (RY := flC k it' ++ (flC k il1 ++ (x :: ys ++ RX))) b1 b2 b3 b4 ?_ a2 (by rw [eb]; exact hcl') (by rw [eb]; exact b6) b7 (fun a => ?_) a3
      · rw [b5]
        show G_sd G + -n1 + -n2 = G_sd G + -(n1 + n2)
        omega
      · simp only [List.count_append]
        omega
  by_cases ml : modeB k l = 0
  · have mr : ¬ modeB k rr = 0 := fun z => hmm ⟨ml, z⟩
    rw [look_m0 hvl ml] at hres
    dsimp only at hres
    have hfb : fbV v x = slotV v x true := by
      have z := (CB_slot hcl).1 ml
      rw [slot_l hx0] at z
      unfold fbV
      rw [if_pos z, slot_r hx0]
    rw [hfb]
    exact RT s v i l il 0 hres (by omega) (by omega) h1 h2 h3 (by omega) hc hx hcl hcr hwd (SM.rf _ _ _ _) (KC.rf _ _ _) mr hi (by omega)
  · have hfb : fbV v x = slotV v x false := by
      have z := (CB_slot hcl).2 ml
      rw [slot_l hx0] at z ⊢
      unfold fbV
      rw [if_neg (by omega)]
    rw [hfb]
    have hwd' : CWd v (flC k il ++ (flC k ir ++ (x :: ys ++ RX))) := hwd.perm (l_perm (fun a => by simp only [List.count_append]; omega))
    have nd0 : (flC k il ++ (flC k ir ++ (x :: ys ++ RX))).Nodup := by
      obtain ⟨fl, w1, w2, w3, w4, w5⟩ := hwd'
      exact (List.nodup_append.mp w2).1
    have ndr : (flC k ir ++ (x :: ys ++ RX)).Nodup := (List.nodup_append.mp nd0).2.1
    have nd : (x :: ys ++ RX).Nodup := (List.nodup_append.mp ndr).2.1
    have hin : ∀ z ∈ x :: ys ++ RX, z ∈ flC k ir ++ (x :: ys ++ RX) := fun z hz => List.mem_append_right _ hz
    have hxir : x ∉ flC k ir := fun z => nd_app ndr z List.mem_cons_self
    have hCL := (hx.sub (RY := flC k ir ++ (x :: ys ++ RX)) hc hw nd hin).1
    refine IH (base + (t1.length + 1)) (some p) false x _ G l il s c room v (flC k ir ++ (x :: ys ++ RX)) i _ Q rfl hg hvl hnl ml (by omega) ⟨h1, h2, h3, h4, h5, hcl, hwd', hCL⟩ hi (by omega) ?_
    cases hll : lookA Ps sig G k l with
    | inr y =>
      rw [hll] at hres
      subst hres
      exact fun s' hf => hLK s' hf
    | inl y =>
      obtain ⟨l1, n1⟩ := y
      rw [hll] at hres
      dsimp only at hres
      obtain ⟨v1t, s1e, n10⟩ := look_inv hg k _ _ _ _ _ hvl ((lookA_bgb 0 k l).trans hll)
      have hs1 := sides0 k l1
      intro s' v' i' it' sm kc ct hi' hb'
      obtain ⟨a1, a2, a3, a4⟩ := sm.above hin nd hc hx
      have a4 : slotV v' x true = slotV v x true := a4
      have hcr' : CB v' (Ps (G_pg G)) k ((base + (t1.length + 1) : Nat) : Int) x true rr ir := CB_same k _ _ _ _ _ (fun z hz => by
        have := sm.1 z (List.mem_append_left _ hz)
        rw [if_neg (fun q => hxir (by rw [← q]; exact hz))] at this
        exact this) a4 hcr
      obtain ⟨b1, b2, b3, b4, b5, b6, b7, b8⟩ := ct
      have b5 : v_s v' = G_sd G + -n1 := b5
      by_cases mr : modeB k rr = 0
      · have hv5 : vI v 5 x = -1 := by
          rw [← slot_r hx0]
          exact (CB_slot hcr).1 mr
        rw [if_pos hv5]
        rw [look_m0 hvr mr] at hres
        subst hres
        refine hLK s' v' i' (-1, x :: ys, some (it', ir)) a1 kc ?_ hi' (by omega)
        refine CTr.join (RY := flC k it' ++ (flC k ir ++ (x :: ys ++ RX))) b1 b2 b3 b4 ?_ a2 (by rw [eb]; exact b6) (by rw [eb]; exact hcr') b7 (fun a => ?_) a3
        · rw [b5]
          show G_sd G + -n1 = G_sd G + -(n1 + 0)
          omega
        · simp only [List.count_append]
          omega
      · have hv5 : ¬ vI v 5 x = -1 := by
          rw [← slot_r hx0]
          have := (CB_slot hcr).2 mr
          omega
        rw [if_neg hv5, ← slot_r hx0, ← a4]
        exact RT s' v' i' l1 it' n1 hres n10 (by omega) b1 b2 b3 (by omega) a2 a3 b6 hcr' (b7.perm (l_perm (fun a => by simp only [List.count_append]; omega))) a1 kc mr hi' hb'
end CLN
