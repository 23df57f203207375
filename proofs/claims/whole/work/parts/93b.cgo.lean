/-! THE WALKER GOES ON: the loop's steps -/
def gp (G : GT) : Int := 20 * (500 - G_bg G) + (501 - G_ph G)
def potF (m : Int) (st : List FR) : Int := 3 * st.length + (if m = 2 then 1 else 4)
def potB : (k : Nat) → BT k → Int
  | 0, _ => 0
  | k + 1, (m, _, _, st, sub) => match sub with
    | none => if m = 0 then 0 else 3 * st.length + (if m = 2 then 2 else 5)
    | some (l, r) => 3 * st.length + 4 + potB k l + potB k r
theorem potB_ge : ∀ (k : Nat) (t : BT k), 0 ≤ potB k t := by
  intro k
  induction k with
  | zero => intro t; exact Int.le_refl _
  | succ k ih =>
    intro t
    obtain ⟨m, p, d, st, sub⟩ := t
    cases sub with
    | none =>
      simp only [potB]
      split
      · omega
      · split <;> omega
    | some lr =>
      obtain ⟨l, r⟩ := lr
      have := ih l
      have := ih r
      simp only [potB]
      omega
/-- a branch as it hangs in its slot, with all that is around -/
def CTr (Ps : Int → PT) (szs ths : Int → Int → Int) (rc : Int → Nat) (nP sec : Int) (sig : Int → Int64) (G : GT) (s : Q_S) (c room : Nat) (v : CV) (side : Option Int) (base : Nat) (u : Int) (r : Bool) (N : Int) (k : Nat) (t : BT k) (it : IT k) (RX : List Int) : Prop :=
  CG Ps szs ths rc nP sec sig G s c ∧ VW s 24 c room v ∧ VB v ∧ 9 ≤ room ∧ v_s v = G_sd G ∧ CB v (Ps (G_pg G)) k base u r t it ∧ CWd v (flC k it ++ RX) ∧ CX v RX base u r N side
/-- what is left to be shown when a branch's run is through -/
def GO (o : X_O) (Ps : Int → PT) (szs ths : Int → Int → Int) (rc : Int → Nat) (nP sec : Int) (sig : Int → Int64) (s : Q_S) (c room : Nat) (v : CV) (side : Option Int) (base : Nat) (u : Int) (r : Bool) (N : Int) (RX : List Int) (bound : Int) (Q : Q_S × Unit → Prop) (k : Nat) (res : (GT × BT k) ⊕ (GT × Int × Int)) : Prop := match res with
  | .inr (G', x) => ∀ s', CF Ps szs ths rc nP sec sig s c room G' x s' → Q (s', ())
  | .inl (G', t') => (modeB k t' = 0 → side = none → ∀ s', CEn Ps szs ths rc nP sec sig s c room G' s' → Q (s', ())) ∧
    (modeB k t' = 0 → ∀ q, side = some q → ∀ s' c' room' v' i', SM v v' RX u r → KC s c room s' c' room' → CA Ps szs ths rc nP sec sig G' s' c' room' v' side base u r N [] [] RX → 0 ≤ i' → i' + 1 + gp G' ≤ bound → QW (fun n => g_68 o n 1 s' 35 (-1 - q) i') Q) ∧
    (¬ modeB k t' = 0 → ∀ s' c' room' v' i' it', SM v v' RX u r → KC s c room s' c' room' → CTr Ps szs ths rc nP sec sig G' s' c' room' v' side base u r N k t' it' RX → q_F s' 35 5 = lfb v' 61 N → 0 ≤ i' → i' + gp G' ≤ bound → QW (fun n => g_68 o n 1 s' 35 (-1000000) i') Q)
section CGO
variable {o : X_O} {Ps : Int → PT} {szs ths : Int → Int → Int} {rc : Int → Nat} {nP sec : Int} {sig : Int → Int64} {G G' : GT} {s s' s1 : Q_S} {c room c' room' c1 room1 : Nat} {v v' v1 : CV} {side : Option Int} {base : Nat} {u N : Int} {r : Bool} {st : List FR} {xs RX : List Int} {Q : Q_S × Unit → Prop} {k : Nat} {bound b1 : Int}
theorem GO.mv {res : (GT × BT k) ⊕ (GT × Int × Int)} (h : GO o Ps szs ths rc nP sec sig s c room v side base u r N RX bound Q k res) (hk : KC s c room s1 c1 room1) (hs : SM v v1 RX u r) (hb : b1 ≤ bound) : GO o Ps szs ths rc nP sec sig s1 c1 room1 v1 side base u r N RX b1 Q k res := by
  cases res with
  | inr x =>
    obtain ⟨G', x⟩ := x
    intro s' hf
    obtain ⟨s2, c2, room2, v2, b, e1, e2, e3, e4, e5, e6, e7⟩ := hf
    exact h s' ⟨s2, c2, room2, v2, b, e1, e2, e3, e4, e5, e6, hk.tr e7⟩
  | inl x =>
    obtain ⟨G', t'⟩ := x
    obtain ⟨h1, h2, h3⟩ := h
    refine ⟨fun a b s' hf => ?_, fun a q b s' c' room' v' i' g1 g2 g3 g4 g5 => ?_, fun a s' c' room' v' i' it' g1 g2 g3 g4 g5 g6 => ?_⟩
    · obtain ⟨s2, c2, room2, v2, e1, e2, e3, e4, e5, e6, e7⟩ := hf
      exact h1 a b s' ⟨s2, c2, room2, v2, e1, e2, e3, e4, e5, e6, hk.tr e7⟩
    · exact h2 a q b s' c' room' v' i' (hs.tr g1) (hk.tr g2) g3 g4 (by omega)
    · exact h3 a s' c' room' v' i' it' (hs.tr g1) (hk.tr g2) g3 g4 g5 (by omega)
/-- the run doesn't go on -/
theorem go_off {rw wt : Value} (hs : SH s) (h20 : q_T s 20 = some (sh20 rw wt)) (h0 : q_F s 20 0 = 0 ∨ q_F s 20 0 = 2) {i nx : Int} (hi : 0 ≤ i ∧ i ≤ 1000000) (hQ : Q (s, ())) : QW (fun n => g_68 o n 1 s 35 nx i) Q := by
  have K3 : QW (fun n => g_68 o n 3 s 0 0 0) Q := by
    refine QW_s ?_
    simp only [g_68]
    exact QW_ret hQ
  refine QW_s ?_
  simp only [g_68]
  refine QW_g (by omega) ?_
  refine QW_by (fun _ => K3) (fun _ => ?_)
  refine QW_p (k_gv (hs _ _ rfl) rfl rfl) ?_
  refine QW_p (k_rc h20) ?_
  refine QW_e (d_43 h20 (by omega)) ?_
  rw [if_neg (by omega)]
  dsimp only
  refine QW_g (by decide) ?_
  refine QW_it rfl ?_
  exact K3
theorem go_flt {x : Int × Int} (h : CF Ps szs ths rc nP sec sig s c room G x s') {i nx : Int} (hi : 0 ≤ i ∧ i ≤ 1000000) (hQ : Q (s', ())) : QW (fun n => g_68 o n 1 s' 35 nx i) Q := by
  obtain ⟨s2, c2, room2, v2, b, e1, e2, e3, e4, e5, e6, e7⟩ := h
  subst e1
  exact go_off (s := c_flt s2 x.1 x.2) e2.1 e2.2.1 (Or.inr c_flt_0) hi hQ
theorem go_en (h : CEn Ps szs ths rc nP sec sig s c room G s') {i nx : Int} (hi : 0 ≤ i ∧ i ≤ 1000000) (hQ : Q (s', ())) : QW (fun n => g_68 o n 1 s' 35 nx i) Q := by
  obtain ⟨s2, c2, room2, v2, e1, e2, e3, e4, e5, e6, e7⟩ := h
  subst e1
  exact go_off (s := q_sf s2 20 0 0) e2.1 e2.2.1 (Or.inl (by rw [q_F_sf, if_pos ⟨rfl, rfl⟩])) hi hQ
theorem go_2 {i nx : Int} (h : QW (fun n => g_68 o n 1 s 35 nx (i + 1)) Q) : QW (fun n => g_68 o n 2 s 35 nx i) Q := by
  refine QW_s ?_
  simp only [g_68]
  exact h
theorem go_beg (h : CG Ps szs ths rc nP sec sig G s c) {i nx : Int} (hi : 0 ≤ i ∧ i < 1000000) (hn : 0 ≤ nx ∧ nx ≤ 1000) {Q1 : Q_S × Int → Prop} (k1 : QW (fun n => g_69 o n 0 s 35 nx .null 0) Q1) (k2 : ∀ q, Q1 q → QW (fun n => g_68 o n 1 q.1 35 q.2 (i + 1)) Q) : QW (fun n => g_68 o n 1 s 35 nx i) Q := by
  have hs := h.1
  refine QW_s ?_
  simp only [g_68]
  refine QW_g (by omega) ?_
  refine QW_if (by omega) ?_
  refine QW_p (k_gv (hs _ _ rfl) rfl rfl) ?_
  refine QW_p (k_rc h.2.1) ?_
  refine QW_e (d_43on h) ?_
  dsimp only
  refine QW_g (by decide) ?_
  refine QW_if (by decide) ?_
  refine QW_g (by omega) ?_
  refine QW_if (by omega) ?_
  refine QW_p (k_rc (hs _ _ rfl)) ?_
  exact QW_c k1 (fun q hq => go_2 (k2 q hq))
theorem go_prt (h : CG Ps szs ths rc nP sec sig G s c) {i nx q0 : Int} (hi : 0 ≤ i ∧ i < 1000000) (hn : 0 ≤ q0 ∧ q0 ≤ 1000) (hx : nx = -1 - q0) {Q1 : Q_S × Int → Prop} (k1 : QW (fun n => g_83 o n 0 s 35 q0) Q1) (k2 : ∀ q, Q1 q → QW (fun n => g_68 o n 1 q.1 35 q.2 (i + 1)) Q) : QW (fun n => g_68 o n 1 s 35 nx i) Q := by
  have hs := h.1
  refine QW_s ?_
  simp only [g_68]
  refine QW_g (by omega) ?_
  refine QW_if (by omega) ?_
  refine QW_p (k_gv (hs _ _ rfl) rfl rfl) ?_
  refine QW_p (k_rc h.2.1) ?_
  refine QW_e (d_43on h) ?_
  dsimp only
  refine QW_g (by decide) ?_
  refine QW_if (by decide) ?_
  refine QW_g (by omega) ?_
  refine QW_it (by omega) ?_
  refine QW_g (by omega) ?_
  refine QW_if (by omega) ?_
  refine QW_p (k_rc (hs _ _ rfl)) ?_
  rw [show -1 - nx = q0 by omega]
  exact QW_c k1 (fun q hq => go_2 (k2 q hq))
theorem go_vis (h : CG Ps szs ths rc nP sec sig G s c) {i y : Int} (hi : 0 ≤ i ∧ i < 1000000) (hn : 0 ≤ y ∧ y ≤ 1000000) (hy : q_F s 35 5 = y) {Q1 : Q_S × Int → Prop} (k1 : QW (fun n => g_89 o n 0 s 35 y 0 0) Q1) (k2 : ∀ q, Q1 q → QW (fun n => g_68 o n 1 q.1 35 q.2 (i + 1)) Q) : QW (fun n => g_68 o n 1 s 35 (-1000000) i) Q := by
  have hs := h.1
  refine QW_s ?_
  simp only [g_68]
  refine QW_g (by omega) ?_
  refine QW_if (by omega) ?_
  refine QW_p (k_gv (hs _ _ rfl) rfl rfl) ?_
  refine QW_p (k_rc h.2.1) ?_
  refine QW_e (d_43on h) ?_
  dsimp only
  refine QW_g (by decide) ?_
  refine QW_if (by decide) ?_
  refine QW_g (by decide) ?_
  refine QW_it (by decide) ?_
  refine QW_g (by decide) ?_
  refine QW_it (by simp) ?_
  refine QW_p (k_gi (hs _ _ rfl) rfl) ?_
  rw [hy]
  refine QW_g (by omega) ?_
  refine QW_if (by omega) ?_
  refine QW_p (k_gi (hs _ _ rfl) rfl) ?_
  rw [hy]
  refine QW_p (k_rc (hs _ _ rfl)) ?_
  exact QW_c k1 (fun q hq => go_2 (k2 q hq))
theorem go_stop (h : CG Ps szs ths rc nP sec sig G s c) {i : Int} (hi : 0 ≤ i ∧ i ≤ 1000000) (hy : q_F s 35 5 = -1) (hQ : Q (s, ())) : QW (fun n => g_68 o n 1 s 35 (-1000000) i) Q := by
  have hs := h.1
  have K3 : QW (fun n => g_68 o n 3 s 0 0 0) Q := by
    refine QW_s ?_
    simp only [g_68]
    exact QW_ret hQ
  refine QW_s ?_
  simp only [g_68]
  refine QW_g (by omega) ?_
  refine QW_by (fun _ => K3) (fun _ => ?_)
  refine QW_p (k_gv (hs _ _ rfl) rfl rfl) ?_
  refine QW_p (k_rc h.2.1) ?_
  refine QW_e (d_43on h) ?_
  dsimp only
  refine QW_g (by decide) ?_
  refine QW_if (by decide) ?_
  refine QW_g (by decide) ?_
  refine QW_it (by decide) ?_
  refine QW_g (by decide) ?_
  refine QW_it (by simp) ?_
  refine QW_p (k_gi (hs _ _ rfl) rfl) ?_
  rw [hy]
  refine QW_g (by decide) ?_
  refine QW_it rfl ?_
  exact K3
end CGO
/-- a branch's frames, how many -/
theorem flC_len {v : CV} {P : PT} {sz : Int → Int} {sec ph : Int} : ∀ (k : Nat) (side : Option Int) (base u : Int) (r : Bool) (t : BT k) (it : IT k), VT P sz sec ph k side base t → CB v P k base u r t it → ((flC k it).length : Int) ≤ 61 * (1 + 2 * sidesB k t) := by
  intro k
  induction k with
  | zero => intro side base u r t it h; exact h.elim
  | succ k ih =>
    intro side base u r t it hv h
    obtain ⟨m, p, d, st, sub⟩ := t
    obtain ⟨b, xs, isub⟩ := it
    obtain ⟨h1, h2⟩ := h
    obtain ⟨v1, v2⟩ := hv
    have hb : base + (st.length : Int) ≤ 60 := v1.2.1
    have hb0 : 0 ≤ base := v1.1
    have hlen := (chV_ge st xs h1).2
    have hbl : ((if b = -1 then ([] : List Int) else [b]).length : Int) ≤ 1 := by split <;> simp
    cases sub with
    | none =>
      cases isub with
      | some _ => exact h2.elim
      | none =>
        simp only [flC, sidesB, List.length_append, List.length_nil]
        push_cast
        omega
    | some lr =>
      obtain ⟨l, rr⟩ := lr
      cases isub with
      | none => exact h2.elim
      | some ilr =>
        obtain ⟨il, ir⟩ := ilr
        obtain ⟨a1, a2, a3, a4, a5⟩ := h2
        obtain ⟨c1, c2, c3⟩ := v2
        have i1 := ih _ _ _ _ _ _ c2 a4
        have i2 := ih _ _ _ _ _ _ c3 a5
        subst a2
        simp only [flC, sidesB, List.length_append, if_pos, List.length_nil]
        push_cast
        omega
/-- what a sub-branch's run leaves of the branch above -/
theorem SM.above {v v' : CV} {P : PT} {RX RY : List Int} {base : Nat} {u N : Int} {r rb : Bool} {side : Option Int} {st : List FR} {x : Int} {ys : List Int} (h : SM v v' RY x rb) (hs : ∀ z ∈ x :: ys ++ RX, z ∈ RY) (nd : (x :: ys ++ RX).Nodup) (hc : chV v P base u r st (x :: ys)) (hx : CX v RX base u r N side) :
    SM v v' RX u r ∧ chV v' P base u r st (x :: ys) ∧ CX v' RX base u r N side ∧ slotV v' x (!rb) = slotV v x (!rb) := by
  have hx0 := (chV_ge _ _ hc).1 x List.mem_cons_self
  have hxr : x ∉ RX := fun z => nd_app nd List.mem_cons_self z
  have ht : v_t v' = v_t v := h.2 (by omega)
  have e0 : ∀ z ∈ RX, EqX v v' z 0 := fun z hz => by
    have := h.1 z (hs z (List.mem_append_right _ hz))
    rw [if_neg (fun q => hxr (by rw [← q]; exact hz))] at this
    exact this
  have sm : SM v v' RX u r := ⟨fun z hz => (e0 z hz).wk, fun _ => ht⟩
  have esl : slotV v' u r = slotV v u r := by
    by_cases zu : u = -1
    · unfold slotV
      rw [if_pos zu, if_pos zu]
      exact ht
    · have hm : u ∈ RX := by
        rcases hx.1.depth.2 with q | q
        · exact absurd q zu
        · exact q
      exact slot_same zu (e0 u hm)
  refine ⟨sm, chV_sameK (kc := colV rb) (colV_45 rb) (List.nodup_append.mp nd).1 (fun z hz => ?_) (fun _ => esl) hc, hx.same sm, ?_⟩
  · exact h.1 z (hs z (List.mem_append_left _ hz))
  · have ex := h.1 x (hs x (List.mem_append_left _ List.mem_cons_self))
    rw [if_pos rfl] at ex
    unfold slotV
    rw [if_neg (by omega), if_neg (by omega)]
    cases rb with
    | false => exact ex.1 5 (by decide) (by decide) (by decide)
    | true => exact ex.1 4 (by decide) (by decide) (by decide)
section CSK
variable {Ps : Int → PT} {szs : Int → Int → Int} {nP sec : Int} {sig : Int → Int64} {G : GT}
/-- rows passed over, in the abstract run -/
theorem run_skip {side : Option Int} {rt : Bool} {base : Int} {k : Nat} {d : DT} {st : List FR} {res : (GT × BT (k + 1)) ⊕ (GT × Int × Int)} (hg : GW Ps szs nP sec G) : ∀ (e f : Nat) (p : Int), 500 ≤ p + e → VC (Ps (G_pg G)) (szs (G_pg G)) sec (G_ph G) side base (2, p, d, st) → XC (Ps (G_pg G)) side rt p st → runA Ps sig sec f (k + 1) base G (2, p, d, st, none) = some res →
    ∃ f', f' ≤ f ∧ ¬ P_w (Ps (G_pg G)) (skR (Ps (G_pg G)) e p) = 14 ∧ VC (Ps (G_pg G)) (szs (G_pg G)) sec (G_ph G) side base (2, skR (Ps (G_pg G)) e p, d, st) ∧ XC (Ps (G_pg G)) side rt (skR (Ps (G_pg G)) e p) st ∧ runA Ps sig sec f' (k + 1) base G (2, skR (Ps (G_pg G)) e p, d, st, none) = some res := by
  have hW := hg.2.2.2.2.1 _ hg.2.2.2.2.2.1 hg.2.2.2.2.2.2.1
  have hn5 := hW.2.1
  intro e
  induction e with
  | zero =>
    intro f p he hV
    obtain ⟨p0, p1, hS, hC, hI⟩ := hV.ok2
    omega
  | succ e ih =>
    intro f p he hV hx h
    obtain ⟨p0, p1, hS, hC, hI⟩ := hV.ok2
    simp only [skR]
    by_cases c14 : P_w (Ps (G_pg G)) p = 14
    · rw [if_pos c14]
      cases f with
      | zero => simp only [runA] at h; cases h
      | succ f =>
        have hb : beginA Ps sig sec base G p d st = .inl (G, (2, P_1 (Ps (G_pg G)) p, d, st)) := by
          unfold beginA
          rw [if_pos c14]
        obtain ⟨i1, i2, i3, i4, i5, i6, i7⟩ := begin_inv hg rfl hV hb
        have hx1 := hx.mv (beg_cases rfl hW p0 p1 hS (fun _ _ _ => trivial) hb).1
        have e1 : P_1 (Ps (G_pg G)) p = p + 1 := by
          rcases WK_S (hW.2.2.2.2.2.1 p p0 p1).2.2 hS with k | k | k | k | k | k | k | k
          · omega
          · exact k.2.1.1.1
          all_goals omega
        simp only [runA, if_true, hb] at h
        rw [if_neg (by decide), e1] at h
        rw [e1] at i5 hx1
        obtain ⟨f', g1, g2, g3, g4, g5⟩ := ih f (p + 1) (by omega) i5 hx1 h
        exact ⟨f', by omega, g2, g3, g4, g5⟩
    · rw [if_neg c14]
      exact ⟨f, Nat.le_refl _, c14, hV, hx, h⟩
/-- what has just begun stands -/
theorem stand_new {p : Int} {m d3 d4 : Int64} (hm : 1 ≤ m) (hd : P_w (Ps (G_pg G)) p = 13 → d3 = G_o G (P_v (Ps (G_pg G)) p).toInt) : standA Ps sec G p (sec, m, d3, d4) = (G, false) := by
  have e0 : Int64.ofInt (sec - sec) = 0 := by rw [Int.sub_self]; rfl
  have hz : ¬ m ≤ 0 := fun q => by
    rw [Int64.le_iff_toInt_le] at hm q
    have e1 : (1 : Int64).toInt = 1 := rfl
    have e0 : (0 : Int64).toInt = 0 := rfl
    omega
  unfold standA
  dsimp only
  rw [e0]
  have ed : decide (m ≤ 0) = false := decide_eq_false hz
  rw [ed]
  by_cases c : P_w (Ps (G_pg G)) p = 13
  · rw [if_pos c, if_neg hz]
    have e2 : d3 + (d4 - d3) * 0 / m = d3 := by
      have : (d4 - d3) * 0 = 0 := by simp
      rw [this]
      have : (0 : Int64) / m = 0 := by simp
      rw [this]
      simp
    rw [e2, hd c]
    refine congrArg (fun z => (z, false)) ?_
    unfold G_setO upF
    have : (fun i => if i = (P_v (Ps (G_pg G)) p).toInt then G_o G (P_v (Ps (G_pg G)) p).toInt else G.2.1 i) = G.2.1 := funext fun i => by
      by_cases z : i = (P_v (Ps (G_pg G)) p).toInt
      · rw [if_pos z, z]; rfl
      · rw [if_neg z]
    rw [this]
  · rw [if_neg c]
end CSK
