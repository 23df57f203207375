/-! THE CLASS'S LOOK AT THE LIMITS: all below a frame goes -/
def SubT (v : CV) : Nat → Int → List Int → Prop
  | 0, _, _ => False
  | n + 1, x, D => 0 ≤ x ∧ ∃ Dl Dr, D = x :: (Dl ++ Dr) ∧ ((vI v 4 x = -1 ∧ Dl = []) ∨ (vI v 3 (vI v 4 x) = x ∧ SubT v n (vI v 4 x) Dl)) ∧ ((vI v 5 x = -1 ∧ Dr = []) ∨ (vI v 3 (vI v 5 x) = x ∧ SubT v n (vI v 5 x) Dr))
/-- sides among them -/
def cn (v : CV) : List Int → Int
  | [] => 0
  | x :: D => (if vI v 1 x = 18 then 1 else 0) + cn v D
theorem cn_app {v : CV} : ∀ (l m : List Int), cn v (l ++ m) = cn v l + cn v m := by
  intro l
  induction l with
  | nil => intro m; simp [cn]
  | cons x l ih => intro m; simp only [List.cons_append, cn, ih]; omega
theorem cn_ge {v : CV} : ∀ (l : List Int), 0 ≤ cn v l := by
  intro l
  induction l with
  | nil => exact Int.le_refl _
  | cons x l ih => simp only [cn]; split <;> omega
theorem cn_same {v v' : CV} : ∀ (l : List Int), (∀ z ∈ l, vI v' 1 z = vI v 1 z) → cn v' l = cn v l := by
  intro l
  induction l with
  | nil => intro _; rfl
  | cons x l ih =>
    intro e
    simp only [cn]
    rw [e x List.mem_cons_self, ih (fun z hz => e z (List.mem_cons_of_mem _ hz))]
theorem SubT.ge {v : CV} {n : Nat} {x : Int} {D : List Int} (h : SubT v n x D) : 0 ≤ x ∧ ∃ E, D = x :: E := by
  cases n with
  | zero => exact h.elim
  | succ n =>
    obtain ⟨h0, Dl, Dr, e, _⟩ := h
    exact ⟨h0, _, e⟩
theorem SubT.same {v v' : CV} : ∀ (n : Nat) (x : Int) (D : List Int), (∀ z ∈ D, EqX v v' z 0) → SubT v n x D → SubT v' n x D := by
  intro n
  induction n with
  | zero => intro x D _ h; exact h.elim
  | succ n ih =>
    intro x D e h
    obtain ⟨h0, Dl, Dr, rfl, h1, h2⟩ := h
    have ex := e x List.mem_cons_self
    have e4 := ex.1 4 (by decide) (by decide) (by decide)
    have e5 := ex.1 5 (by decide) (by decide) (by decide)
    refine ⟨h0, Dl, Dr, rfl, ?_, ?_⟩
    · rw [e4]
      rcases h1 with z | ⟨z1, z2⟩
      · exact Or.inl z
      · obtain ⟨g0, E, hE⟩ := z2.ge
        have hm : vI v 4 x ∈ x :: (Dl ++ Dr) := List.mem_cons_of_mem _ (List.mem_append_left _ (by rw [hE]; exact List.mem_cons_self))
        exact Or.inr ⟨((e _ hm).1 3 (by decide) (by decide) (by decide)).trans z1, ih _ _ (fun z hz => e z (List.mem_cons_of_mem _ (List.mem_append_left _ hz))) z2⟩
    · rw [e5]
      rcases h2 with z | ⟨z1, z2⟩
      · exact Or.inl z
      · obtain ⟨g0, E, hE⟩ := z2.ge
        have hm : vI v 5 x ∈ x :: (Dl ++ Dr) := List.mem_cons_of_mem _ (List.mem_append_right _ (by rw [hE]; exact List.mem_cons_self))
        exact Or.inr ⟨((e _ hm).1 3 (by decide) (by decide) (by decide)).trans z1, ih _ _ (fun z hz => e z (List.mem_cons_of_mem _ (List.mem_append_right _ hz))) z2⟩
section CDR
variable {o : X_O} {s : Q_S} {c room : Nat} {v : CV} {Q : Q_S × Unit → Prop} {y : Int}
theorem rb_2 {x i : Int} (h : QW (fun n => g_52 o n 1 s 24 y x (i + 1)) Q) : QW (fun n => g_52 o n 2 s 24 y x i) Q := by
  refine QW_s ?_
  simp only [g_52]
  exact h
/-- one goes -/
theorem rb_drop {l x i : Int} {b : Bool} {R : List Int} (h2 : VW s 24 c room v) (h3 : VB v) (hw : CWd v (l :: x :: R)) (hl3 : vI v 3 l = x) (hf : fbV v l = -1) (hly : l ≠ y) (hy : 0 ≤ y ∧ y < 100000) (hs : slotV v x b = l) (hb : b = true → ¬ vI v 4 x = l) (hsd : -900 ≤ v_s v ∧ v_s v ≤ 900) (hi : 0 ≤ i ∧ i < 1000000)
    (K : ∀ s2 v2, VW s2 24 c room v2 → VB v2 → CWd v2 (x :: R) → FK s c room s2 c room → (∀ z ∈ R, EqX v v2 z 0) → EqX v v2 x (colV b) → vI v2 (colV b) x = -1 → v_t v2 = v_t v → v_s v2 = v_s v - (if vI v 1 l = 18 then 1 else 0) → QW (fun n => g_52 o n 1 s2 24 y x (i + 1)) Q) : QW (fun n => g_52 o n 1 s 24 y l i) Q := by
  have rg : ∀ z ∈ l :: x :: R, 0 ≤ z ∧ z < v_u v := by
    obtain ⟨fl, w1, w2, w3, w4, w5⟩ := hw
    exact fun z hz => w3 z (List.mem_append_left _ hz)
  have hu65 : v_u v ≤ 6500 := by
    obtain ⟨fl, w1, w2, w3, w4, w5⟩ := hw
    exact w5
  have nd : (l :: x :: R).Nodup := by
    obtain ⟨fl, w1, w2, w3, w4, w5⟩ := hw
    exact (List.nodup_append.mp w2).1
  have hl := rg l List.mem_cons_self
  have hx := rg x (List.mem_cons_of_mem _ List.mem_cons_self)
  have hxl : x ≠ l := fun z => (List.nodup_cons.mp nd).1 (by rw [← z]; exact List.mem_cons_self)
  have h2' := h2
  obtain ⟨hF0, hFa, w1, w2, w3, w4, w5, w6, w7, w8, w9, w10, w11, w12⟩ := h2'
  refine QW_s ?_
  simp only [g_52]
  refine QW_g (by omega) ?_
  refine QW_if (by omega) ?_
  refine QW_p (k_rc hF0) ?_
  refine QW_e (d_53f h2 h3 hl.1 hl.2) ?_
  dsimp only
  rw [hf]
  refine QW_g (by decide) ?_
  refine QW_it rfl ?_
  refine QW_g (by omega) ?_
  refine QW_it hly ?_
  refine QW_p (k_gv hF0 rfl rfl) ?_
  refine QW_p (k_ia (hFa _ _ rfl) hl.1 (by omega) (by omega)) ?_
  rw [w1 3 l (by decide) (by decide) hl.1 hl.2, hl3]
  refine QW_p (k_rc hF0) ?_
  refine QW_c (d_54 h2 h3 hl.1 hl.2 (by rw [hl3]; exact hxl) (by omega)) (fun q hq => ?_)
  obtain ⟨v2, e2, e3, e4, e5⟩ := hq
  refine rb_2 ?_
  have hcol : colV (!decide (vI v 4 x = l)) = colV b := by
    cases b with
    | false =>
      have hs : vI v 4 x = l := by rw [← slot_l hx.1]; exact hs
      simp [hs]
    | true =>
      have hb := hb rfl
      simp [hb]
  have e4' := e4
  obtain ⟨a1, a2, a3, a4, a5, a6, a7⟩ := e4'
  rw [hl3] at a1 a3 a4
  rw [hcol] at a3
  refine K q.1 v2 e2 e3 (CWd.rem hw e4) e5 (fun z hz => ?_) ?_ (a3 (by omega)) ?_ ?_
  · have hz1 := rg z (List.mem_cons_of_mem _ (List.mem_cons_of_mem _ hz))
    have h8 := a1 z hz1.1 hz1.2
    rw [if_neg (fun q => (List.nodup_cons.mp nd).1 (by rw [← q]; exact List.mem_cons_of_mem _ hz)), if_neg (fun q => (List.nodup_cons.mp (List.nodup_cons.mp nd).2).1 (by rw [← q]; exact hz))] at h8
    exact h8
  · have h8 := a1 x hx.1 hx.2
    rw [if_neg hxl, if_pos rfl, hcol] at h8
    exact h8
  · rw [a4, if_neg (by omega)]
  · rw [a7]
    split <;> omega
/-- what is left of the frame itself -/
def XR (v v' : CV) (x : Int) : Prop := (∀ j, 1 ≤ j → j ≤ 7 → j ≠ 4 → j ≠ 5 → vI v' j x = vI v j x) ∧ (∀ j, 8 ≤ j → j ≤ 10 → vL v' j x = vL v j x) ∧ vI v' 4 x = -1 ∧ vI v' 5 x = -1
/-- all below a frame go -/
theorem rb_all {room : Nat} (hy : 0 ≤ y ∧ y < 100000) : ∀ (n : Nat) (x : Int) (D R : List Int) (v : CV) (s : Q_S) (i : Int), SubT v n x (x :: D) → y ∉ D → VW s 24 c room v → VB v → CWd v (x :: D ++ R) → cn v D ≤ v_s v → v_s v ≤ 900 → 0 ≤ i → i + 2 * D.length ≤ 900000 →
    (∀ s' v' i', VW s' 24 c room v' → VB v' → CWd v' (x :: R) → FK s c room s' c room → (∀ z ∈ R, EqX v v' z 0) → XR v v' x → v_t v' = v_t v → v_s v' = v_s v - cn v D → 0 ≤ i' → i' ≤ i + 2 * D.length → QW (fun n => g_52 o n 1 s' 24 y x i') Q) → QW (fun n => g_52 o n 1 s 24 y x i) Q := by
  intro n
  induction n with
  | zero => intro x D R v s i h; exact h.elim
  | succ n ih =>
    intro x D R v s i h hyD h2 h3 hw hcn hsd hi hb K
    obtain ⟨hx0, Dl, Dr, eD, hl, hr⟩ := h
    have eD : D = Dl ++ Dr := (List.cons.inj eD).2
    subst eD
    rw [cn_app] at hcn
    have cnl := cn_ge (v := v) Dl
    have cnr := cn_ge (v := v) Dr
    have hlen : ((Dl ++ Dr).length : Int) = Dl.length + Dr.length := by simp
    -- down one step
    have down : ∀ (s : Q_S) (v : CV) (x z i : Int), VW s 24 c room v → VB v → 0 ≤ x → x < v_u v → fbV v x = z → 0 ≤ z → 0 ≤ i → i < 1000000 → QW (fun n => g_52 o n 1 s 24 y z (i + 1)) Q → QW (fun n => g_52 o n 1 s 24 y x i) Q := by
      intro s v x z i g2 g3 x0 x1 hf z0 i0 i1 k
      have hz1 := (fbV_rg g3 x0 x1).2
      have hu2 : v_u v ≤ 20000 := by
        have := g2.2.2.2.2.2.2.2.2.2.1
        have := g2.2.2.2.2.2.2.2.2.2.2.1
        omega
      refine QW_s ?_
      simp only [g_52]
      refine QW_g (by omega) ?_
      refine QW_if (by omega) ?_
      refine QW_p (k_rc g2.1) ?_
      refine QW_e (d_53f g2 g3 x0 x1) ?_
      dsimp only
      rw [hf] at hz1 ⊢
      refine QW_g (by omega) ?_
      refine QW_if (by omega) ?_
      exact rb_2 k
    -- the right part, the left one gone
    have RP : ∀ (s1 : Q_S) (v1 : CV) (i1 : Int), VW s1 24 c room v1 → VB v1 → CWd v1 (x :: Dr ++ R) → FK s c room s1 c room → (∀ z ∈ Dr ++ R, EqX v v1 z 0) → EqX v v1 x 4 → vI v1 4 x = -1 → v_t v1 = v_t v → v_s v1 = v_s v - cn v Dl → 0 ≤ i1 → i1 ≤ i + 2 * Dl.length → QW (fun n => g_52 o n 1 s1 24 y x i1) Q := by
      intro s1 v1 i1 g2 g3 gw gk ge gx g4 gt gs gi0 gi1
      have e5 := gx.1 5 (by decide) (by decide) (by decide)
      have x1 : x < v_u v1 := by
        obtain ⟨fl, w1, w2, w3, w4, w5⟩ := gw
        exact (w3 x (List.mem_append_left _ List.mem_cons_self)).2
      have nd1 : (x :: Dr ++ R).Nodup := by
        obtain ⟨fl, w1, w2, w3, w4, w5⟩ := gw
        exact (List.nodup_append.mp w2).1
      rcases hr with ⟨z1, z2⟩ | ⟨z1, z2⟩
      · subst z2
        simp only [List.append_nil, List.length_nil] at *
        refine K s1 v1 i1 g2 g3 gw gk ge ⟨fun j a1 a2 a3 a4 => gx.1 j a1 a2 a3, gx.2, g4, e5.trans z1⟩ gt gs gi0 (by omega)
      · obtain ⟨r0, E, hE⟩ := z2.ge
        have hrD : vI v 5 x ∈ Dr := by rw [hE]; exact List.mem_cons_self
        have z2' : SubT v1 n (vI v 5 x) Dr := z2.same n _ _ (fun z hz => ge z (List.mem_append_left _ hz))
        have er := ge _ (List.mem_append_left _ hrD)
        have hfb : fbV v1 x = vI v 5 x := by
          unfold fbV
          rw [if_pos g4, e5]
        subst hE
        simp only [List.length_cons] at hb hlen
        push_cast at hb hlen
        have hcnE : cn v1 E = cn v E := cn_same E (fun z hz => (ge z (List.mem_append_left _ (List.mem_cons_of_mem _ hz))).1 1 (by decide) (by decide) (by decide))
        have hcnr : cn v (vI v 5 x :: E) = (if vI v 1 (vI v 5 x) = 18 then 1 else 0) + cn v E := rfl
        have hif : (0 : Int) ≤ (if vI v 1 (vI v 5 x) = 18 then 1 else 0) ∧ (if vI v 1 (vI v 5 x) = 18 then 1 else 0) ≤ (1 : Int) := by split <;> omega
        have cnE := cn_ge (v := v) E
        refine down s1 v1 x (vI v 5 x) i1 g2 g3 hx0 x1 hfb r0 gi0 (by omega) ?_
        refine ih (vI v 5 x) E (x :: R) v1 s1 (i1 + 1) z2' (fun q => hyD (List.mem_append_right _ (List.mem_cons_of_mem _ q))) g2 g3 (gw.perm (l_perm (fun a => by simp only [List.cons_append, List.count_append, List.count_cons]; omega))) (by rw [hcnE]; omega) (by omega) (by omega) (by omega) (fun s2 v2 i2 k2 k3 k4 k5 k6 k7 k8 k9 k10 k11 => ?_)
        have ex2 := k6 x List.mem_cons_self
        have e42 := ex2.1 4 (by decide) (by decide) (by decide)
        have e52 := ex2.1 5 (by decide) (by decide) (by decide)
        refine rb_drop (b := true) (R := R) k2 k3 k4 ?_ ?_ (fun q => hyD (List.mem_append_right _ (by rw [← q]; exact List.mem_cons_self))) hy ?_ (fun _ => ?_) (by omega) (by omega) (fun s3 v3 j2 j3 j4 j5 j6 j7 j8 j9 j10 => ?_)
        · rw [k7.1 3 (by decide) (by decide) (by decide) (by decide), er.1 3 (by decide) (by decide) (by decide)]
          exact z1
        · unfold fbV
          rw [if_pos k7.2.2.1]
          exact k7.2.2.2
        · rw [slot_r hx0, e52, e5]
        · rw [e42, g4]
          omega
        · have j7' : EqX v2 v3 x 5 := j7
          have j8 : vI v3 5 x = -1 := j8
          have ekl : vI v2 1 (vI v 5 x) = vI v 1 (vI v 5 x) := (k7.1 1 (by decide) (by decide) (by decide) (by decide)).trans (er.1 1 (by decide) (by decide) (by decide))
          refine K s3 v3 (i2 + 1) j2 j3 j4 ((gk.tr k5).tr j5) (fun z hz => ?_) ⟨fun j a1 a2 a3 a4 => ?_, fun j a1 a2 => ?_, ?_, j8⟩ (j9.trans (k8.trans gt)) ?_ (by omega) ?_
          · exact ((ge z (List.mem_append_right _ hz)).tr (k6 z (List.mem_cons_of_mem _ hz))).tr (j6 z hz)
          · exact (j7'.1 j a1 a2 a4).trans ((ex2.1 j a1 a2 (by omega)).trans (gx.1 j a1 a2 a3))
          · exact (j7'.2 j a1 a2).trans ((ex2.2 j a1 a2).trans (gx.2 j a1 a2))
          · exact (j7'.1 4 (by decide) (by decide) (by decide)).trans (e42.trans g4)
          · rw [j10, k9, ekl, hcnE, gs, cn_app, hcnr]
            omega
          · simp only [List.length_append, List.length_cons]
            push_cast
            omega
    rcases hl with ⟨z1, z2⟩ | ⟨z1, z2⟩
    · subst z2
      simp only [List.nil_append, List.length_nil] at *
      exact RP s v i h2 h3 hw (FK.rf _ _ _) (fun z _ => EqX.rf _ _ _) (EqX.rf _ _ _) z1 rfl (by simp [cn]) hi (by omega)
    · obtain ⟨l0, E, hE⟩ := z2.ge
      have x1 : x < v_u v := by
        obtain ⟨fl, w1, w2, w3, w4, w5⟩ := hw
        exact (w3 x (List.mem_append_left _ List.mem_cons_self)).2
      have nd1 : (x :: (Dl ++ Dr) ++ R).Nodup := by
        obtain ⟨fl, w1, w2, w3, w4, w5⟩ := hw
        exact (List.nodup_append.mp w2).1
      have hfb : fbV v x = vI v 4 x := by
        unfold fbV
        rw [if_neg (by omega)]
      subst hE
      simp only [List.length_cons] at hb hlen
      push_cast at hb hlen
      have hcnl : cn v (vI v 4 x :: E) = (if vI v 1 (vI v 4 x) = 18 then 1 else 0) + cn v E := rfl
      have hif : (0 : Int) ≤ (if vI v 1 (vI v 4 x) = 18 then 1 else 0) ∧ (if vI v 1 (vI v 4 x) = 18 then 1 else 0) ≤ (1 : Int) := by split <;> omega
      have cnE := cn_ge (v := v) E
      refine down s v x (vI v 4 x) i h2 h3 hx0 x1 hfb l0 hi (by omega) ?_
      refine ih (vI v 4 x) E (x :: (Dr ++ R)) v s (i + 1) z2 (fun q => hyD (List.mem_append_left _ (List.mem_cons_of_mem _ q))) h2 h3 (hw.perm (l_perm (fun a => by simp only [List.cons_append, List.count_append, List.count_cons]; omega))) (by omega) hsd (by omega) (by omega) (fun s2 v2 i2 k2 k3 k4 k5 k6 k7 k8 k9 k10 k11 => ?_)
      have ex2 := k6 x List.mem_cons_self
      have e42 := ex2.1 4 (by decide) (by decide) (by decide)
      refine rb_drop (b := false) (R := Dr ++ R) k2 k3 k4 ?_ ?_ (fun q => hyD (List.mem_append_left _ (by rw [← q]; exact List.mem_cons_self))) hy ?_ (fun q => by cases q) (by omega) (by omega) (fun s3 v3 j2 j3 j4 j5 j6 j7 j8 j9 j10 => ?_)
      · rw [k7.1 3 (by decide) (by decide) (by decide) (by decide)]
        exact z1
      · unfold fbV
        rw [if_pos k7.2.2.1]
        exact k7.2.2.2
      · rw [slot_l hx0, e42]
      · have j7' : EqX v2 v3 x 4 := j7
        have ekl : vI v2 1 (vI v 4 x) = vI v 1 (vI v 4 x) := k7.1 1 (by decide) (by decide) (by decide) (by decide)
        refine RP s3 v3 (i2 + 1) j2 j3 j4 (k5.tr j5) (fun z hz => (k6 z (List.mem_cons_of_mem _ hz)).tr (j6 z hz)) (ex2.wk.tr j7') j8 (j9.trans k8) ?_ (by omega) ?_
        · rw [j10, k9, ekl, hcnl]
          omega
        · simp only [List.length_cons]
          push_cast
          omega
/-- removeBelow -/
theorem d_52 {n : Nat} {D R : List Int} (hS : SubT v n y (y :: D)) (hyD : y ∉ D) (hy : 0 ≤ y ∧ y < 100000) (h2 : VW s 24 c room v) (h3 : VB v) (hw : CWd v (y :: D ++ R)) (hcn : cn v D ≤ v_s v) (hsd : v_s v ≤ 900) :
    QW (fun n => g_52 o n 0 s 24 y 0 0) (fun q => ∃ v', VW q.1 24 c room v' ∧ VB v' ∧ CWd v' (y :: R) ∧ FK s c room q.1 c room ∧ (∀ z ∈ R, EqX v v' z 0) ∧ XR v v' y ∧ v_t v' = v_t v ∧ v_s v' = v_s v - cn v D) := by
  have hlen : (D.length : Int) ≤ 6500 := by
    obtain ⟨fl, w1, w2, w3, w4, w5⟩ := hw
    simp only [List.cons_append, List.length_cons, List.length_append] at w4
    omega
  refine QW_s ?_
  simp only [g_52]
  refine rb_all hy n y D R v s 0 hS hyD h2 h3 hw hcn hsd (by omega) (by omega) (fun s' v' i' k2 k3 k4 k5 k6 k7 k8 k9 k10 k11 => ?_)
  have y1 : y < v_u v' := by
    obtain ⟨fl, w1, w2, w3, w4, w5⟩ := k4
    exact (w3 y (List.mem_append_left _ List.mem_cons_self)).2
  have hf : fbV v' y = -1 := by
    unfold fbV
    rw [if_pos k7.2.2.1]
    exact k7.2.2.2
  refine QW_s ?_
  simp only [g_52]
  refine QW_g (by omega) ?_
  refine QW_if (by omega) ?_
  refine QW_p (k_rc k2.1) ?_
  refine QW_e (d_53f k2 k3 hy.1 y1) ?_
  dsimp only
  rw [hf]
  refine QW_g (by decide) ?_
  refine QW_it rfl ?_
  refine QW_g (by omega) ?_
  refine QW_if (by simp) ?_
  refine QW_s ?_
  simp only [g_52]
  exact QW_ret ⟨v', k2, k3, k4, k5, k6, k7, k8, k9⟩
end CDR
