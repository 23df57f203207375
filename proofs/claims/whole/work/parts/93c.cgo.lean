/-! THE WALKER GOES ON: a branch in flight -/
section CGA
variable {o : X_O} {Ps : Int → PT} {szs ths : Int → Int → Int} {rc : Int → Nat} {nP sec : Int} {sig : Int → Int64}
theorem run_0 {f k : Nat} {base : Int} {G : GT} {p : Int} {d : DT} {st : List FR} {sub : Option (BT k × BT k)} {res : (GT × BT (k + 1)) ⊕ (GT × Int × Int)} (h : runA Ps sig sec f (k + 1) base G (0, p, d, st, sub) = some res) : res = .inl (G, (0, p, d, st, sub)) := by
  cases f with
  | zero => simp only [runA] at h; cases h
  | succ f =>
    simp only [runA] at h
    rw [if_neg (by decide), if_neg (by decide), if_neg (by decide), if_neg (by decide)] at h
    cases h
    rfl
theorem run_m0 {f k : Nat} {base : Int} {G : GT} {t : BT k} {res : (GT × BT k) ⊕ (GT × Int × Int)} (h : runA Ps sig sec f k base G t = some res) (hm : modeB k t = 0) : res = .inl (G, t) := by
  cases k with
  | zero =>
    cases f with
    | zero => simp only [runA] at h; cases h
    | succ f => simp only [runA] at h; cases h
  | succ k =>
    obtain ⟨m, p, d, st, sub⟩ := t
    have hm : m = 0 := hm
    subst hm
    exact run_0 h
/-- what stands when it has begun stands on -/
theorem beg_stand {G G' : GT} {p b : Int} {d : DT} {st : List FR} {cc : CT} (h : beginA Ps sig sec b G p d st = .inl (G', cc)) (hm : cc.1 = 1) : standA Ps sec G' cc.2.1 cc.2.2.1 = (G', false) := by
  have fin : ∀ {G1 : GT} {c1 : CT}, (Sum.inl (G1, c1) : (GT × CT) ⊕ (Int × Int)) = .inl (G', cc) → cc = c1 ∧ G' = G1 := fun e => by
    injection e with e
    injection e with e1 e2
    exact ⟨e2.symm, e1.symm⟩
  have push : ∀ {y : (GT × CT) ⊕ (Int × Int)}, pushA b p st y = .inl (G', cc) → y = .inl (G', cc) := fun e => by
    unfold pushA at e
    split at e
    · cases e
    · exact e
  have no : ∀ {G1 : GT} {m q : Int} {d1 : DT} {t1 : List FR}, (Sum.inl (G1, (m, q, d1, t1)) : (GT × CT) ⊕ (Int × Int)) = .inl (G', cc) → ¬ m = 1 → standA Ps sec G' cc.2.1 cc.2.2.1 = (G', false) := fun e z => by
    rw [(fin e).1] at hm
    exact absurd hm z
  unfold beginA at h
  by_cases c14 : P_w (Ps (G_pg G)) p = 14
  · rw [if_pos c14] at h
    exact no h (by decide)
  rw [if_neg c14] at h
  by_cases cb : G_bg G = 500
  · rw [if_pos cb] at h; cases h
  rw [if_neg cb] at h
  by_cases c10 : P_w (Ps (G_pg G)) p = 10
  · rw [if_pos c10] at h
    split at h
    · cases h
    · exact no h (by decide)
  rw [if_neg c10] at h
  by_cases c11 : P_w (Ps (G_pg G)) p = 11
  · rw [if_pos c11] at h
    split at h
    · cases h
    · exact no h (by decide)
  rw [if_neg c11] at h
  by_cases c12 : P_w (Ps (G_pg G)) p = 12
  · rw [if_pos c12] at h
    split at h
    · cases h
    · rename_i x _
      by_cases z : x < 1
      · rw [if_pos z] at h
        exact no h (by decide)
      · rw [(fin h).1, (fin h).2]
        refine stand_new ?_ (fun q => ?_)
        · rw [Int64.le_iff_toInt_le]
          rw [Int64.lt_iff_toInt_lt] at z
          omega
        · have q : P_w (Ps (G_pg G)) p = 13 := q
          omega
  rw [if_neg c12] at h
  by_cases c13 : P_w (Ps (G_pg G)) p = 13
  · rw [if_pos c13] at h
    split at h
    · cases h
    · split at h
      · cases h
      · rename_i x _ _ m _
        by_cases z : m < 1
        · rw [if_pos z, if_pos z] at h
          exact no h (by decide)
        · rw [if_neg z, if_neg z] at h
          rw [(fin h).1, (fin h).2]
          refine stand_new ?_ (fun q => rfl)
          rw [Int64.le_iff_toInt_le]
          rw [Int64.lt_iff_toInt_lt] at z
          omega
  rw [if_neg c13] at h
  by_cases c15 : P_w (Ps (G_pg G)) p = 15
  · rw [if_pos c15] at h
    split at h
    · cases h
    · rename_i x _
      by_cases y : x = 0
      · rw [if_neg (fun z => z y)] at h
        by_cases w : P_3 (Ps (G_pg G)) p = -1
        · rw [if_pos w] at h; exact no h (by decide)
        · rw [if_neg w] at h; exact no h (by decide)
      · rw [if_pos y] at h; exact no h (by decide)
  rw [if_neg c15] at h
  by_cases c16 : P_w (Ps (G_pg G)) p = 16
  · rw [if_pos c16] at h
    split at h
    · cases h
    · split at h
      · exact no h (by decide)
      · exact no (push h) (by decide)
  rw [if_neg c16] at h
  by_cases c17 : P_w (Ps (G_pg G)) p = 17
  · rw [if_pos c17] at h
    split at h
    · cases h
    · split at h
      · exact no h (by decide)
      · exact no (push h) (by decide)
  rw [if_neg c17] at h
  by_cases c18 : P_w (Ps (G_pg G)) p = 18
  · rw [if_pos c18] at h
    have h := push h
    split at h
    · cases h
    · exact no h (by decide)
  rw [if_neg c18] at h
  by_cases c19 : P_w (Ps (G_pg G)) p = 19
  · rw [if_pos c19] at h
    split at h
    · cases h
    · exact no (push h) (by decide)
  rw [if_neg c19] at h
  by_cases c20 : P_w (Ps (G_pg G)) p = 20
  · rw [if_pos c20] at h
    exact no h (by decide)
  rw [if_neg c20] at h
  exact no h (by decide)
/-- a new side's branches -/
theorem side_new {P : PT} {sz : Int → Int} {ph : Int} {side : Option Int} {rt : Bool} {base : Int} {p : Int} {d : DT} {st : List FR} {k : Nat} (hW : WP P sz) (hV : VC P sz sec ph side base (4, p, d, st)) (hX : XC P side rt p st) :
    VT P sz sec ph (k + 2) side base (4, p, d, st, some (subB (k + 1) (P_1 P p), subB (k + 1) (P_2 P p))) ∧ XT P (k + 2) side rt (4, p, d, st, some (subB (k + 1) (P_1 P p), subB (k + 1) (P_2 P p))) ∧ NB (k + 2) (4, p, d, st, some (subB (k + 1) (P_1 P p), subB (k + 1) (P_2 P p))) := by
  obtain ⟨b0, b1, ph0, ph1, hmd⟩ := hV
  have b1 : base + (st.length : Int) ≤ 60 := b1
  have hV' : VC P sz sec ph side base (4, p, d, st) := ⟨b0, b1, ph0, ph1, hmd⟩
  rcases hmd with z | z | z
  · exact absurd z.1 (by simp)
  · exact absurd z.1 (by simp)
  · obtain ⟨_, p0, p1, w18, t', et, hct, _⟩ := z
    have p0 : 0 ≤ p := p0
    have p1 : p < P_n P := p1
    have w18 : P_w P p = 18 := w18
    have hC2 : C2 P sz p ∧ isS (P_w P (p + 1)) ∧ isS (P_w P (p + 1 + sz (p + 1))) := by
      rcases WK_S (hW.2.2.2.2.2.1 p p0 p1).2.2 (by unfold isS; omega) with k | k | k | k | k | k | k | k
      · omega
      · omega
      · omega
      · omega
      · omega
      · exact ⟨k.2.1, k.2.2.1, k.2.2.2⟩
      · omega
      · omega
    obtain ⟨hc2, hS1, hS2⟩ := hC2
    have z1 := (hW.2.2.2.2.2.1 (p + 1) (by omega) hc2.1.2.2).1
    have hne : ¬ p = -1 := by omega
    have v1 : VT P sz sec ph (k + 1) (some p) (base + (st.length : Int)) (subB (k + 1) (P_1 P p)) := by
      rw [hc2.1.1]
      exact subB_VT (by omega) b1 ph0 ph1 (by omega) hc2.1.2.2 hS1 (CNS.sid hc2.1.2.1 hne w18)
    have v2 : VT P sz sec ph (k + 1) (some p) (base + (st.length : Int)) (subB (k + 1) (P_2 P p)) := by
      rw [hc2.2.1]
      exact subB_VT (by omega) b1 ph0 ph1 (by omega) hc2.2.2.2 hS2 (CNS.sid hc2.2.2.1 hne w18)
    have sx := subB_XC (sz := sz) p0 p1 w18
    exact ⟨⟨hV', rfl, v1, v2⟩, ⟨fun _ => hX, ⟨fun _ => sx.1, trivial⟩, ⟨fun _ => sx.2, trivial⟩⟩, trivial, trivial, fun z => absurd z.1 (by show ¬ (2 : Int) = 0; decide)⟩
/-- in flight -/
def GA (o : X_O) (Ps : Int → PT) (szs ths : Int → Int → Int) (rc : Int → Nat) (nP sec : Int) (sig : Int → Int64) (f : Nat) : Prop := ∀ (k base : Nat) (side : Option Int) (r : Bool) (u N : Int) (G : GT) (m p : Int) (d : DT) (st : List FR) (s : Q_S) (c room : Nat) (v : CV) (xs RX : List Int) (i : Int) (res : (GT × BT (k + 1)) ⊕ (GT × Int × Int)) (Q : Q_S × Unit → Prop),
  runA Ps sig sec f (k + 1) base G (m, p, d, st, none) = some res → (m = 2 ∨ m = 3) → GW Ps szs nP sec G → VC (Ps (G_pg G)) (szs (G_pg G)) sec (G_ph G) side base (m, p, d, st) → XC (Ps (G_pg G)) side r p st → 61 ≤ k + 1 + base → (RX.length : Int) ≤ 122 * G_sd G → CA Ps szs ths rc nP sec sig G s c room v side base u r N st xs RX → 0 ≤ i → i + gp G + potF m st ≤ 900000 →
  GO o Ps szs ths rc nP sec sig s c room v side base u r N RX (i + gp G + potF m st) Q (k + 1) res → QW (fun n => g_68 o n 1 s 35 (if m = 2 then p else ths (G_pg G) p) i) Q
/-- to be visited -/
def GB (o : X_O) (Ps : Int → PT) (szs ths : Int → Int → Int) (rc : Int → Nat) (nP sec : Int) (sig : Int → Int64) (f : Nat) : Prop := ∀ (k base : Nat) (side : Option Int) (r : Bool) (u N : Int) (G : GT) (t : BT k) (it : IT k) (s : Q_S) (c room : Nat) (v : CV) (RX : List Int) (i : Int) (res : (GT × BT k) ⊕ (GT × Int × Int)) (Q : Q_S × Unit → Prop),
  runA Ps sig sec f k base G t = some res → GW Ps szs nP sec G → VT (Ps (G_pg G)) (szs (G_pg G)) sec (G_ph G) k side base t → XT (Ps (G_pg G)) k side r t → NB k t → ¬ modeB k t = 0 → 61 ≤ k + base → sidesB k t ≤ G_sd G → (RX.length : Int) ≤ 122 * (G_sd G - sidesB k t) → CTr Ps szs ths rc nP sec sig G s c room v side base u r N k t it RX → q_F s 35 5 = fstL k t it → 0 ≤ i → i + gp G + potB k t ≤ 900000 →
  GO o Ps szs ths rc nP sec sig s c room v side base u r N RX (i + gp G + potB k t) Q k res → QW (fun n => g_68 o n 1 s 35 (-1000000) i) Q
theorem ch_nil {v : CV} {P : PT} {base u : Int} {r : Bool} {xs : List Int} (h : chV v P base u r [] xs) : xs = [] := by
  cases xs with
  | nil => rfl
  | cons _ _ => exact h.elim
theorem ch_cons {v : CV} {P : PT} {base u : Int} {r : Bool} {f : FR} {t : List FR} {xs : List Int} (h : chV v P base u r (f :: t) xs) : ∃ x ys, xs = x :: ys := by
  cases xs with
  | nil => exact h.elim
  | cons x ys => exact ⟨x, ys, rfl⟩
set_option maxHeartbeats 4000000 in
theorem ga_2 (ho : o 2 = some (10, fun i => x_TABLE.getD i 0)) {f : Nat} (IH : ∀ g, g ≤ f → GA o Ps szs ths rc nP sec sig g ∧ GB o Ps szs ths rc nP sec sig g)
    (k base : Nat) (side : Option Int) (r : Bool) (u N : Int) (G : GT) (p : Int) (d : DT) (st : List FR) (s : Q_S) (c room : Nat) (v : CV) (xs RX : List Int) (i : Int) (res : (GT × BT (k + 1)) ⊕ (GT × Int × Int)) (Q : Q_S × Unit → Prop)
    (hres : runA Ps sig sec (f + 1) (k + 1) base G (2, p, d, st, none) = some res) (hg : GW Ps szs nP sec G) (hV : VC (Ps (G_pg G)) (szs (G_pg G)) sec (G_ph G) side base (2, p, d, st)) (hX : XC (Ps (G_pg G)) side r p st) (hk : 61 ≤ k + 1 + base) (hRX : (RX.length : Int) ≤ 122 * G_sd G) (hA : CA Ps szs ths rc nP sec sig G s c room v side base u r N st xs RX) (hi : 0 ≤ i) (hb : i + gp G + potF 2 st ≤ 900000)
    (hGO : GO o Ps szs ths rc nP sec sig s c room v side base u r N RX (i + gp G + potF 2 st) Q (k + 1) res) : QW (fun n => g_68 o n 1 s 35 p i) Q := by
  have hW := hg.2.2.2.2.1 _ hg.2.2.2.2.2.1 hg.2.2.2.2.2.2.1
  have hn5 := hW.2.1
  have hbg : 0 ≤ G_bg G ∧ G_bg G ≤ 500 := ⟨hg.2.2.2.2.2.2.2.2.1, hg.2.2.2.2.2.2.2.2.2.1⟩
  have hsd := hg.2.2.2.2.2.2.2.2.2.2
  obtain ⟨p0, p1, hS, hC, hI⟩ := hV.ok2
  obtain ⟨f', hf', h14, hV', hX', hr'⟩ := run_skip hg 500 (f + 1) p (by omega) hV hX hres
  have hph := hV.2.2
  have hb60 : (base : Int) + st.length ≤ 60 := hV.2.1
  have hlx := (chV_ge _ _ hA.2.2.2.2.2.1).2
  have hl : ((xs ++ RX).length : Int) ≤ 6300 := by
    simp only [List.length_append]
    push_cast
    omega
  have hD := fun hh => d_69 (Q := BP Ps szs ths rc nP sec sig s c room v side base u r N RX G (beginA Ps sig sec base G (skR (Ps (G_pg G)) 500 p) d st)) ho hA hg p0 p1 hS hh
  generalize hq : skR (Ps (G_pg G)) 500 p = p' at *
  obtain ⟨p0', p1', hS', hC', hI'⟩ := hV'.ok2
  have hO := hX'.ort hW hC' p0' p1'
  cases f' with
  | zero => simp only [runA] at hr'; cases hr'
  | succ g =>
    have hgp : 0 ≤ gp G := by
      unfold gp
      have := hph.1
      have := hph.2.1
      omega
    have hpf : 0 ≤ potF 2 st := by unfold potF; rw [if_pos rfl]; omega
    refine go_beg hA.1 ⟨hi, by omega⟩ ⟨p0, by omega⟩ (hD (d_69b (d := d) ho hA hg p0' p1' hS' h14 hb60 hO hl)) (fun q hqq => ?_)
    simp only [runA, if_true] at hr'
    cases hbA : beginA Ps sig sec base G p' d st with
    | inr x =>
      rw [hbA] at hqq hr'
      cases hr'
      exact go_flt hqq ⟨by omega, by omega⟩ (hGO _ hqq)
    | inl x =>
      obtain ⟨G', cm, cp, cd, cst⟩ := x
      rw [hbA] at hqq hr'
      dsimp only at hr'
      obtain ⟨i1, i2, i3, i4, i5, i6, i7⟩ := begin_inv hg rfl hV' hbA
      obtain ⟨bc, bb⟩ := beg_cases rfl hW p0' p1' hS' (fun _ _ _ => trivial) hbA
      have hbg' := bb h14
      have hX1 := hX'.mv bc
      have hlen : (cst.length : Int) ≤ st.length + 1 := by
        rcases bc with ⟨e, _⟩ | ⟨a, e⟩
        · have e : cst = st := e
          rw [e]; omega
        · have e : cst = (p', a) :: st := e
          rw [e]; simp
      have egp : gp G' = gp G - 20 := by unfold gp; rw [hbg', i3]; omega
      have epf : potF 2 st = 3 * st.length + 1 := by unfold potF; rw [if_pos rfl]
      have esd : G_sd G ≤ G_sd G' := by
        rcases i7 with ⟨_, z, _⟩ | ⟨_, z⟩ <;> omega
      obtain ⟨v', c', room', xs', e1, e2, e3⟩ := hqq
      have hg' : g ≤ f := by omega
      rcases e3 with ⟨m', q2, ca⟩ | ⟨m', q2, ca⟩ | ⟨m', q2, nl, y, cl⟩ | ⟨m', q2, yl, yr, nl, cs⟩
      · subst m'
        rw [if_neg (by decide)] at hr'
        have ep2 : potF 2 cst = 3 * cst.length + 1 := by unfold potF; rw [if_pos rfl]
        have := (IH g hg').1 k base side r u N G' 2 cp cd cst q.1 c' room' v' xs' RX (i + 1) res Q hr' (Or.inl rfl) i1 (by rw [i2, i3]; exact i5) (by rw [i2]; exact hX1) hk (by omega) ca (by omega) (by omega) (hGO.mv e2 e1 (by omega))
        rw [if_pos rfl] at this
        rw [q2]
        exact this
      · subst m'
        rw [if_neg (by decide)] at hr'
        have ep2 : potF 3 cst = 3 * cst.length + 4 := by unfold potF; rw [if_neg (by decide)]
        have := (IH g hg').1 k base side r u N G' 3 cp cd cst q.1 c' room' v' xs' RX (i + 1) res Q hr' (Or.inr rfl) i1 (by rw [i2, i3]; exact i5) (by rw [i2]; exact hX1) hk (by omega) ca (by omega) (by omega) (hGO.mv e2 e1 (by omega))
        rw [if_neg (by decide)] at this
        rw [q2]
        exact this
      · subst m'
        rw [if_neg (by decide)] at hr'
        have hst := beg_stand hbA rfl
        cases g with
        | zero => simp only [runA] at hr'; cases hr'
        | succ g =>
          simp only [runA] at hr'
          rw [if_neg (by decide), if_neg (by decide), if_pos trivial, hst, if_neg (show ¬ (G', false).2 = true from Bool.false_ne_true)] at hr'
          dsimp only at hr'
          cases hr'
          rw [q2]
          refine hGO.2.2 (by show ¬ (1 : Int) = 0; decide) q.1 c' room' v' (i + 1) (y, xs', none) e1 e2 ?_ nl (by omega) (by omega)
          obtain ⟨b1, b2, b3, b4, b5, b6, b7, b8, b9, b10⟩ := cl
          refine ⟨b1, b2, b3, b4, b5, ⟨b6, Or.inr ⟨b10, b9⟩⟩, ?_, b8⟩
          have hy0 := b10.1
          refine b7.perm (l_perm (fun a => ?_))
          simp only [flC]
          rw [if_neg (by omega)]
          simp only [List.count_append, List.count_cons, List.count_nil]
          omega
      · subst m'
        rw [if_pos rfl] at hr'
        obtain ⟨w18, cpp⟩ : P_w (Ps (G_pg G)) p' = 18 ∧ cp = p' := by
          rcases i7 with ⟨_, _, a, b⟩ | ⟨a, _⟩
          · exact ⟨a, b⟩
          · exact absurd rfl a
        subst cpp
        have hb60' : (base : Int) + cst.length ≤ 60 := i5.2.1
        have hcst : (1 : Int) ≤ cst.length := by
          obtain ⟨b1, b2, b3, b4, b5, b6, b7, b8, b9, b10, b11⟩ := cs
          have hc6 := (chV_ge _ _ b6).2
          cases xs' with
          | nil => exact absurd rfl b9
          | cons x ys => simp at hc6; omega
        obtain ⟨k', rfl⟩ : ∃ k', k = k' + 1 := ⟨k - 1, by omega⟩
        obtain ⟨n1, n2, n3⟩ := side_new (k := k') hW i5 hX1
        have esd1 : G_sd G' = G_sd G + 1 := by
          rcases i7 with ⟨_, z, _⟩ | ⟨a, z⟩
          · exact z
          · exact absurd rfl a
        have eside : sidesB (k' + 2) (4, cp, cd, cst, some (subB (k' + 1) (P_1 (Ps (G_pg G)) cp), subB (k' + 1) (P_2 (Ps (G_pg G)) cp))) = 1 := rfl
        have epot : potB (k' + 2) (4, cp, cd, cst, some (subB (k' + 1) (P_1 (Ps (G_pg G)) cp), subB (k' + 1) (P_2 (Ps (G_pg G)) cp))) = 3 * cst.length + 4 + (3 * 0 + 2) + (3 * 0 + 2) := rfl
        rw [q2]
        refine (IH g hg').2 (k' + 2) base side r u N G' _ (-1, xs', some ((yl, [], none), (yr, [], none))) q.1 c' room' v' RX (i + 1) res Q hr' i1 (by rw [i2, i3]; exact n1) (by rw [i2]; exact n2) n3 (by show ¬ (4 : Int) = 0; decide) (by omega) (by rw [eside]; omega) (by rw [eside]; omega) ?_ ?_ (by omega) (by rw [epot]; omega) (hGO.mv e2 e1 (by rw [epot]; omega))
        · obtain ⟨b1, b2, b3, b4, b5, b6, b7, b8, b9, b10, b11⟩ := cs
          rw [i2] at b6 b10 b11
          refine ⟨b1, b2, b3, b4, b5, by rw [i2]; exact ⟨b6, rfl, rfl, b9, ⟨trivial, Or.inr ⟨b10, fun z => absurd rfl z⟩⟩, ⟨trivial, Or.inr ⟨b11, fun z => absurd rfl z⟩⟩⟩, ?_, b8⟩
          have hy0 := b10.1
          have hy1 := b11.1
          refine b7.perm (l_perm (fun a => ?_))
          simp only [flC]
          rw [if_pos trivial, if_neg (show ¬ yl = -1 by omega), if_neg (show ¬ yr = -1 by omega)]
          simp only [List.count_append, List.count_cons, List.count_nil]
          omega
        · rw [nl]
          show yl = if (2 : Int) = 0 then yr else yl
          rw [if_neg (by decide)]
end CGA
