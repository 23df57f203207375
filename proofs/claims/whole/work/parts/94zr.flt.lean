/-! FAULTS: their kinds and places are small -/
def FX (x : Int × Int) : Prop := q_in x.1 ∧ (0 ≤ x.2 ∧ x.2 < 500)
theorem FX.mk {k p n : Int} (h0 : 0 ≤ p) (h1 : p < n) (h5 : n ≤ 500) (hk : k = 1 ∨ k = 2 ∨ k = 3 ∨ k = 4) : FX (k, p) := ⟨by unfold q_in; show _ ≤ k ∧ k < _; omega, h0, by show p < 500; omega⟩
theorem ev_flt {P : PT} {sz : Int → Int} {sig val : Int → Int64} (hW : WP P sz) : ∀ (f : Nat) (p : Int) (x : Int × Int), 0 ≤ p → p < P_n P → isE (P_w P p) → ev P sig val f p = .inr x → FX x := by
  have n5 := hW.2.1
  intro f
  induction f with
  | zero => intro p x _ _ _ h; cases h
  | succ f ih =>
    intro p x p0 p1 he h
    simp only [ev] at h
    rcases WK_E (hW.2.2.2.2.2.1 p p0 p1).2.2 he with ⟨a1, a2, a3, a4⟩ | ⟨a1, a2, a3, a4⟩ | ⟨a1, a2, a3, a4, a5, a6⟩
    · by_cases c1 : P_w P p = 100
      · rw [if_pos c1] at h; cases h
      · rw [if_neg c1] at h
        by_cases c2 : P_w P p = 101
        · rw [if_pos c2] at h; cases h
        · rw [if_neg c2, if_pos (by omega)] at h; cases h
    · rw [if_neg (by omega), if_neg (by omega), if_neg (by omega), a2.1] at h
      cases h1 : ev P sig val f (p + 1) with
      | inr y => rw [h1] at h; cases h; exact ih (p + 1) _ (by omega) a2.2.2 a3 h1
      | inl v =>
        rw [h1] at h
        dsimp only at h
        rw [if_pos a1] at h
        by_cases c : v < 0 ∨ 9 < v
        · rw [if_pos c] at h; cases h; exact FX.mk p0 p1 n5 (by decide)
        · rw [if_neg c] at h; cases h
    · have s1 := (hW.2.2.2.2.2.1 (p + 1) (by omega) a3.1.2.2).1
      rw [if_neg (by omega), if_neg (by omega), if_neg (by omega), a3.1.1] at h
      cases h1 : ev P sig val f (p + 1) with
      | inr y => rw [h1] at h; cases h; exact ih (p + 1) _ (by omega) a3.1.2.2 a4 h1
      | inl v =>
        rw [h1] at h
        dsimp only at h
        rw [if_neg (by omega), a3.2.1] at h
        cases h2 : ev P sig val f (p + 1 + sz (p + 1)) with
        | inr y => rw [h2] at h; cases h; exact ih _ _ (by omega) a3.2.2.2 a5 h2
        | inl u =>
          rw [h2] at h
          dsimp only at h
          unfold opA at h
          by_cases d0 : P_w P p = 0
          · rw [if_pos d0] at h; cases h
          rw [if_neg d0] at h
          by_cases d1 : P_w P p = 1
          · rw [if_pos d1] at h; cases h
          rw [if_neg d1] at h
          by_cases d2 : P_w P p = 2
          · rw [if_pos d2] at h; cases h
          rw [if_neg d2] at h
          by_cases d3 : P_w P p = 3
          · rw [if_pos d3] at h
            by_cases e : u = 0
            · rw [if_pos e] at h; cases h; exact FX.mk p0 p1 n5 (by decide)
            · rw [if_neg e] at h; cases h
          rw [if_neg d3] at h
          by_cases d4 : P_w P p = 4
          · rw [if_pos d4] at h; cases h
          · rw [if_neg d4] at h; cases h
/-- what a statement reckons -/
theorem WK_e1 {P : PT} {sz : Int → Int} (hW : WP P sz) {p : Int} (p0 : 0 ≤ p) (p1 : p < P_n P) (h : P_w P p = 10 ∨ P_w P p = 11 ∨ P_w P p = 12 ∨ P_w P p = 13 ∨ P_w P p = 15 ∨ P_w P p = 16 ∨ P_w P p = 17) : P_1 P p = p + 1 ∧ p + 1 < P_n P ∧ isE (P_w P (p + 1)) ∧ (P_w P p = 13 → P_2 P p = p + 1 + sz (p + 1) ∧ 0 ≤ p + 1 + sz (p + 1) ∧ p + 1 + sz (p + 1) < P_n P ∧ isE (P_w P (p + 1 + sz (p + 1)))) := by
  have wk := (hW.2.2.2.2.2.1 p p0 p1).2.2
  have sz1 : ∀ q, 0 ≤ q → q < P_n P → 1 ≤ sz q := fun q q0 q1 => (hW.2.2.2.2.2.1 q q0 q1).1
  unfold WK at wk
  rcases wk with w | w | w | w | w | w | w | w | w | w | w | w | w | w | w | w
  · have := w.1; omega
  · have := w.1; omega
  · have := w.1; have := w.2.1; omega
  · exact ⟨w.2.1.1, w.2.1.2.2, w.2.2.1, fun z => by have := w.1; omega⟩
  · exact ⟨w.2.1.1, w.2.1.2.2, w.2.2.1, fun z => by have := w.1; omega⟩
  · exact ⟨w.2.1.1, w.2.1.2.2, w.2.2.1, fun z => by have := w.1; omega⟩
  · exact ⟨w.2.1.1.1, w.2.1.1.2.2, w.2.2.1, fun _ => ⟨w.2.1.2.1, by have := sz1 (p + 1) (by omega) w.2.1.1.2.2; omega, w.2.1.2.2.2, w.2.2.2.1⟩⟩
  · have := w.1; omega
  · exact ⟨w.2.1.1.1, w.2.1.1.2.2, w.2.2.1, fun z => by have := w.1; omega⟩
  · exact ⟨w.2.1.1.1.1, w.2.1.1.1.2.2, w.2.2.1, fun z => by have := w.1; omega⟩
  · exact ⟨w.2.1.1.1.1, w.2.1.1.1.2.2, w.2.2.1, fun z => by have := w.1; omega⟩
  · exact ⟨w.2.1.1.1, w.2.1.1.2.2, w.2.2.1, fun z => by have := w.1; omega⟩
  · have := w.1; omega
  · have := w.1; omega
  · have := w.1; omega
  · have := w.1; omega
section FLTS
variable {Ps : Int → PT} {szs : Int → Int → Int} {nP sec : Int} {sig : Int → Int64}
theorem push_flt {base p n : Int} {st : List FR} {k : (GT × CT) ⊕ (Int × Int)} {x : Int × Int} (h : pushA base p st k = .inr x) (h0 : 0 ≤ p) (h1 : p < n) (h5 : n ≤ 500) (hk : k = .inr x → FX x) : FX x := by
  unfold pushA at h
  by_cases c : base + st.length = 60
  · rw [if_pos c] at h; cases h; exact FX.mk h0 h1 h5 (by decide)
  · rw [if_neg c] at h; exact hk h
theorem beg_flt {G : GT} {base p : Int} {d : DT} {st : List FR} {x : Int × Int} (hW : WP (Ps (G_pg G)) (szs (G_pg G))) (p0 : 0 ≤ p) (p1 : p < P_n (Ps (G_pg G))) (h : beginA Ps sig sec base G p d st = .inr x) : FX x := by
  have n5 := hW.2.1
  have me : FX (4, p) := FX.mk p0 p1 n5 (by decide)
  have E1 : ∀ {y : Int × Int}, (P_w (Ps (G_pg G)) p = 10 ∨ P_w (Ps (G_pg G)) p = 11 ∨ P_w (Ps (G_pg G)) p = 12 ∨ P_w (Ps (G_pg G)) p = 13 ∨ P_w (Ps (G_pg G)) p = 15 ∨ P_w (Ps (G_pg G)) p = 16 ∨ P_w (Ps (G_pg G)) p = 17) → evG Ps sig G (P_1 (Ps (G_pg G)) p) = .inr y → FX y := fun {y} hw he => by
    obtain ⟨a1, a2, a3, -⟩ := WK_e1 hW p0 p1 hw
    rw [a1] at he
    exact ev_flt hW 500 (p + 1) y (by omega) a2 a3 he
  unfold beginA at h
  by_cases c14 : P_w (Ps (G_pg G)) p = 14
  · rw [if_pos c14] at h; cases h
  rw [if_neg c14] at h
  by_cases cb : G_bg G = 500
  · rw [if_pos cb] at h; cases h; exact me
  rw [if_neg cb] at h
  by_cases c10 : P_w (Ps (G_pg G)) p = 10
  · rw [if_pos c10] at h
    cases he : evG Ps sig G (P_1 (Ps (G_pg G)) p) with
    | inr y => rw [he] at h; cases h; exact E1 (by omega) he
    | inl v => rw [he] at h; cases h
  rw [if_neg c10] at h
  by_cases c11 : P_w (Ps (G_pg G)) p = 11
  · rw [if_pos c11] at h
    cases he : evG Ps sig G (P_1 (Ps (G_pg G)) p) with
    | inr y => rw [he] at h; cases h; exact E1 (by omega) he
    | inl v => rw [he] at h; cases h
  rw [if_neg c11] at h
  by_cases c12 : P_w (Ps (G_pg G)) p = 12
  · rw [if_pos c12] at h
    cases he : evG Ps sig G (P_1 (Ps (G_pg G)) p) with
    | inr y => rw [he] at h; cases h; exact E1 (by omega) he
    | inl v => rw [he] at h; cases h
  rw [if_neg c12] at h
  by_cases c13 : P_w (Ps (G_pg G)) p = 13
  · rw [if_pos c13] at h
    cases he : evG Ps sig G (P_1 (Ps (G_pg G)) p) with
    | inr y => rw [he] at h; cases h; exact E1 (by omega) he
    | inl v =>
      rw [he] at h
      dsimp only at h
      cases he2 : evG Ps sig G (P_2 (Ps (G_pg G)) p) with
      | inr y =>
        rw [he2] at h
        cases h
        obtain ⟨b1, b2, b3, b4⟩ := (WK_e1 hW p0 p1 (by omega)).2.2.2 c13
        rw [b1] at he2
        exact ev_flt hW 500 _ _ b2 b3 b4 he2
      | inl u => rw [he2] at h; cases h
  rw [if_neg c13] at h
  by_cases c15 : P_w (Ps (G_pg G)) p = 15
  · rw [if_pos c15] at h
    cases he : evG Ps sig G (P_1 (Ps (G_pg G)) p) with
    | inr y => rw [he] at h; cases h; exact E1 (by omega) he
    | inl v => rw [he] at h; cases h
  rw [if_neg c15] at h
  by_cases c16 : P_w (Ps (G_pg G)) p = 16
  · rw [if_pos c16] at h
    cases he : evG Ps sig G (P_1 (Ps (G_pg G)) p) with
    | inr y => rw [he] at h; cases h; exact E1 (by omega) he
    | inl v =>
      rw [he] at h
      dsimp only at h
      by_cases e : v = 0
      · rw [if_pos e] at h; cases h
      · rw [if_neg e] at h; exact push_flt h p0 p1 n5 (fun z => by cases z)
  rw [if_neg c16] at h
  by_cases c17 : P_w (Ps (G_pg G)) p = 17
  · rw [if_pos c17] at h
    cases he : evG Ps sig G (P_1 (Ps (G_pg G)) p) with
    | inr y => rw [he] at h; cases h; exact E1 (by omega) he
    | inl v =>
      rw [he] at h
      dsimp only at h
      by_cases e : v < 1
      · rw [if_pos e] at h; cases h
      · rw [if_neg e] at h; exact push_flt h p0 p1 n5 (fun z => by cases z)
  rw [if_neg c17] at h
  by_cases c18 : P_w (Ps (G_pg G)) p = 18
  · rw [if_pos c18] at h
    refine push_flt h p0 p1 n5 (fun z => ?_)
    by_cases e : 1 + 2 * (G_sd G + 1) > 100
    · rw [if_pos e] at z; cases z; exact me
    · rw [if_neg e] at z; cases z
  rw [if_neg c18] at h
  by_cases c19 : P_w (Ps (G_pg G)) p = 19
  · rw [if_pos c19] at h
    by_cases e : G_n G (P_v (Ps (G_pg G)) p).toInt = -1
    · rw [if_pos e] at h; cases h; exact FX.mk p0 p1 n5 (by decide)
    · rw [if_neg e] at h; exact push_flt h p0 p1 n5 (fun z => by cases z)
  rw [if_neg c19] at h
  by_cases c20 : P_w (Ps (G_pg G)) p = 20
  · rw [if_pos c20] at h; cases h
  · rw [if_neg c20] at h; cases h
theorem lim_flt {P : PT} {sz : Int → Int} {val : Int → Int64} (hW : WP P sz) {x : Int × Int} : ∀ (rev acc : List FR), (∀ y ∈ rev, P_w P y.1 = 16 → 0 ≤ y.1 ∧ y.1 < P_n P) → limA sig P val rev acc = .inr x → FX x
  | [], acc, _, h => by cases h
  | (p, a) :: t, acc, hm, h => by
    simp only [limA] at h
    have ht : ∀ y ∈ t, P_w P y.1 = 16 → 0 ≤ y.1 ∧ y.1 < P_n P := fun y hy => hm y (List.mem_cons_of_mem _ hy)
    by_cases c : P_w P p = 16
    · rw [if_pos c] at h
      have hp : 0 ≤ p ∧ p < P_n P := hm (p, a) List.mem_cons_self c
      obtain ⟨p0, p1⟩ := hp
      cases he : ev P sig val 500 (P_1 P p) with
      | inr y =>
        rw [he] at h
        cases h
        obtain ⟨a1, a2, a3, -⟩ := WK_e1 hW p0 p1 (by omega)
        rw [a1] at he
        exact ev_flt hW 500 (p + 1) _ (by omega) a2 a3 he
      | inl v =>
        rw [he] at h
        dsimp only at h
        by_cases e : v = 0
        · rw [if_pos e] at h; cases h
        · rw [if_neg e] at h; exact lim_flt hW t _ ht h
    · rw [if_neg c] at h; exact lim_flt hW t _ ht h
theorem look_flt {G : GT} (hg : GW Ps szs nP sec G) {x : Int × Int} : ∀ (k : Nat) (side : Option Int) (base : Int) (t : BT k), VT (Ps (G_pg G)) (szs (G_pg G)) sec (G_ph G) k side base t → lookA Ps sig G k t = .inr x → FX x := by
  have hW := hg.2.2.2.2.1 _ hg.2.2.2.2.2.1 hg.2.2.2.2.2.2.1
  intro k
  induction k with
  | zero => intro side base t h; exact h.elim
  | succ k ih =>
    intro side base t hv h
    obtain ⟨m, p, d, st, sub⟩ := t
    obtain ⟨hV, hsub⟩ := hv
    simp only [lookA] at h
    cases hl : limA sig (Ps (G_pg G)) (G_v G) st.reverse [] with
    | inr y =>
      rw [hl] at h
      cases h
      refine lim_flt hW _ _ (fun y hy w => ?_) hl
      have hy := List.mem_reverse.mp hy
      obtain ⟨st1, acc, e⟩ := List.append_of_mem hy
      obtain ⟨q, a⟩ := y
      rw [e] at hV
      obtain ⟨q0, q1, -⟩ := hV.frame hW w
      exact ⟨q0, q1⟩
    | inl z =>
      rw [hl] at h
      cases z with
      | some y => cases h
      | none =>
        dsimp only at h
        by_cases m4 : m = 4
        · rw [if_pos m4] at h
          cases sub with
          | none => cases h
          | some lr =>
            obtain ⟨l, r⟩ := lr
            obtain ⟨_, v1, v2⟩ := hsub
            dsimp only at h
            cases h1 : lookA Ps sig G k l with
            | inr y => rw [h1] at h; cases h; exact ih _ _ _ v1 h1
            | inl y =>
              obtain ⟨l1, n1⟩ := y
              rw [h1] at h
              dsimp only at h
              cases h2 : lookA Ps sig G k r with
              | inr y => rw [h2] at h; cases h; exact ih _ _ _ v2 h2
              | inl y => rw [h2] at h; cases h
        · rw [if_neg m4] at h; cases h
theorem run_flt : ∀ (f : Nat) (k : Nat) (base : Int) (side : Option Int) (G : GT) (t : BT k) (G' : GT) (x : Int × Int), runA Ps sig sec f k base G t = some (.inr (G', x)) → GW Ps szs nP sec G → VT (Ps (G_pg G)) (szs (G_pg G)) sec (G_ph G) k side base t → 61 ≤ k + base → sidesB k t ≤ G_sd G → FX x := by
  intro f
  induction f with
  | zero => intro k base side G t G' t' h; simp only [runA] at h; cases h
  | succ f ih =>
    intro k base side G t G' t' h hg hv hk hsd
    cases k with
    | zero => exact hv.elim
    | succ k =>
      obtain ⟨m, p, d, st, sub⟩ := t
      have hv' := hv
      obtain ⟨hV, hsub⟩ := hv'
      have hW := hg.2.2.2.2.1 _ hg.2.2.2.2.2.1 hg.2.2.2.2.2.2.1
      have nosub : ¬ m = 4 → sub = none := by
        intro z
        cases sub with
        | none => rfl
        | some lr => exact absurd hsub.1 z
      simp only [runA] at h
      by_cases m2 : m = 2
      · rw [if_pos m2] at h
        have es := nosub (by omega)
        subst es
        subst m2
        obtain ⟨p0, p1, hS, hC, hI⟩ := hV.ok2
        cases hb : beginA Ps sig sec base G p d st with
        | inr x => rw [hb] at h; cases h; exact beg_flt hW p0 p1 hb
        | inl x =>
          obtain ⟨G1, c⟩ := x
          rw [hb] at h
          dsimp only at h
          obtain ⟨i1, i2, i3, i4, i5, i6, i7⟩ := begin_inv hg rfl hV hb
          rcases i7 with ⟨c4, s1, w18, cp⟩ | ⟨c4, s1⟩
          · rw [if_pos c4] at h
            obtain ⟨cm, cq, cd, cst⟩ := c
            have c4' : cm = 4 := c4
            subst c4'
            have cp' : cq = p := cp
            subst cp'
            have hb60 : base + (cst.length : Int) ≤ 60 := i5.2.1
            have hcl : 1 ≤ cst.length := by
              rcases i5.2.2.2.2 with z | z | z
              · exact absurd z.1 (by simp)
              · exact absurd z.1 (by simp)
              · obtain ⟨t', e1, e2, _⟩ := z.2.2.2.2
                have e1 : cst = (cq, 0) :: t' := e1
                rw [e1]; simp
            obtain ⟨k', rfl⟩ : ∃ k', k = k' + 1 := ⟨k - 1, by omega⟩
            have hC2 : C2 (Ps (G_pg G)) (szs (G_pg G)) cq ∧ isS (P_w (Ps (G_pg G)) (cq + 1)) ∧ isS (P_w (Ps (G_pg G)) (cq + 1 + szs (G_pg G) (cq + 1))) := by
              rcases WK_S (hW.2.2.2.2.2.1 cq p0 p1).2.2 hS with k | k | k | k | k | k | k | k
              · omega
              · omega
              · omega
              · omega
              · omega
              · exact ⟨k.2.1, k.2.2.1, k.2.2.2⟩
              · omega
              · omega
            obtain ⟨hc2, hS1, hS2⟩ := hC2
            have z1 := (hW.2.2.2.2.2.1 (cq + 1) (by omega) hc2.1.2.2).1
            have hne : ¬ cq = -1 := by omega
            have v1 : VT (Ps (G_pg G)) (szs (G_pg G)) sec (G_ph G) (k' + 1) (some cq) (base + (cst.length : Int)) (subB (k' + 1) (P_1 (Ps (G_pg G)) cq)) := by
              rw [hc2.1.1]
              exact subB_VT (by have := hV.1; omega) hb60 hV.2.2.1 hV.2.2.2.1 (by omega) hc2.1.2.2 hS1 (CNS.sid hc2.1.2.1 hne w18)
            have v2 : VT (Ps (G_pg G)) (szs (G_pg G)) sec (G_ph G) (k' + 1) (some cq) (base + (cst.length : Int)) (subB (k' + 1) (P_2 (Ps (G_pg G)) cq)) := by
              rw [hc2.2.1]
              exact subB_VT (by have := hV.1; omega) hb60 hV.2.2.1 hV.2.2.2.1 (by omega) hc2.2.2.2 hS2 (CNS.sid hc2.2.2.1 hne w18)
            refine ih _ _ side _ _ _ _ h i1 (by rw [i2, i3]; exact ⟨i5, rfl, v1, v2⟩) hk ?_
            · simp only [sidesB, subB, newB]
              have : 0 ≤ G_sd G := hg.2.2.2.2.2.2.2.2.2.2.1
              omega
          · rw [if_neg c4] at h
            exact ih _ _ side _ _ _ _ h i1 (by rw [i2, i3]; exact ⟨i5, c4⟩) hk (by simp only [sidesB]; have := i1.2.2.2.2.2.2.2.2.2.2.1; omega)
      rw [if_neg m2] at h
      by_cases m3 : m = 3
      · rw [if_pos m3] at h
        have es := nosub (by omega)
        subst es
        subst m3
        obtain ⟨p0, p1, hS, hC, hI⟩ := hV.ok3
        obtain ⟨i1, i2, i3, i4, i5, i6, i7, i8⟩ := behind_inv hg rfl hV
        exact ih _ _ side _ _ _ _ h i1 ⟨i2, by show ¬ (behindA Ps G p d st).2.1 = 4; omega⟩ hk (by simp only [sidesB]; have := i1.2.2.2.2.2.2.2.2.2.2.1; omega)
      rw [if_neg m3] at h
      by_cases m1 : m = 1
      · rw [if_pos m1] at h
        have es := nosub (by omega)
        subst es
        subst m1
        have e1 : G_pg (standA Ps sec G p d).1 = G_pg G := by unfold standA; split <;> rfl
        have e2 : G_ph (standA Ps sec G p d).1 = G_ph G := by unfold standA; split <;> rfl
        have hgs : GW Ps szs nP sec (standA Ps sec G p d).1 := by
          unfold standA
          split
          · exact hg
          · exact hg
        by_cases c : (standA Ps sec G p d).2 = true
        · rw [if_pos c] at h
          obtain ⟨b0, b1, p0', p1', hmd⟩ := hV
          have hV3 : VC (Ps (G_pg G)) (szs (G_pg G)) sec (G_ph G) side base (3, p, d, st) := by
            rcases hmd with z | z | z
            · exact absurd z.1 (by simp)
            · refine VC.of3 b0 b1 p0' p1' z.2.1 z.2.2.1 z.2.2.2.1 z.2.2.2.2.1 (fun y => ?_)
              have y2 := z.2.2.2.2.2.1 y
              rcases y2 with ⟨y3, _⟩ | y3
              · exact absurd y3 (by simp)
              · exact Or.inr y3
            · exact absurd z.1 (by simp)
          exact ih _ _ side _ _ _ _ h hgs (by rw [e1, e2]; exact ⟨hV3, by simp⟩) hk (by simp only [sidesB]; exact hgs.2.2.2.2.2.2.2.2.2.2.1)
        · rw [if_neg c] at h
          cases h
      rw [if_neg m1] at h
      by_cases m4 : m = 4
      · rw [if_pos m4] at h
        subst m4
        cases sub with
        | none => exact absurd rfl hsub
        | some lr =>
          obtain ⟨l, r⟩ := lr
          obtain ⟨_, v1, v2⟩ := hsub
          obtain ⟨w18, h0, h1, t1, et, hct, hphi⟩ : P_w (Ps (G_pg G)) p = 18 ∧ 0 ≤ p ∧ p < P_n (Ps (G_pg G)) ∧ ∃ t', st = (p, 0) :: t' ∧ CNS (Ps (G_pg G)) side p t' ∧ (side = none → PHI (Ps (G_pg G)) (szs (G_pg G)) (G_ph G) (4, p, d, st)) := by
            rcases hV.2.2.2.2 with z | z | z
            · exact absurd z.1 (by simp)
            · exact absurd z.1 (by simp)
            · obtain ⟨_, z1, z2, z3, t', z4, z5, z6⟩ := z
              exact ⟨z3, z1, z2, t', z4, z5, z6⟩
          subst et
          have hb60 : base + ((((p, (0 : Int64)) :: t1).length : Nat) : Int) ≤ 60 := hV.2.1
          have hlen : ((((p, (0 : Int64)) :: t1).length : Nat) : Int) = t1.length + 1 := by simp
          have hsl := sides0 k l
          have hsr := sides0 k r
          have hsd' : 1 + sidesB k l + sidesB k r ≤ G_sd G := by simpa only [sidesB] using hsd
          dsimp only at h
          cases hl : runA Ps sig sec f k (base + (((p, (0 : Int64)) :: t1).length : Int)) G l with
          | none => rw [hl] at h; cases h
          | some rl =>
            rw [hl] at h
            cases rl with
            | inr x => obtain ⟨G1, x⟩ := x; cases h; exact ih _ _ _ _ _ _ _ hl hg v1 (by omega) (by omega)
            | inl x =>
              obtain ⟨G1, l1⟩ := x
              dsimp only at h
              obtain ⟨a1, a2, a3, a4, a5, a6, a7⟩ := run_inv hl hg v1 (by omega) (by omega)
              obtain ⟨c1, c2, c3⟩ := a6 p rfl
              have hsl1 := sides0 k l1
              cases hr : runA Ps sig sec f k (base + (((p, (0 : Int64)) :: t1).length : Int)) G1 r with
              | none => rw [hr] at h; cases h
              | some rr =>
                rw [hr] at h
                have v2' : VT (Ps (G_pg G1)) (szs (G_pg G1)) sec (G_ph G1) k (some p) (base + (((p, (0 : Int64)) :: t1).length : Int)) r := by rw [c1, c2]; exact v2
                cases rr with
                | inr x => obtain ⟨G2, x⟩ := x; cases h; exact ih _ _ _ _ _ _ _ hr a1 v2' (by omega) (by omega)
                | inl x =>
                  obtain ⟨G2, r1⟩ := x
                  dsimp only at h
                  obtain ⟨d1, d2, d3, d4, d5, d6, d7⟩ := run_inv hr a1 v2' (by omega) (by omega)
                  obtain ⟨e1, e2, e3⟩ := d6 p rfl
                  by_cases hov : modeB k l1 = 0 ∧ modeB k r1 = 0
                  · rw [if_pos hov] at h
                    have s1 := a2.sub0 hov.1
                    have s2 := d2.sub0 hov.2
                    have hg2 : GW Ps szs nP sec (G_side G2 (-1)) := by
                      obtain ⟨w1, w2, w3, w4, w5, w6, w7, w8, w9, w10, w11, w12, w13⟩ := d1
                      exact ⟨w1, w2, w3, w4, w5, w6, w7, w8, w9, w10, (by show 0 ≤ G_sd G2 + -1; omega), (by show G_sd G2 + -1 ≤ 49; omega), w13⟩
                    have hV3 : VC (Ps (G_pg G)) (szs (G_pg G)) sec (G_ph G) side base (3, p, d, t1) := by
                      refine VC.of3 hV.1 (by omega) hV.2.2.1 hV.2.2.2.1 h0 h1 (by unfold isS; omega) hct (fun y => ?_)
                      rcases hphi y with ⟨y3, _⟩ | ⟨y4, y5, y6, y7, y8, y9⟩
                      · exact absurd y3 (by simp)
                      · exact Or.inr ⟨y4, y5, y6, y7, y8, y9⟩
                    exact ih _ _ side _ _ _ _ h hg2 (by show VT (Ps (G_pg G2)) (szs (G_pg G2)) sec (G_ph G2) (k + 1) side base _; rw [e1, e2, c1, c2]; exact ⟨hV3, by simp⟩) hk (by simp only [sidesB]; show 0 ≤ G_sd G2 + -1; omega)
                  · rw [if_neg hov] at h
                    cases h
      · rw [if_neg m4] at h
        cases h
/-- a second's fault -/
theorem sec_flt {K F : Nat} {G : GT} {t : BT K} (hK : 61 ≤ K) (hg : GW Ps szs nP sec G) (hv : VT (Ps (G_pg G)) (szs (G_pg G)) sec (G_ph G) K none 0 t) (hsd : sidesB K t = G_sd G) : ((secA Ps sig F sec G t).1 = 0 ∨ (secA Ps sig F sec G t).1 = 1) ∧ (secA Ps sig F sec G t).2.2.2 = none ∨ (secA Ps sig F sec G t).1 = 2 ∧ ∃ x, (secA Ps sig F sec G t).2.2.2 = some x ∧ FX x := by
  unfold secA
  cases hx : lookA Ps sig (G_bg0 G) K t with
  | inr x => exact Or.inr ⟨rfl, x, rfl, look_flt hg.bg0 K _ _ _ hv hx⟩
  | inl y =>
    obtain ⟨t1, n⟩ := y
    dsimp only
    obtain ⟨i1, i2, i3⟩ := look_inv hg.bg0 K _ _ _ _ _ hv hx
    have hs0 := sides0 K t1
    have hgl : GW Ps szs nP sec (G_side (G_bg0 G) (-n)) := hg.bg0.side (by show 0 ≤ G_sd G + -n; omega) (by omega)
    cases hr : runA Ps sig sec F K 0 (G_side (G_bg0 G) (-n)) t1 with
    | none => exact Or.inl ⟨Or.inr rfl, rfl⟩
    | some z =>
      cases z with
      | inr z =>
        obtain ⟨G2, x⟩ := z
        exact Or.inr ⟨rfl, x, rfl, run_flt F K 0 none _ _ _ _ hr hgl i1 (by omega) (by show sidesB K t1 ≤ G_sd G + -n; omega)⟩
      | inl z =>
        obtain ⟨G2, t2⟩ := z
        refine Or.inl ⟨?_, rfl⟩
        show (if modeB K t2 = 0 then (0 : Int) else 1) = 0 ∨ (if modeB K t2 = 0 then (0 : Int) else 1) = 1
        split <;> simp
/-- the alarm of a tick -/
theorem tick_al {o : X_O} {K F : Nat} (hK : 61 ≤ K) (hF : (600000000 : Int) ≤ F) : ∀ (n : Nat) (st sec : Int) (G : GT) (t : BT K) (al : Int × Int × Int) (s : Q_S), sec + n ≤ 100000000 → MR Ps szs nP sig s st sec G t al → ALq st al → ALq (tickA Ps sig F n st sec G t al).1 (tickA Ps sig F n st sec G t al).2.2.2.2 ∧ (tickA Ps sig F n st sec G t al).2.1 ≤ sec + n ∧ 0 ≤ (tickA Ps sig F n st sec G t al).1 ∧ (tickA Ps sig F n st sec G t al).1 ≤ 2 := by
  intro n
  induction n with
  | zero =>
    intro st sec G t al s _ h ha
    have := h.2.2.1
    exact ⟨ha, by show sec ≤ _; simp, by show 0 ≤ st; omega, by show st ≤ 2; omega⟩
  | succ n ih =>
    intro st sec G t al s hs h ha
    push_cast at hs
    simp only [tickA]
    by_cases z : st = 1
    · subst z
      rw [if_pos rfl]
      obtain ⟨N, a, hq, -⟩ := r_second (o := o) hK hF h (by omega)
      obtain ⟨-, -, -, -, hg, h1, -⟩ := h
      obtain ⟨-, hv, hsd⟩ := h1 rfl
      have hf := sec_flt (F := F) (sig := sig) hK hg hv hsd
      have r := ih _ _ _ _ _ _ (by omega) hq.1 (by
        rcases hf with ⟨f1, f2⟩ | ⟨f1, x, f2, f3⟩
        · exact fun y => by omega
        · intro _
          rw [f2]
          have s0 := hg.2.2.1
          have s1 := hg.2.2.2.1
          exact ⟨by unfold q_in; show -2147483648 ≤ sec ∧ sec < 2147483648; omega, f3.1, by unfold q_in; have := f3.2; show -2147483648 ≤ x.2 ∧ x.2 < 2147483648; omega⟩)
      push_cast
      exact ⟨r.1, by omega, r.2.2⟩
    · rw [if_neg z]
      have := h.2.2.1
      exact ⟨ha, by show sec ≤ _; push_cast; omega, by show 0 ≤ st; omega, by show st ≤ 2; omega⟩
/-- the place of a branch that stands -/
theorem stn_qi {P : PT} {sz : Int → Int} {ph : Int} (hW : WP P sz) : ∀ (k : Nat) (side : Option Int) (base : Int) (t : BT k) (lf : Int), VT P sz sec ph k side base t → q_in (stnA k t lf).2 := by
  have n5 := hW.2.1
  intro k
  induction k with
  | zero => intro side base t lf h; exact h.elim
  | succ k ih =>
    intro side base t lf hv
    obtain ⟨m, p, d, st, sub⟩ := t
    obtain ⟨hV, hsub⟩ := hv
    simp only [stnA]
    by_cases m4 : m = 4
    · rw [if_pos m4]
      cases sub with
      | none => exact (by decide : q_in (-1))
      | some lr =>
        obtain ⟨l, r⟩ := lr
        obtain ⟨_, v1, v2⟩ := hsub
        dsimp only
        split
        · exact ih _ _ _ _ v2
        · exact ih _ _ _ _ v1
    · rw [if_neg m4]
      by_cases m1 : m = 1
      · rw [if_pos m1]
        dsimp only
        split
        · rcases hV.2.2.2.2 with z | z | z
          · have : m = 0 := z.1
            omega
          · have a := z.2.1
            have b := z.2.2.1
            have a : 0 ≤ p := a
            have b : p < P_n P := b
            unfold q_in
            omega
          · have : m = 4 := z.1
            omega
        · decide
      · rw [if_neg m1]
        exact (by decide : q_in (-1))
end FLTS
