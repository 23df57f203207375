/-! THE CLASS'S step -/
def lvs : (k : Nat) → BT k → Int
  | 0, _ => 0
  | k + 1, (m, _, _, _, sub) => match sub with
    | none => if m = 0 then 0 else 1
    | some (l, r) => lvs k l + lvs k r
theorem lvs_le : ∀ (k : Nat) (t : BT k), 0 ≤ lvs k t ∧ lvs k t ≤ 1 + sidesB k t := by
  intro k
  induction k with
  | zero => intro t; simp [lvs, sidesB]
  | succ k ih =>
    intro t
    obtain ⟨m, p, d, st, sub⟩ := t
    cases sub with
    | none => simp only [lvs, sidesB]; split <;> omega
    | some lr =>
      obtain ⟨l, r⟩ := lr
      have := ih l
      have := ih r
      simp only [lvs, sidesB]
      omega
theorem lvs_0 {P : PT} {sz : Int → Int} {sec ph base : Int} {side : Option Int} {k : Nat} {t : BT k} (h : VT P sz sec ph k side base t) (hm : modeB k t = 0) : lvs k t = 0 := by
  cases k with
  | zero => rfl
  | succ k =>
    obtain ⟨m, p, d, st, sub⟩ := t
    have hz : m = 0 := hm
    cases sub with
    | none => exact if_pos hz
    | some lr => have := h.2.1; omega
theorem stn_0 {P : PT} {sz : Int → Int} {sec ph base : Int} {side : Option Int} {k : Nat} {t : BT k} (h : VT P sz sec ph k side base t) (hm : modeB k t = 0) (lf : Int) : stnA k t lf = (lf, -1) := by
  cases k with
  | zero => rfl
  | succ k =>
    obtain ⟨m, p, d, st, sub⟩ := t
    have hm : m = 0 := hm
    simp only [stnA]
    rw [if_neg (by omega), if_neg (by omega)]
section CSTP
variable {o : X_O} {Ps : Int → PT} {szs ths : Int → Int → Int} {rc : Int → Nat} {nP sec : Int} {sig : Int → Int64}
def SLK (o : X_O) (Ps : Int → PT) (szs ths : Int → Int → Int) (rc : Int → Nat) (nP sec : Int) (sig : Int → Int64) (k : Nat) : Prop := ∀ (base : Nat) (side : Option Int) (r : Bool) (u N : Int) (G : GT) (t : BT k) (it : IT k) (s : Q_S) (c room : Nat) (v : CV) (RX : List Int) (lf i : Int) (Q : Q_S × Int → Prop),
  1 ≤ P_n (Ps (G_pg G)) → VT (Ps (G_pg G)) (szs (G_pg G)) sec (G_ph G) k side base t → NB k t → ¬ modeB k t = 0 → CTr Ps szs ths rc nP sec sig G s c room v side base u r N k t it RX → 0 ≤ lf → lf < 2147483648 → 0 ≤ i → i + lvs k t ≤ 100 →
  (¬ (stnA k t lf).2 = -1 → Q (s, (stnA k t lf).2)) → ((stnA k t lf).2 = -1 → QW (fun n => g_58 o n 1 s 24 0 (stnA k t lf).1 (lfb v 61 N) (i + lvs k t) 0 0 0) Q) → QW (fun n => g_58 o n 1 s 24 0 lf (fstL k t it) i 0 0 0) Q
set_option maxHeartbeats 2000000 in
theorem slk_step {k : Nat} (IH : SLK o Ps szs ths rc nP sec sig k) : SLK o Ps szs ths rc nP sec sig (k + 1) := by
  intro base side r u N G t it s c room v RX lf i Q hn hVT hNB hm hCT hlf0 hlf1 hi hb kA kB
  obtain ⟨m, p, d, st, sub⟩ := t
  obtain ⟨b, xs, isub⟩ := it
  obtain ⟨g1, g2, g3, g4, g5, g6, g7, g8⟩ := hCT
  have hVT' := hVT
  obtain ⟨hV, hsub⟩ := hVT'
  have hm : ¬ m = 0 := hm
  have hb60 : (base : Int) + st.length ≤ 60 := hV.2.1
  cases sub with
  | none =>
    cases isub with
    | some _ => exact g6.2.elim
    | none =>
      rcases g6.2 with ⟨a1, _⟩ | ⟨lf', a2⟩
      · exact absurd a1 hm
      · have hb0 := lf'.1
        have hCL : CL Ps szs ths rc nP sec sig G s c room v side base u r N m p d st b xs RX := ⟨g1, g2, g3, g4, g5, g6.1, g7.perm (l_perm (fun a => by
          simp only [flC]
          rw [if_neg (by omega)]
          simp only [List.count_append, List.count_cons, List.count_nil]
          omega)), g8, a2, lf'⟩
        have hrt := hCL.right hb60
        have hyu := hCL.yu
        have hu65 : v_u v ≤ 6500 := by
          obtain ⟨fl, w1, w2, w3, w4, w5⟩ := g7
          exact w5
        have g2' := g2
        obtain ⟨hF0, hFa, w1, w2, w3, w4, w5, w6, w7, w8, w9, w10, w11, w12⟩ := g2'
        have bk := (g3.1 b hyu.1 hyu.2).1
        have elv : lvs (k + 1) (m, p, d, st, none) = 1 := if_neg (show ¬ m = 0 from hm)
        rw [elv] at hb kB
        have e2 : q_I s (c + 2) b = p := (w1 2 b (by decide) (by decide) hyu.1 hyu.2).trans lf'.2.2.1
        have rg := ttr_rg g3 61 b hyu.1 hyu.2
        -- on to the next
        have K4 : ∀ ti1 : Int, QW (fun n => g_58 o n 1 s 24 0 (lf - ti1) (lfb v 61 N) (i + 1) 0 0 0) Q → QW (fun n => g_58 o n 4 s 24 0 0 b i 0 lf ti1) Q := fun ti1 hq => by
          refine QW_s ?_
          simp only [g_58]
          refine QW_p (k_rc hF0) ?_
          refine QW_e (d_56 g2 g3 hyu.1 hyu.2) ?_
          dsimp only
          rw [hrt] at rg ⊢
          refine QW_p (k_rc hF0) ?_
          refine QW_e (d_57 g2 g3 rg.1 rg.2) ?_
          exact hq
        show QW (fun n => g_58 o n 1 s 24 0 lf b i 0 0 0) Q
        refine QW_s ?_
        simp only [g_58]
        refine QW_g (by omega) ?_
        refine QW_if (by omega) ?_
        refine QW_g (by omega) ?_
        refine QW_if (by omega) ?_
        refine QW_p (k_gv hF0 rfl rfl) ?_
        refine QW_p (k_ia (hFa _ _ rfl) hyu.1 (by omega) (by omega)) ?_
        rw [w1 1 b (by decide) (by decide) hyu.1 hyu.2]
        refine QW_g (by omega) ?_
        rcases lf'.2.2.2.2.2.2 with ⟨m2, k40⟩ | ⟨m1, kp, _⟩
        · subst m2
          have est : stnA (k + 1) (2, p, d, st, none) lf = (lf, -1) := by
            simp only [stnA]
            rw [if_neg (by decide), if_neg (by decide)]
          rw [est] at kB
          refine QW_it k40 ?_
          refine QW_s ?_
          simp only [g_58]
          refine QW_g (by decide) ?_
          refine QW_it (by simp) ?_
          refine QW_s ?_
          simp only [g_58]
          refine QW_g (by decide) ?_
          refine QW_it (by simp) ?_
          refine K4 0 ?_
          rw [Int.sub_zero]
          exact kB rfl
        · subst m1
          obtain ⟨pw, p0, p1⟩ : (P_w (Ps (G_pg G)) p = 12 ∨ P_w (Ps (G_pg G)) p = 13) ∧ 0 ≤ p ∧ p < P_n (Ps (G_pg G)) := by
            rcases hV.2.2.2.2 with z | z | z
            · exact absurd z.1 (by simp)
            · exact ⟨(z.2.2.2.2.2.2 rfl).1, z.2.1, z.2.2.1⟩
            · exact absurd z.1 (by simp)
          have est : stnA (k + 1) (1, p, d, st, none) lf = (lf - 1, if lf - 1 < 0 then p else -1) := by
            simp only [stnA]
            rw [if_neg (by decide), if_pos trivial]
          rw [est] at kA kB
          refine QW_if (by rw [kp]; omega) ?_
          refine QW_s ?_
          simp only [g_58]
          refine QW_g (by decide) ?_
          refine QW_if (by decide) ?_
          refine QW_g (by omega) ?_
          refine QW_by (fun z => ?_) (fun z => ?_)
          · have zn : ¬ lf - 1 < 0 := by omega
            simp only [if_neg zn] at kB
            refine QW_s ?_
            simp only [g_58]
            refine QW_g (by decide) ?_
            refine QW_if (by decide) ?_
            exact K4 1 (kB trivial)
          · have z := Decidable.of_not_not z
            have zp : lf - 1 < 0 := by omega
            simp only [if_pos zp] at kA
            refine QW_p (k_gv hF0 rfl rfl) ?_
            refine QW_p (k_ia (hFa _ _ rfl) hyu.1 (by omega) (by omega)) ?_
            rw [e2]
            exact QW_ret (kA (by omega))
  | some lr =>
    obtain ⟨l, rr⟩ := lr
    cases isub with
    | none => exact g6.2.elim
    | some ilr =>
      obtain ⟨il, ir⟩ := ilr
      obtain ⟨gc, m4, b1, xne, cl, cr⟩ := g6
      subst m4
      subst b1
      obtain ⟨_, v1, v2⟩ := hsub
      obtain ⟨n1, n2, n3⟩ := hNB
      obtain ⟨w18, t1, et⟩ : P_w (Ps (G_pg G)) p = 18 ∧ ∃ t', st = (p, 0) :: t' := by
        rcases hV.2.2.2.2 with z | z | z
        · exact absurd z.1 (by simp)
        · exact absurd z.1 (by simp)
        · obtain ⟨_, z1, z2, z3, t', z4, z5, z6⟩ := z
          exact ⟨z3, t', z4⟩
      subst et
      obtain ⟨x, ys, rfl⟩ := ch_cons gc
      have hx0 : 0 ≤ x := gc.1.1
      have cl : CB v (Ps (G_pg G)) k ((base : Int) + (((p, (0 : Int64)) :: t1).length : Int)) x false l il := cl
      have cr : CB v (Ps (G_pg G)) k ((base : Int) + (((p, (0 : Int64)) :: t1).length : Int)) x true rr ir := cr
      have eb : (base : Int) + (((p, (0 : Int64)) :: t1).length : Int) = ((base + (t1.length + 1) : Nat) : Int) := by simp
      rw [eb] at cl cr v1 v2 hb60
      have hw1 : CWd v (flC k il ++ (flC k ir ++ (x :: ys ++ RX))) := g7.perm (l_perm (fun a => by
        simp only [flC]
        rw [if_pos trivial]
        simp only [List.count_append, List.count_nil]
        omega))
      have hw2 : CWd v (flC k ir ++ (flC k il ++ (x :: ys ++ RX))) := hw1.perm (l_perm (fun a => by simp only [List.count_append]; omega))
      have nd0 : (flC k il ++ (flC k ir ++ (x :: ys ++ RX))).Nodup := by
        obtain ⟨fl, w1, w2, w3, w4, w5⟩ := hw1
        exact (List.nodup_append.mp w2).1
      have nd : (x :: ys ++ RX).Nodup := (List.nodup_append.mp (List.nodup_append.mp nd0).2.1).2.1
      have hCL := (g8.sub (RY := flC k ir ++ (x :: ys ++ RX)) gc w18 nd (fun z hz => List.mem_append_right _ hz)).1
      have h4x : vI v 4 x = -1 ∨ vI v 4 x ∈ flC k il ++ (x :: ys ++ RX) := by
        rw [← slot_l hx0]
        by_cases z : modeB k l = 0
        · exact Or.inl ((CB_slot cl).1 z)
        · exact Or.inr (List.mem_append_left _ (CB_mem cl z))
      have hCR := (g8.sub (RY := flC k il ++ (x :: ys ++ RX)) gc w18 nd (fun z hz => List.mem_append_right _ hz)).2 h4x
      have elv : lvs (k + 1) (4, p, d, (p, 0) :: t1, some (l, rr)) = lvs k l + lvs k rr := rfl
      rw [elv] at hb kB
      have hl0 := (lvs_le k l).1
      have hr0 := (lvs_le k rr).1
      have est : stnA (k + 1) (4, p, d, (p, 0) :: t1, some (l, rr)) lf = if (stnA k l lf).2 = -1 then stnA k rr (stnA k l lf).1 else stnA k l lf := by
        simp only [stnA]
        rw [if_pos trivial]
      rw [est] at kA kB
      have sl := stn_rg hn k (some p) _ l lf v1 hlf0
      -- the right one
      have RT : ∀ (lf1 i1 : Int), 0 ≤ lf1 → lf1 < 2147483648 → 0 ≤ i1 → i1 + lvs k rr ≤ 100 → ¬ modeB k rr = 0 → (¬ (stnA k rr lf1).2 = -1 → Q (s, (stnA k rr lf1).2)) → ((stnA k rr lf1).2 = -1 → QW (fun n => g_58 o n 1 s 24 0 (stnA k rr lf1).1 (lfb v 61 N) (i1 + lvs k rr) 0 0 0) Q) → QW (fun n => g_58 o n 1 s 24 0 lf1 (fstL k rr ir) i1 0 0 0) Q := by
        intro lf1 i1 a1 a2 a3 a4 mr a5 a6
        exact IH (base + (t1.length + 1)) (some p) true x N G rr ir s c room v _ lf1 i1 Q hn v2 n2 mr ⟨g1, g2, g3, g4, g5, cr, hw2, hCR⟩ a1 a2 a3 a4 a5 a6
      show QW (fun n => g_58 o n 1 s 24 0 lf (if modeB k l = 0 then fstL k rr ir else fstL k l il) i 0 0 0) Q
      by_cases ml : modeB k l = 0
      · have mr : ¬ modeB k rr = 0 := fun z => n3 ⟨ml, z⟩
        rw [stn_0 v1 ml, if_pos rfl] at kA kB
        rw [lvs_0 v1 ml, Int.zero_add] at kB
        rw [if_pos ml]
        exact RT lf i hlf0 hlf1 hi (by omega) mr kA kB
      · rw [if_neg ml]
        refine IH (base + (t1.length + 1)) (some p) false x _ G l il s c room v _ lf i Q hn v1 n1 ml ⟨g1, g2, g3, g4, g5, cl, hw1, hCL⟩ hlf0 hlf1 hi (by omega) (fun z => ?_) (fun z => ?_)
        · rw [if_neg z] at kA
          exact kA z
        · rw [if_pos z] at kA kB
          by_cases mr : modeB k rr = 0
          · have hv5 : vI v 5 x = -1 := by
              rw [← slot_r hx0]
              exact (CB_slot cr).1 mr
            rw [if_pos hv5]
            rw [stn_0 v2 mr, lvs_0 v2 mr, Int.add_zero] at kB
            exact kB rfl
          · have hv5 : ¬ vI v 5 x = -1 := by
              rw [← slot_r hx0]
              have := (CB_slot cr).2 mr
              omega
            have enl : lfb v 61 (slotV v x true) = fstL k rr ir := CB_lfb k _ _ _ _ _ _ v2 cr n2 mr 61 (by omega)
            rw [if_neg hv5, ← slot_r hx0, enl]
            exact RT (stnA k l lf).1 (i + lvs k l) (sl.1 z) (by omega) (by omega) (by omega) mr kA (fun y => by rw [Int.add_assoc]; exact kB y)
theorem slk_all : ∀ k, SLK o Ps szs ths rc nP sec sig k := by
  intro k
  induction k with
  | zero => intro base side r u N G t it s c room v RX lf i Q hn hVT; exact hVT.elim
  | succ k ih => exact slk_step ih
/-- step -/
theorem d_10 {K : Nat} {t : BT K} {al : Int × Int × Int} {s : Q_S} {c room : Nat} {st : Int} {G : GT} (h : CR Ps szs ths rc nP sig s c room st sec G t al) {k : Int} (hk : q_in k) :
    QW (fun n => g_10 o n 0 s 0 k) (fun q => q = (s, if st = 1 ∧ 0 ≤ k then (stnA K t k).2 else -1)) := by
  obtain ⟨⟨b, g1'⟩, h0, hstr, g4, hg, ⟨v, g2, g3, hu, hst⟩, h1, -⟩ := h
  have hs : SH s := g1'.1
  have h20 : q_T s 20 = _ := g1'.2.1
  have K1 : QW (fun n => g_10 o n 1 s 0 0) (fun q => q = (s, -1)) := by
    refine QW_s ?_
    simp only [g_10]
    exact QW_ret rfl
  refine QW_s ?_
  simp only [g_10]
  refine QW_g hk ?_
  refine QW_by (fun z => ?_) (fun z => ?_)
  · rw [if_neg (by omega)]
    exact K1
  · refine QW_p (k_gv (hs _ _ rfl) rfl rfl) ?_
    refine QW_p (k_rc h20) ?_
    refine QW_e (d_43 h20 (by omega)) ?_
    dsimp only
    by_cases c1 : st = 1
    · subst c1
      rw [if_pos h0, if_pos ⟨rfl, by omega⟩]
      refine QW_g (by decide) ?_
      refine QW_it (by decide) ?_
      have g1 := g1'.back1 h0
      obtain ⟨g5, it, g6, g7⟩ := hst rfl
      obtain ⟨hv, hx, hn, hm, hsd⟩ := h1 rfl
      have hW := hg.2.2.2.2.1 _ hg.2.2.2.2.2.1 hg.2.2.2.2.2.2.1
      have hsg : G_sd G ≤ 49 := hg.2.2.2.2.2.2.2.2.2.2.2.1
      have hlv := lvs_le K t
      refine QW_p (k_gv (hs _ _ rfl) rfl rfl) ?_
      refine QW_p (k_gv h20 rfl rfl) ?_
      refine QW_p (k_rc g2.1) ?_
      refine QW_eta ?_
      refine QW_s ?_
      simp only [g_58]
      refine QW_p (k_gi g2.1 rfl) ?_
      rw [g2.2.2.2.2.1]
      refine QW_p (k_rc g2.1) ?_
      refine QW_e (d_57 g2 g3 g3.2.1.1 g3.2.1.2) ?_
      dsimp only
      have enl : lfb v 61 (v_t v) = fstL K t it := by
        rw [← slot_root]
        exact CB_lfb K none 0 (-1) false t it hv g6 hn hm 61 (by omega)
      rw [enl]
      have hqi : k < 2147483648 := by unfold q_in at hk; omega
      refine slk_all K 0 none false (-1) (-1) (G_bgb G b) t it s c room v [] k 0 _ hW.1 hv hn hm ⟨g1, g2, g3, g4, g5, g6, by rw [List.append_nil]; exact g7, CX.root⟩ (by omega) hqi (by omega) (by omega) (fun y => rfl) (fun y => ?_)
      rw [y]
      have K5 : QW (fun n => g_58 o n 5 s 0 0 0 0 0 0 0 0) (fun q => q = (s, -1)) := by
        refine QW_s ?_
        simp only [g_58]
        exact QW_ret rfl
      show QW (fun n => g_58 o n 1 s 24 0 (stnA K t k).1 (-1) (0 + lvs K t) 0 0 0) _
      refine QW_s ?_
      simp only [g_58]
      refine QW_g (by omega) ?_
      refine QW_if (by omega) ?_
      refine QW_g (by decide) ?_
      refine QW_it (by simp) ?_
      exact K5
    · rw [if_neg (by omega), if_neg (fun z => c1 z.1)]
      refine QW_g (by decide) ?_
      refine QW_if (by decide) ?_
      exact K1
end CSTP
