/-! THE CLASS'S make -/
section CMK
variable {o : X_O} {T P P' : PT} {N U D sz sz' rk th' : Int → Int} {root n : Int} {s : Q_S} {r : Nat}
theorem ckW {w : Int} (h : 0 ≤ w ∧ w ≤ 102) : q_in (ck w) := by
  unfold ck q_in
  split <;> omega
theorem SR.sy (h : SR P P') : SR P' P := ⟨h.1.symm, fun q q0 q1 => by
  obtain ⟨a, b⟩ := h.2 q q0 (by have := h.1; omega)
  exact ⟨a.symm, b.symm⟩⟩
/-- isSameAs -/
theorem d_39 (hs : SH s) (hR : RW s r P' sz' th') (hW' : WP P' sz') (hW : WP P sz) (h7 : q_F s 7 7 = P_n P) (hK : TK P sz rk s) : QW (fun m => g_39 o m 0 s r (.ref 7) 0) (fun q => ∃ b : Int, q = (s, b) ∧ (b = 0 ∨ b = 1) ∧ (b = 1 ↔ SR P P')) := by
  obtain ⟨n', np, ⟨t0, ta⟩, r2, r3, r4, r5, r6, -⟩ := hR
  have n5 := hW.2.1
  have n5' := hW'.2.1
  have p1 := hW.1
  have p1' := hW'.1
  have no : ¬ SR P P' → QW (fun m => g_39 o m 2 s 0 .null 0) (fun q => ∃ b : Int, q = (s, b) ∧ (b = 0 ∨ b = 1) ∧ (b = 1 ↔ SR P P')) := fun h => by
    refine QW_s ?_
    simp only [g_39]
    exact QW_ret ⟨0, rfl, Or.inl rfl, ⟨fun z => absurd z (by decide), fun z => absurd z h⟩⟩
  have L : P_n P' = P_n P → ∀ (f : Nat) (j : Int), j + f = P_n P → 0 ≤ j → (∀ q, 0 ≤ q → q < j → ck (P_w P' q) = ck (P_w P q) ∧ numC P' q = numC P q) → QW (fun m => g_39 o m 1 s r (.ref 7) j) (fun q => ∃ b : Int, q = (s, b) ∧ (b = 0 ∨ b = 1) ∧ (b = 1 ↔ SR P P')) := fun en => by
    intro f
    induction f with
    | zero =>
      intro j hj j0 hq
      have jn : j = P_n P := by simp at hj; exact hj
      refine QW_s ?_
      simp only [g_39]
      refine QW_p (k_gi t0 rfl) ?_
      rw [r4]
      refine QW_g (by unfold q_in; omega) ?_
      refine QW_it (by omega) ?_
      exact QW_ret ⟨1, rfl, Or.inr rfl, ⟨fun _ => ⟨en, fun q q0 q1 => hq q q0 (by omega)⟩, fun _ => rfl⟩⟩
    | succ f ih =>
      intro j hj j0 hq
      push_cast at hj
      obtain ⟨x1, x2, -⟩ := r6 j j0 (by omega)
      obtain ⟨y1, y2, -⟩ := hK j j0 (by omega)
      refine QW_s ?_
      simp only [g_39]
      refine QW_p (k_gi t0 rfl) ?_
      rw [r4]
      refine QW_g (by unfold q_in; omega) ?_
      refine QW_if (by omega) ?_
      refine QW_p (k_gv t0 rfl rfl) ?_
      refine QW_p (k_ia (ta _ _ rfl) (by omega) (by omega) (by omega)) ?_
      refine QW_p (k_gv (hs _ _ rfl) rfl rfl) ?_
      refine QW_p (k_ia (hs _ _ rfl) (by omega) (by omega) (by decide)) ?_
      rw [x1, y1]
      refine QW_g ⟨ckW (WK_rg (hW'.2.2.2.2.2.1 j j0 (by omega)).2.2), ckW (WK_rg (hW.2.2.2.2.2.1 j j0 (by omega)).2.2)⟩ ?_
      refine QW_by (fun z => no (fun h => z (h.2 j j0 (by omega)).1)) (fun z => ?_)
      refine QW_p (k_gv t0 rfl rfl) ?_
      refine QW_p (k_la (ta _ _ rfl) (by omega) (by omega) (by omega)) ?_
      refine QW_p (k_gv (hs _ _ rfl) rfl rfl) ?_
      refine QW_p (k_la (hs _ _ rfl) (by omega) (by omega) (by decide)) ?_
      rw [x2, y2]
      refine QW_by (fun y => ?_) (fun y => no (fun h => y (h.2 j j0 (by omega)).2))
      refine ih (j + 1) (by omega) (by omega) (fun q q0 q1 => ?_)
      by_cases w : q = j
      · rw [w]; exact ⟨Decidable.not_not.mp z, y⟩
      · exact hq q q0 (by omega)
  refine QW_s ?_
  simp only [g_39]
  refine QW_p (k_gi t0 rfl) ?_
  refine QW_p (k_gi (hs _ _ rfl) rfl) ?_
  rw [r4, h7]
  refine QW_g (by unfold q_in; omega) ?_
  refine QW_by (fun z => ?_) (fun z => ?_)
  · exact L (by omega) (P_n P).toNat 0 (by omega) (Int.le_refl _) (fun q q0 q1 => by omega)
  · exact QW_ret ⟨0, rfl, Or.inl rfl, ⟨fun y => absurd y (by decide), fun y => absurd y.1 (by omega)⟩⟩
/-- a copy, as copyFor leaves it -/
def CPY (s : Q_S) (k : Int) (q : Q_S × Value) : Prop := ∃ n np : Nat, q_F s 7 7 = n ∧ q_F s 7 8 = np ∧ q.2 = .ref s.1 ∧ q.1.1 = s.1 + 8 ∧ q.1.2.1 ≤ s.2.1 + 4000 ∧ RSh q.1 s.1 n np ∧ q_F q.1 s.1 7 = n ∧ q_F q.1 s.1 8 = np ∧ q_F q.1 s.1 9 = k ∧ (∀ j : Int, 0 ≤ j → j < n → q_I q.1 (s.1 + 1) j = q_I s 8 j ∧ q_L q.1 (s.1 + 2) j = q_L s 9 j ∧ q_I q.1 (s.1 + 3) j = q_I s 10 j ∧ q_I q.1 (s.1 + 4) j = q_I s 11 j ∧ q_I q.1 (s.1 + 5) j = q_I s 12 j ∧ q_I q.1 (s.1 + 6) j = q_I s 13 j) ∧ (∀ j : Int, 0 ≤ j → j < np → q_I q.1 (s.1 + 7) j = q_I s 14 j) ∧ (∀ b, b < s.1 → q_T q.1 b = q_T s b ∧ ∀ j, q_I q.1 b j = q_I s b j ∧ q_L q.1 b j = q_L s b j)
/-- keptRows -/
theorem d_4 {Ps : Int → PT} {szs ths : Int → Int → Int} {rc : Int → Nat} {nP : Int} (hs : SH s) (h80 : 80 < s.1) (hP : PA s nP rc) (hR : ∀ k, 0 ≤ k → k < nP → RW s (rc k) (Ps k) (szs k) (ths k) ∧ WP (Ps k) (szs k)) (hW : WP P sz) (hK : TK P sz rk s) (hT : TI P s (P_n P)) :
    QW (fun m => g_4 o m 0 s 0 (.ref 7) 0) (fun q => (∃ k, (0 ≤ k ∧ k < nP) ∧ q = (s, .ref (rc k)) ∧ SR P (Ps k) ∧ ∀ j, 0 ≤ j → j < k → ¬ SR P (Ps j)) ∨ ((∀ j, 0 ≤ j → j < nP → ¬ SR P (Ps j)) ∧ CPY s nP q)) := by
  obtain ⟨g, g1, g2, g3, g4, g5⟩ := hP
  have n5 := hW.2.1
  have p1 := hW.1
  have h7 := hT.1
  obtain ⟨c, c1, c2, c3, -⟩ := hT.2.2.2
  have L : ∀ (f : Nat) (k : Int), k + f = nP → 0 ≤ k → (∀ j, 0 ≤ j → j < k → ¬ SR P (Ps j)) → QW (fun m => g_4 o m 1 s 0 (.ref 7) k) (fun q => (∃ k, (0 ≤ k ∧ k < nP) ∧ q = (s, .ref (rc k)) ∧ SR P (Ps k) ∧ ∀ j, 0 ≤ j → j < k → ¬ SR P (Ps j)) ∨ ((∀ j, 0 ≤ j → j < nP → ¬ SR P (Ps j)) ∧ CPY s nP q)) := by
    intro f
    induction f with
    | zero =>
      intro k hk k0 hq
      have kn : k = nP := by simp at hk; exact hk
      refine QW_s ?_
      simp only [g_4]
      refine QW_p (k_gi (hs _ _ rfl) rfl) ?_
      rw [g3]
      refine QW_g (by unfold q_in; omega) ?_
      refine QW_it (by omega) ?_
      refine QW_p (k_gi (hs _ _ rfl) rfl) ?_
      rw [g3]
      refine QW_p (k_rc (hs _ _ rfl)) ?_
      refine QW_c (d_40 (n := (P_n P).toNat) (np := c.toNat) hs h80 (by omega) (by omega) (by rw [h7]; omega) (by rw [c1]; omega)) (fun q hq' => ?_)
      have hq' := hq'
      obtain ⟨e1, e2⟩ := hq'
      rw [e1]
      refine QW_p (show y_isr (.ref s.1) = some s.1 from rfl) ?_
      refine QW_p (show y_isr (.ref s.1) = some s.1 from rfl) ?_
      exact QW_ret (Or.inr ⟨fun j j0 j1 => hq j j0 (by omega), _, _, by rw [h7]; omega, by rw [c1]; omega, rfl, e2⟩)
    | succ f ih =>
      intro k hk k0 hq
      push_cast at hk
      obtain ⟨x1, x2⟩ := hR k k0 (by omega)
      have t0 := x1
      obtain ⟨n', np, ⟨t0, -⟩, -⟩ := t0
      have ga : ∀ (i : Int), i = k → q_aa s (.ref 18) i = some (.ref (rc k)) := fun i hi => by
        rw [hi, k_aa g1 k0 (by omega) (by decide) rfl, g2 k k0 (by omega)]
        rfl
      refine QW_s ?_
      simp only [g_4]
      refine QW_p (k_gi (hs _ _ rfl) rfl) ?_
      rw [g3]
      refine QW_g (by unfold q_in; omega) ?_
      refine QW_if (by omega) ?_
      refine QW_p (k_gv (hs _ _ rfl) rfl rfl) ?_
      refine QW_p (ga k rfl) ?_
      refine QW_p (k_rc t0) ?_
      refine QW_c (d_39 hs x1 x2 hW h7 hK) (fun q hb => ?_)
      obtain ⟨b, eq, b1, b2⟩ := hb
      subst eq
      dsimp only
      refine QW_g (by unfold q_in; omega) ?_
      refine QW_by (fun z => ?_) (fun z => ?_)
      · refine ih (k + 1) (by omega) (by omega) (fun j j0 j1 => ?_)
        by_cases w : j = k
        · rw [w]
          exact fun y => by have := b2.mpr y; omega
        · exact hq j j0 (by omega)
      · refine QW_p (k_gv (hs _ _ rfl) rfl rfl) ?_
        refine QW_p (ga k rfl) ?_
        refine QW_p (show y_isr (.ref (rc k)) = some (rc k) from rfl) ?_
        exact QW_ret (Or.inl ⟨k, ⟨k0, by omega⟩, rfl, b2.mp (by omega), hq⟩)
  refine QW_s ?_
  simp only [g_4]
  exact L nP.toNat 0 (by omega) (Int.le_refl _) (fun j j0 j1 => by omega)
end CMK
/-- what a make leaves of the class's cells -/
def MKf (s s' : Q_S) : Prop := s.1 ≤ s'.1 ∧ s'.1 ≤ s.1 + 8 ∧ s'.2.1 ≤ s.2.1 + 4000 ∧ (∀ a, a < s.1 → a ≠ 18 → q_T s' a = q_T s a) ∧ (∀ a, a < s.1 → a ≠ 0 → ¬ (6 ≤ a ∧ a ≤ 17) → ∀ j, q_I s' a j = q_I s a j ∧ q_L s' a j = q_L s a j) ∧ (∀ f : Nat, f ≠ 3 → q_F s' 0 f = q_F s 0 f)
section CML
variable {o : X_O} {T : PT} {root : Int} {s : Q_S} {Ps : Int → PT} {szs ths : Int → Int → Int} {rc : Int → Nat} {nP : Int}
theorem KY.RW {s' : Q_S} {r : Nat} {P : PT} {sz th : Int → Int} (h : KY s s') (hr : 80 < r) (hR : RW s r P sz th) : RW s' r P sz th := hR.same (fun i hi => ⟨congrFun h.1.2.2 _, fun j => h.2 _ (by omega) j⟩)
set_option maxHeartbeats 2000000 in
/-- make -/
theorem d_3 (ho : o 1 = some (66, fun i => x_WANTED.getD i 0)) (hs : SH s) (h80 : 80 < s.1) (hV : NV T) (hN : NRc T s) (hP : PA s nP rc) (hR : ∀ k, 0 ≤ k → k < nP → RW s (rc k) (Ps k) (szs k) (ths k) ∧ 80 < rc k ∧ rc k + 7 < s.1) (hD : ∀ k, 0 ≤ k → k < nP → LD T (Ps k) (szs k) ∧ TH (Ps k) (ths k)) {i : Int} (hi : q_in i) :
    QW (fun m => g_3 o m 0 s 0 i) (fun q => if eS T i = true ∧ Zn T i ≤ 500 then (if nP = 20 then q = (s, -2) else q.2 = nP ∧ MKf s q.1 ∧ ∃ r th, PA q.1 (nP + 1) (upN rc nP r) ∧ TH (PR T (Zn T i) (lyN T i) (lyU T i)) th ∧ RW q.1 r (PR T (Zn T i) (lyN T i) (lyU T i)) (fun x => Zn T (lyN T i x)) th ∧ 80 < r ∧ r + 7 < q.1.1 ∧ ((∃ k, (0 ≤ k ∧ k < nP) ∧ r = rc k ∧ SR (PR T (Zn T i) (lyN T i) (lyU T i)) (Ps k) ∧ ∀ j, 0 ≤ j → j < k → ¬ SR (PR T (Zn T i) (lyN T i) (lyU T i)) (Ps j)) ∨ (r = s.1 ∧ q_F q.1 r 9 = nP ∧ ∀ j, 0 ≤ j → j < nP → ¬ SR (PR T (Zn T i) (lyN T i) (lyU T i)) (Ps j)))) else q = (s, -1)) := by
  have hn := hN.2.1
  have K1 : ¬ (eS T i = true ∧ Zn T i ≤ 500) → QW (fun m => g_3 o m 1 s 0 0) (fun q => if eS T i = true ∧ Zn T i ≤ 500 then (if nP = 20 then q = (s, -2) else q.2 = nP ∧ MKf s q.1 ∧ ∃ r th, PA q.1 (nP + 1) (upN rc nP r) ∧ TH (PR T (Zn T i) (lyN T i) (lyU T i)) th ∧ RW q.1 r (PR T (Zn T i) (lyN T i) (lyU T i)) (fun x => Zn T (lyN T i x)) th ∧ 80 < r ∧ r + 7 < q.1.1 ∧ ((∃ k, (0 ≤ k ∧ k < nP) ∧ r = rc k ∧ SR (PR T (Zn T i) (lyN T i) (lyU T i)) (Ps k) ∧ ∀ j, 0 ≤ j → j < k → ¬ SR (PR T (Zn T i) (lyN T i) (lyU T i)) (Ps j)) ∨ (r = s.1 ∧ q_F q.1 r 9 = nP ∧ ∀ j, 0 ≤ j → j < nP → ¬ SR (PR T (Zn T i) (lyN T i) (lyU T i)) (Ps j)))) else q = (s, -1)) := fun h => by
    refine QW_s ?_
    simp only [g_3]
    refine QW_ret ?_
    rw [if_neg h]
  obtain ⟨g, g1, g2, g3, g4, g5⟩ := id hP
  refine QW_s ?_
  simp only [g_3]
  refine QW_p (k_gv (hs _ _ rfl) rfl rfl) ?_
  refine QW_p (k_rc (hs _ _ rfl)) ?_
  refine QW_e (d_26 hs hN hV hi) ?_
  refine QW_g qin01 ?_
  refine QW_by (fun z => K1 (fun w => by rw [ff 0 z] at w; exact absurd w.1 (by decide))) (fun z => ?_)
  have hS := tt 0 z
  have hT : inT T i := by
    have := of_decide_eq_true hS
    exact ⟨this.1, this.2.1⟩
  have hT0 := hT.1
  have hT1 := hT.2
  have hSt : isS (P_w T i) := (NK_es (hV i hT.1 hT.2)).2 (of_decide_eq_true hS).2.2
  have mz := (hN.2.2.2.1 i hT.1 hT.2).2
  have mv := m501_v (x := Zn T i)
  have mz : q_I s 5 i = m501 (Zn T i) := mz
  have z1 := Zn_1 hV hn hT
  refine QW_p (k_gv (hs _ _ rfl) rfl rfl) ?_
  refine QW_p (k_gv (hs _ _ rfl) rfl rfl) ?_
  refine QW_p (k_ia (hs _ _ rfl) (by omega) (by omega) (by decide)) ?_
  rw [mz]
  refine QW_g (by unfold q_in; split at mv <;> omega) ?_
  refine QW_by (fun w => ?_) (fun w => K1 (fun y => by have := y.2; split at mv <;> omega))
  have h5 : Zn T i ≤ 500 := by split at mv <;> omega
  refine QW_p (k_gi (hs _ _ rfl) rfl) ?_
  rw [g3]
  refine QW_g (by unfold q_in; omega) ?_
  refine QW_by (fun y => ?_) (fun y => ?_)
  · have hL := ly_LT hV hn hT
    have hW := (PR_LPr T (Zn T i) (lyN T i) (lyU T i)).wp hL hV hn hT hSt h5
    refine QW_p (k_gv (hs _ _ rfl) rfl rfl) ?_
    refine QW_p (k_rc (hs _ _ rfl)) ?_
    refine QW_c (d_31 ho hs hV hN hL hT hSt h5) (fun q hq => ?_)
    obtain ⟨hY, hTI, hTK⟩ := hq
    generalize q.1 = s2 at hY hTI hTK
    have hs2 := hY.sh hs
    have n2 : s2.1 = s.1 := hY.1.1
    have P2 : PA s2 nP rc := ⟨g, (congrFun hY.1.2.2 18).trans g1, g2, (hY.2 0 (by decide) 3).1.trans g3, g4, g5⟩
    refine QW_p (k_gv (hs2 _ _ rfl) rfl rfl) ?_
    refine QW_p (k_gi (hs2 _ _ rfl) rfl) ?_
    rw [P2.choose_spec.2.2.1]
    refine QW_p (k_gv (hs2 _ _ rfl) rfl rfl) ?_
    refine QW_p (k_gv (hs2 _ _ rfl) rfl rfl) ?_
    refine QW_p (k_rc (hs2 _ _ rfl)) ?_
    have hR2 : ∀ k, 0 ≤ k → k < nP → RW s2 (rc k) (Ps k) (szs k) (ths k) ∧ WP (Ps k) (szs k) := fun k k0 k1 => ⟨hY.RW (hR k k0 k1).2.1 (hR k k0 k1).1, (hD k k0 k1).1.wp hV hn⟩
    refine QW_c (d_4 hs2 (by omega) P2 hR2 hW hTK hTI) (fun q2 hq2 => ?_)
    -- whatever rows are kept, the rest is the same
    have fin : ∀ (s3 : Q_S) (r : Nat) (th : Int → Int), SH s3 → s2.1 ≤ s3.1 → s3.1 ≤ s2.1 + 8 → s3.2.1 ≤ s2.2.1 + 4000 → (∀ a, a < s2.1 → q_T s3 a = q_T s2 a ∧ ∀ j, q_I s3 a j = q_I s2 a j ∧ q_L s3 a j = q_L s2 a j) → TH (PR T (Zn T i) (lyN T i) (lyU T i)) th → RW s3 r (PR T (Zn T i) (lyN T i) (lyU T i)) (fun x => Zn T (lyN T i x)) th → 80 < r → r + 7 < s3.1 → ((∃ k, (0 ≤ k ∧ k < nP) ∧ r = rc k ∧ SR (PR T (Zn T i) (lyN T i) (lyU T i)) (Ps k) ∧ ∀ j, 0 ≤ j → j < k → ¬ SR (PR T (Zn T i) (lyN T i) (lyU T i)) (Ps j)) ∨ (r = s.1 ∧ q_F s3 r 9 = nP ∧ ∀ j, 0 ≤ j → j < nP → ¬ SR (PR T (Zn T i) (lyN T i) (lyU T i)) (Ps j))) →
        QW (fun n => (y_isr (.ref r)).bind fun b52 => (q_as s3 (.ref 18) nP (.ref b52)).bind fun s54 => (q_gi s54 0 (.ref 0) 3).bind fun v56 => (q_pi s54 0 (.ref 0) 3 (v56 + 1)).bind fun s58 => (q_gi s58 0 (.ref 0) 3).bind fun v60 => some (s58, (v60 - 1))) (fun q => if eS T i = true ∧ Zn T i ≤ 500 then (if nP = 20 then q = (s, -2) else q.2 = nP ∧ MKf s q.1 ∧ ∃ r th, PA q.1 (nP + 1) (upN rc nP r) ∧ TH (PR T (Zn T i) (lyN T i) (lyU T i)) th ∧ RW q.1 r (PR T (Zn T i) (lyN T i) (lyU T i)) (fun x => Zn T (lyN T i x)) th ∧ 80 < r ∧ r + 7 < q.1.1 ∧ ((∃ k, (0 ≤ k ∧ k < nP) ∧ r = rc k ∧ SR (PR T (Zn T i) (lyN T i) (lyU T i)) (Ps k) ∧ ∀ j, 0 ≤ j → j < k → ¬ SR (PR T (Zn T i) (lyN T i) (lyU T i)) (Ps j)) ∨ (r = s.1 ∧ q_F q.1 r 9 = nP ∧ ∀ j, 0 ≤ j → j < nP → ¬ SR (PR T (Zn T i) (lyN T i) (lyU T i)) (Ps j)))) else q = (s, -1)) := fun s3 r th hs3 m1 m2 m3 m4 hTh hRw r80 r7 hkind => by
      have T18 : q_T s3 18 = some (.inl (.object "StepRows$Rows", 20, g)) := (m4 18 (by omega)).1.trans ((congrFun hY.1.2.2 18).trans g1)
      obtain ⟨nn, np, ⟨tr, -⟩, -⟩ := id hRw
      refine QW_p (show y_isr (.ref r) = some r from rfl) ?_
      refine QW_p (k_as T18 tr g4 (by omega) (by decide) rfl rfl) ?_
      have T0 : q_T (q_st s3 18 (.inl (.object "StepRows$Rows", 20, va_up g nP.toNat (some r)))) 0 = _ := (q_T_st (s := s3) (a := 18) (c := 0)).trans ((if_neg (by decide)).trans (hs3 0 _ rfl))
      refine QW_p (k_gi T0 rfl) ?_
      have F3 : q_F s3 0 3 = nP := ((m4 0 (by omega)).2 3).1.trans ((hY.2 0 (by decide) 3).1.trans g3)
      rw [show q_F (q_st s3 18 (.inl (.object "StepRows$Rows", 20, va_up g nP.toNat (some r)))) 0 3 = nP from F3]
      refine QW_p (k_pi T0 rfl rfl) ?_
      refine QW_p (k_gi (show q_T (q_sf (q_st s3 18 (.inl (.object "StepRows$Rows", 20, va_up g nP.toNat (some r)))) 0 3 (nP + 1)) 0 = _ from T0) rfl) ?_
      rw [q_F_sf, if_pos ⟨rfl, rfl⟩]
      refine QW_ret ?_
      rw [if_pos ⟨hS, h5⟩, if_neg (by omega)]
      have I4 : ∀ a j, a ≠ 0 → q_I (q_sf (q_st s3 18 (.inl (.object "StepRows$Rows", 20, va_up g nP.toNat (some r)))) 0 3 (nP + 1)) a j = q_I s3 a j := fun a j ha => by rw [q_I_sf, if_neg (fun z => ha z.1)]; rfl
      have T4 : ∀ a, a ≠ 18 → q_T (q_sf (q_st s3 18 (.inl (.object "StepRows$Rows", 20, va_up g nP.toNat (some r)))) 0 3 (nP + 1)) a = q_T s3 a := fun a ha => by rw [q_T_sf, q_T_st, if_neg ha]
      refine ⟨by show nP + 1 - 1 = nP; omega, ⟨by show s.1 ≤ s3.1; omega, by show s3.1 ≤ s.1 + 8; omega, ?_, fun a ha h18 => ?_, fun a ha h0 h6 j => ⟨?_, ?_⟩, fun f hf => ?_⟩, r, th, ⟨va_up g nP.toNat (some r), ?_, fun k k0 k1 => ?_, ?_, by omega, by omega⟩, hTh, ?_, r80, r7, ?_⟩
      · show s3.2.1 ≤ s.2.1 + 4000
        have : s2.2.1 = s.2.1 := hY.1.2.1
        omega
      · rw [T4 a h18, (m4 a (by omega)).1]
        exact congrFun hY.1.2.2 a
      · rw [I4 a j h0, ((m4 a (by omega)).2 j).1]
        exact (hY.2 a h6 j).1
      · exact ((m4 a (by omega)).2 j).2.trans (hY.2 a h6 j).2
      · rw [q_F_sf, if_neg (fun z => hf z.2)]
        exact ((m4 0 (by omega)).2 f).1.trans (hY.2 0 (by decide) f).1
      · rw [q_T_sf, q_T_st, if_pos rfl]
      · show (if k.toNat = nP.toNat then some r else g k.toNat) = some (if k = nP then r else rc k)
        by_cases e : k = nP
        · rw [if_pos e, if_pos (by rw [e])]
        · rw [if_neg e, if_neg (by omega)]
          exact g2 k k0 (by omega)
      · rw [q_F_sf, if_pos ⟨rfl, rfl⟩]
      · exact hRw.same (fun k hk => ⟨T4 _ (by omega), fun j => ⟨I4 _ j (by omega), rfl⟩⟩)
      · refine hkind.imp id (fun h => ⟨h.1, ?_, h.2.2⟩)
        have : q_F (q_sf (q_st s3 18 (.inl (.object "StepRows$Rows", 20, va_up g nP.toNat (some r)))) 0 3 (nP + 1)) r 9 = q_F s3 r 9 := I4 r 9 (by omega)
        rw [this]
        exact h.2.1
    rcases hq2 with ⟨k, ⟨k0, k1⟩, e, hsr, hfst⟩ | ⟨hno, nn, np, f7, f8, e1, e2, e3, e4, e5, e6, e7, e8, e9, e10⟩
    · -- rows that are there
      subst e
      dsimp only
      obtain ⟨rootk, N', U', D', a1, a2, a3, a4, a5, a6⟩ := (hD k k0 k1).1
      obtain ⟨ag, hz⟩ := hsr.sy.ag hV hn a4 a5 hL (PR_LPr T (Zn T i) (lyN T i) (lyU T i))
      obtain ⟨x1, x2, x3⟩ := hR k k0 k1
      exact fin s2 (rc k) (ths k) hs2 (Nat.le_refl _) (by omega) (by omega) (fun a _ => ⟨rfl, fun _ => ⟨rfl, rfl⟩⟩) ((hD k k0 k1).2.ag ((hD k k0 k1).1.wp hV hn) ag) ((hY.RW x2 x1).ag ((hD k k0 k1).1.wp hV hn) ag (fun q q0 q1 => by rw [a6 q q0 q1]; exact hz q q0 q1)) x2 (by omega) (Or.inl ⟨k, ⟨k0, k1⟩, rfl, hsr, hfst⟩)
    · -- a copy
      rw [e1]
      have sh3 : SH q2.1 := fun a t et => by
        have ha : a < 81 := by
          by_cases w : a < 81
          · exact w
          · exfalso
            have : sh a = none := by
              unfold sh
              rw [List.getElem?_eq_none (by show shL.length ≤ a; have : shL.length = 81 := rfl; omega)]
              rfl
            rw [this] at et
            cases et
        exact (e10 a (by omega)).1.trans (hs2 a t et)
      have hnn : (nn : Int) = Zn T i := by rw [← f7]; exact hTI.1
      obtain ⟨c, c1, c2, c3, c4, c5⟩ := hTI.2.2.2
      have hc : (np : Int) = c := by rw [← f8]; exact c1
      have thh : TH (PR T (Zn T i) (lyN T i) (lyU T i)) (q_I s2 11) := fun p p0 p1 hp => by
        have up : P_u (PR T (Zn T i) (lyN T i) (lyU T i)) p < Zn T i := by
          by_cases v : p = 0
          · rw [v, hW.2.2.2.1]; omega
          · have := (hW.2.2.2.2.2.2 p (by omega) p1).2.1
            have p1 : p < Zn T i := p1
            omega
        exact hTI.2.1 p p0 p1 hp up
      refine fin q2.1 s2.1 (q_I s2 11) sh3 (by omega) (by omega) e3 e10 thh ?_ (by omega) (by omega) (Or.inr ⟨n2, e7, hno⟩)
      refine ⟨nn, np, e4, hnn, by omega, e5, e6, fun p p0 p1 => ?_, ?_, fun k k0 k1 => ?_, fun k hk => ?_⟩
      · have p1 : p < Zn T i := p1
        obtain ⟨x1, x2, x3, x4, x5, x6⟩ := e8 p p0 (by omega)
        obtain ⟨y1, y2, y3, y4, y5⟩ := hTK p p0 p1
        exact ⟨x1.trans y1, x2.trans y2, x3.trans y3, fun _ => x4⟩
      · refine RK_of hV hn hL (fun x x0 x1 => ?_)
        obtain ⟨v1, v2, v3, v4, v5, v6⟩ := e8 x x0 (by omega)
        obtain ⟨y1, y2, y3, y4, y5⟩ := hTK x x0 x1
        have zx := Zn_1 hV hn (hL.2.2.1 x x0 x1).1
        have gx := (hL.2.2.1 x x0 x1).2.1
        have dx := (hL.2.2.1 x x0 x1).2.2.1
        have mono := hL.mono hV hn x.toNat 0 (Int.le_refl _) (by omega)
        rw [hL.2.1.2.2, show (0 : Int) + (x.toNat : Int) = x by omega] at mono
        refine ⟨v5.trans y4, ?_⟩
        obtain ⟨-, -, -, -, -, w6⟩ := e8 (x + Zn T (lyN T i x) - 1 - lyD T i x) (by omega) (by omega)
        exact w6.trans y5
      · rw [e9 (k - 1) (by omega) (by omega)]
        exact c4 k (by omega) (by omega)
      · rw [c5 k (by omega)]
        have : 501 - (Zn T i).toNat = (500 - (Zn T i).toNat) + 1 := by omega
        rw [this]
        show (if P_n (PR T (Zn T i) (lyN T i) (lyU T i)) ≤ Zn T i then -1 else _) = _
        rw [if_pos (show P_n (PR T (Zn T i) (lyN T i) (lyU T i)) ≤ Zn T i from Int.le_refl _)]
  · have y20 : nP = 20 := by omega
    refine QW_ret ?_
    rw [if_pos ⟨hS, h5⟩, if_pos y20]
end CML
