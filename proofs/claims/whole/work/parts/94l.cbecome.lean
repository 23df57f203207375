/-! THE CLASS'S RUNS COPIED -/
/-- copying frames, as far as it is: k rows of ten -/
def CI (s0 : Q_S) (cA cB : Nat) (us : Int) (k : Nat) (s : Q_S) : Prop := s.1 = s0.1 ∧ s.2.1 = s0.2.1 ∧ (∀ a, q_T s a = q_T s0 a) ∧ (∀ a, ¬ (cA < a ∧ a ≤ cA + k) → ∀ j, q_I s a j = q_I s0 a j ∧ q_L s a j = q_L s0 a j) ∧
  (∀ i, 1 ≤ i → i ≤ k → ∀ x : Int, 0 ≤ x → x < us → (i ≤ 7 → q_I s (cA + i) x = q_I s0 (cB + i) x) ∧ (8 ≤ i → q_L s (cA + i) x = q_L s0 (cB + i) x))
section CBE
variable {o : X_O} {s0 s : Q_S} {cA cB FA FB RA RB : Nat} {us : Int} {k : Nat} {Q : Q_S × Unit → Prop} {K : Nat → Q_S → Option (Q_S × Unit)}
theorem cp_I (hk : k < 7) (h : CI s0 cA cB us k s) (hFB : q_T s0 FB = some (shF0 cB)) (hFA : q_T s0 FA = some (shF0 cA)) (hb : ∀ i t, shFa RB i = some t → q_T s0 (cB + i) = some t) (ha : ∀ i t, shFa RA i = some t → q_T s0 (cA + i) = some t) (hd : cA + 10 ≤ cB ∨ cB + 10 ≤ cA) (hFBn : ¬ (cA < FB ∧ FB ≤ cA + 10)) (h12 : q_F s0 FB 12 = us) (u0 : 0 ≤ us) (uA : us ≤ RA) (uB : us ≤ RB) (rA : RA ≤ 67108864) (rB : RB ≤ 67108864)
    (e1 : ∀ c : Nat, ([some (.ref (c + 1)), some (.ref (c + 2)), some (.ref (c + 3)), some (.ref (c + 4)), some (.ref (c + 5)), some (.ref (c + 6)), some (.ref (c + 7)), some (.ref (c + 8)), some (.ref (c + 9)), some (.ref (c + 10)), none, none, none, none] : List (Option Value))[k]? = some (some (.ref (c + (k + 1))))) (e2 : ∀ n, shFa n (k + 1) = some (.inl (.int, n, fun _ => none)))
    (g : ∀ s', CI s0 cA cB us (k + 1) s' → QW (fun n => K n s') Q) :
    QW (fun n => (q_gv s 5 (.ref FB) k).bind fun v1 => (q_gv s 5 (.ref FA) k).bind fun v3 => (q_gi s 5 (.ref FB) 12).bind fun v5 => (q_cp s v1 0 v3 0 v5).bind fun s7 => K n s7) Q := by
  obtain ⟨a1, a2, a3, a4, a5⟩ := h
  refine QW_p (k_gv ((a3 FB).trans hFB) (e1 cB) rfl) ?_
  refine QW_p (k_gv ((a3 FA).trans hFA) (e1 cA) rfl) ?_
  refine QW_p (k_gi ((a3 FB).trans hFB) rfl) ?_
  rw [show q_F s FB 12 = us from ((a4 FB (by omega) 12).1).trans h12]
  refine QW_p (k_cI ((a3 _).trans (hb _ _ (e2 RB))) ((a3 _).trans (ha _ _ (e2 RA))) (by omega) (by omega) u0 (by omega) (by omega) rB rA) ?_
  apply g
  refine ⟨a1, a2, a3, fun a hn j => ⟨?_, ?_⟩, fun i i0 i1 x x0 x1 => ?_⟩
  · rw [q_I_cI, if_neg (fun z => hn (by omega))]
    exact (a4 a (fun z => hn (by omega)) j).1
  · rw [q_L_cI]
    exact (a4 a (fun z => hn (by omega)) j).2
  · by_cases z : i = k + 1
    · subst z
      refine ⟨fun _ => ?_, fun z => by omega⟩
      rw [q_I_cI, if_pos ⟨rfl, x0, by omega⟩, show (0 : Int) + (x - 0) = x by omega]
      exact (a4 _ (by omega) x).1
    · obtain ⟨b1, b2⟩ := a5 i i0 (by omega) x x0 x1
      rw [q_I_cI, if_neg (fun y => by have := y.1; omega), q_L_cI]
      exact ⟨b1, b2⟩
theorem cp_L (hk : 7 ≤ k ∧ k < 10) (h : CI s0 cA cB us k s) (hFB : q_T s0 FB = some (shF0 cB)) (hFA : q_T s0 FA = some (shF0 cA)) (hb : ∀ i t, shFa RB i = some t → q_T s0 (cB + i) = some t) (ha : ∀ i t, shFa RA i = some t → q_T s0 (cA + i) = some t) (hd : cA + 10 ≤ cB ∨ cB + 10 ≤ cA) (hFBn : ¬ (cA < FB ∧ FB ≤ cA + 10)) (h12 : q_F s0 FB 12 = us) (u0 : 0 ≤ us) (uA : us ≤ RA) (uB : us ≤ RB) (rA : RA ≤ 67108864) (rB : RB ≤ 67108864)
    (e1 : ∀ c : Nat, ([some (.ref (c + 1)), some (.ref (c + 2)), some (.ref (c + 3)), some (.ref (c + 4)), some (.ref (c + 5)), some (.ref (c + 6)), some (.ref (c + 7)), some (.ref (c + 8)), some (.ref (c + 9)), some (.ref (c + 10)), none, none, none, none] : List (Option Value))[k]? = some (some (.ref (c + (k + 1))))) (e2 : ∀ n, shFa n (k + 1) = some (.inl (.long, n, fun _ => none)))
    (g : ∀ s', CI s0 cA cB us (k + 1) s' → QW (fun n => K n s') Q) :
    QW (fun n => (q_gv s 5 (.ref FB) k).bind fun v1 => (q_gv s 5 (.ref FA) k).bind fun v3 => (q_gi s 5 (.ref FB) 12).bind fun v5 => (q_cp s v1 0 v3 0 v5).bind fun s7 => K n s7) Q := by
  obtain ⟨a1, a2, a3, a4, a5⟩ := h
  refine QW_p (k_gv ((a3 FB).trans hFB) (e1 cB) rfl) ?_
  refine QW_p (k_gv ((a3 FA).trans hFA) (e1 cA) rfl) ?_
  refine QW_p (k_gi ((a3 FB).trans hFB) rfl) ?_
  rw [show q_F s FB 12 = us from ((a4 FB (by omega) 12).1).trans h12]
  refine QW_p (k_cL ((a3 _).trans (hb _ _ (e2 RB))) ((a3 _).trans (ha _ _ (e2 RA))) (by omega) (by omega) u0 (by omega) (by omega) rB rA) ?_
  apply g
  refine ⟨a1, a2, a3, fun a hn j => ⟨?_, ?_⟩, fun i i0 i1 x x0 x1 => ?_⟩
  · rw [q_I_cL]
    exact (a4 a (fun z => hn (by omega)) j).1
  · rw [q_L_cL, if_neg (fun z => hn (by omega))]
    exact (a4 a (fun z => hn (by omega)) j).2
  · by_cases z : i = k + 1
    · subst z
      refine ⟨fun z => by omega, fun _ => ?_⟩
      rw [q_L_cL, if_pos ⟨rfl, x0, by omega⟩, show (0 : Int) + (x - 0) = x by omega]
      exact (a4 _ (by omega) x).2
    · obtain ⟨b1, b2⟩ := a5 i i0 (by omega) x x0 x1
      rw [q_L_cL, if_neg (fun y => by have := y.1; omega), q_I_cL]
      exact ⟨b1, b2⟩
set_option maxHeartbeats 2000000 in
/-- frames copied, where there is room -/
theorem d_59b {v : CV} (hB : VW s0 FB cB RB v) (hFA : q_T s0 FA = some (shF0 cA)) (ha : ∀ i t, shFa RA i = some t → q_T s0 (cA + i) = some t) (hd : cA + 10 ≤ cB ∨ cB + 10 ≤ cA) (hFB : ¬ (cA < FB ∧ FB ≤ cA + 10)) (hFF : FA ≠ FB) (hFc : ¬ (cA < FA ∧ FA ≤ cA + 10)) (hFd : ¬ (cB < FA ∧ FA ≤ cB + 10)) (uA : v_u v ≤ RA) (rA : RA ≤ 20000) (hcA : cA = 24 ∨ 80 ≤ cA) (hn : cA + 10 < s0.1) :
    QW (fun n => g_59 o n 1 s0 FA (.ref FB)) (fun q => q.1.1 = s0.1 ∧ q.1.2.1 = s0.2.1 ∧ (∀ a, q_T q.1 a = q_T s0 a) ∧ (∀ a, a ≠ FA → ¬ (cA < a ∧ a ≤ cA + 10) → ∀ j, q_I q.1 a j = q_I s0 a j ∧ q_L q.1 a j = q_L s0 a j) ∧ VW q.1 FA cA RA v) := by
  have hB' := hB
  obtain ⟨w0, wa, w1, w2, w3, w4, w5, w6, w7, w8, w9, w10, w11, w12⟩ := hB'
  have h0 : CI s0 cA cB (v_u v) 0 s0 := ⟨rfl, rfl, fun _ => rfl, fun _ _ _ => ⟨rfl, rfl⟩, fun i i0 i1 => by omega⟩
  have rB : RB ≤ 67108864 := by omega
  have rA' : RA ≤ 67108864 := by omega
  refine QW_s ?_
  simp only [g_59]
  refine cp_I (k := 0) (by decide) h0 w0 hFA wa ha hd hFB w5 w7 uA w8 rA' rB (fun _ => rfl) (fun _ => rfl) (fun s1 h1 => ?_)
  refine cp_I (k := 1) (by decide) h1 w0 hFA wa ha hd hFB w5 w7 uA w8 rA' rB (fun _ => rfl) (fun _ => rfl) (fun s2 h2 => ?_)
  refine cp_I (k := 2) (by decide) h2 w0 hFA wa ha hd hFB w5 w7 uA w8 rA' rB (fun _ => rfl) (fun _ => rfl) (fun s3 h3 => ?_)
  refine cp_I (k := 3) (by decide) h3 w0 hFA wa ha hd hFB w5 w7 uA w8 rA' rB (fun _ => rfl) (fun _ => rfl) (fun s4 h4 => ?_)
  refine cp_I (k := 4) (by decide) h4 w0 hFA wa ha hd hFB w5 w7 uA w8 rA' rB (fun _ => rfl) (fun _ => rfl) (fun s5 h5 => ?_)
  refine cp_I (k := 5) (by decide) h5 w0 hFA wa ha hd hFB w5 w7 uA w8 rA' rB (fun _ => rfl) (fun _ => rfl) (fun s6 h6 => ?_)
  refine cp_I (k := 6) (by decide) h6 w0 hFA wa ha hd hFB w5 w7 uA w8 rA' rB (fun _ => rfl) (fun _ => rfl) (fun s7 h7 => ?_)
  refine cp_L (k := 7) (by decide) h7 w0 hFA wa ha hd hFB w5 w7 uA w8 rA' rB (fun _ => rfl) (fun _ => rfl) (fun s8 h8 => ?_)
  refine cp_L (k := 8) (by decide) h8 w0 hFA wa ha hd hFB w5 w7 uA w8 rA' rB (fun _ => rfl) (fun _ => rfl) (fun s9 h9 => ?_)
  refine cp_L (k := 9) (by decide) h9 w0 hFA wa ha hd hFB w5 w7 uA w8 rA' rB (fun _ => rfl) (fun _ => rfl) (fun s10 h10 => ?_)
  obtain ⟨a1, a2, a3, a4, a5⟩ := h10
  have tB : q_T s10 FB = some (shF0 cB) := (a3 FB).trans w0
  have tA : q_T s10 FA = some (shF0 cA) := (a3 FA).trans hFA
  have fB : ∀ f : Nat, q_F s10 FB f = q_F s0 FB f := fun f => (a4 FB hFB f).1
  refine QW_p (k_gi tB rfl) ?_
  refine QW_p (k_pi tA rfl rfl) ?_
  refine QW_p (k_gi (show q_T (q_sf s10 FA 10 _) FB = some (shF0 cB) from tB) rfl) ?_
  refine QW_p (k_pi (show q_T (q_sf s10 FA 10 _) FA = some (shF0 cA) from tA) rfl rfl) ?_
  refine QW_p (k_gi (show q_T (q_sf (q_sf s10 FA 10 _) FA 11 _) FB = some (shF0 cB) from tB) rfl) ?_
  refine QW_p (k_pi (show q_T (q_sf (q_sf s10 FA 10 _) FA 11 _) FA = some (shF0 cA) from tA) rfl rfl) ?_
  refine QW_p (k_gi (show q_T (q_sf (q_sf (q_sf s10 FA 10 _) FA 11 _) FA 12 _) FB = some (shF0 cB) from tB) rfl) ?_
  refine QW_p (k_pi (show q_T (q_sf (q_sf (q_sf s10 FA 10 _) FA 11 _) FA 12 _) FA = some (shF0 cA) from tA) rfl rfl) ?_
  have gB : ∀ (x : Q_S) (f h : Nat) (y : Int), q_F (q_sf x FA f y) FB h = q_F x FB h := fun x f h y => by rw [q_F_sf, if_neg (fun z => hFF z.1.symm)]
  simp only [gB, fB, w3, w4, w5, w6]
  have gI : ∀ a j, a ≠ FA → q_I (q_sf (q_sf (q_sf (q_sf s10 FA 10 (v_t v)) FA 11 (v_f v)) FA 12 (v_u v)) FA 13 (v_s v)) a j = q_I s10 a j := fun a j ha => by
    rw [q_I_sf, if_neg (fun z => ha z.1), q_I_sf, if_neg (fun z => ha z.1), q_I_sf, if_neg (fun z => ha z.1), q_I_sf, if_neg (fun z => ha z.1)]
  refine QW_ret ⟨a1, a2, a3, fun a h1 h2 j => ⟨(gI a j h1).trans (a4 a h2 j).1, (a4 a h2 j).2⟩, tA, fun i t e => (a3 _).trans (ha i t e), fun i x i0 i1 x0 x1 => ?_, fun i x i0 i1 x0 x1 => ?_, ?_, ?_, ?_, ?_, w7, uA, rA, hcA, by show cA + 10 < s10.1; omega, by show 80 < s10.1; omega⟩
  · rw [gI _ _ (by omega), (a5 i i0 (by omega) x x0 x1).1 i1]
    exact w1 i x i0 i1 x0 x1
  · exact ((a5 i (by omega) i1 x x0 x1).2 i0).trans (w2 i x i0 i1 x0 x1)
  · simp only [q_F_sf]; simp
  · simp only [q_F_sf]; simp
  · simp only [q_F_sf]; simp
  · simp only [q_F_sf]; simp
end CBE
