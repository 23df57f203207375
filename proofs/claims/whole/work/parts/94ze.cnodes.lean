/-! THE CLASS'S node; both sides keep their nodes -/
section CNI
variable {o : X_O} {T : PT} {s : Q_S} {i w a b c : Int} {v : Int64}
theorem q_in_toInt (x : Int32) : q_in x.toInt := ⟨Int32.le_toInt x, Int32.toInt_lt x⟩
theorem if_some {x : Bool} {q r : Int × Int × Int × Int} (h : (if x = true then some q else none : Option (Int × Int × Int × Int)) = some r) : r = q := by
  cases x with
  | true => exact (Option.some.inj h).symm
  | false => cases h
theorem hNm_f (h : ¬ (w = 10 ∨ w = 11 ∨ w = 13 ∨ w = 19 ∨ w = 20)) : hNm w = false := decide_eq_false h
/-- what a node is kept as, beside its parts -/
theorem nd_row {r : Int × Int × Int × Int} (h : ndA T w a b c = some r) : (0 ≤ w ∧ w < 22) ∧ (hNm w = true → r.1 = a ∧ (0 ≤ a ∧ a < 16) ∧ (r.2.1 = b ∨ r.2.1 = -1) ∧ (r.2.2.1 = c ∨ r.2.2.1 = -1)) ∧ (hNm w = false → r.1 = 0 ∧ (r.2.1 = a ∨ r.2.1 = -1) ∧ (r.2.2.1 = b ∨ r.2.2.1 = -1) ∧ (r.2.2.2 = c ∨ r.2.2.2 = -1)) ∧ (w = 15 → r.2.2.2 = c) := by
  have i8_r : ∀ {n : Int} {x : Bool}, (i8 n a && x) = true → n ≤ 16 → 0 ≤ a ∧ a < 16 := fun {n x} h hn => by
    have h := of_decide_eq_true (and2 h).1
    omega
  unfold ndA at h
  by_cases c0 : 0 ≤ w ∧ w ≤ 5
  · rw [if_pos c0] at h
    have e := if_some h
    subst e
    exact ⟨by omega, fun z => absurd (hNm_f (w := w) (by omega)) (by rw [z]; decide), fun _ => ⟨rfl, Or.inl rfl, Or.inl rfl, Or.inr rfl⟩, fun z => by omega⟩
  rw [if_neg c0] at h
  by_cases c1 : w = 6 ∨ w = 12
  · rw [if_pos c1] at h
    have e := if_some h
    subst e
    exact ⟨by omega, fun z => absurd (hNm_f (w := w) (by omega)) (by rw [z]; decide), fun _ => ⟨rfl, Or.inl rfl, Or.inr rfl, Or.inr rfl⟩, fun z => by omega⟩
  rw [if_neg c1] at h
  by_cases c2 : w = 10
  · rw [if_pos c2] at h
    have e := if_some h
    have rg : 0 ≤ a ∧ a < 16 := by
      cases z : (i8 8 a && eE T b) with
      | true => exact i8_r z (by decide)
      | false => rw [z] at h; cases h
    subst e
    exact ⟨by omega, fun _ => ⟨rfl, rg, Or.inl rfl, Or.inr rfl⟩, fun z => absurd (show hNm w = true from decide_eq_true (by omega)) (by rw [z]; decide), fun z => by omega⟩
  rw [if_neg c2] at h
  by_cases c3 : w = 11
  · rw [if_pos c3] at h
    have e := if_some h
    have rg : 0 ≤ a ∧ a < 16 := by
      cases z : (i8 16 a && eE T b) with
      | true => exact i8_r z (by decide)
      | false => rw [z] at h; cases h
    subst e
    exact ⟨by omega, fun _ => ⟨rfl, rg, Or.inl rfl, Or.inr rfl⟩, fun z => absurd (show hNm w = true from decide_eq_true (by omega)) (by rw [z]; decide), fun z => by omega⟩
  rw [if_neg c3] at h
  by_cases c4 : w = 13
  · rw [if_pos c4] at h
    have e := if_some h
    have rg : 0 ≤ a ∧ a < 16 := by
      cases z : (i8 8 a && eE T b && eE T c) with
      | true => exact i8_r (and2 z).1 (by decide)
      | false => rw [z] at h; cases h
    subst e
    exact ⟨by omega, fun _ => ⟨rfl, rg, Or.inl rfl, Or.inl rfl⟩, fun z => absurd (show hNm w = true from decide_eq_true (by omega)) (by rw [z]; decide), fun z => by omega⟩
  rw [if_neg c4] at h
  by_cases c5 : w = 14 ∨ w = 18
  · rw [if_pos c5] at h
    have e := if_some h
    subst e
    exact ⟨by omega, fun z => absurd (hNm_f (w := w) (by omega)) (by rw [z]; decide), fun _ => ⟨rfl, Or.inl rfl, Or.inl rfl, Or.inr rfl⟩, fun z => by omega⟩
  rw [if_neg c5] at h
  by_cases c6 : w = 15
  · rw [if_pos c6] at h
    have e := if_some h
    subst e
    exact ⟨by omega, fun z => absurd (hNm_f (w := w) (by omega)) (by rw [z]; decide), fun _ => ⟨rfl, Or.inl rfl, Or.inl rfl, Or.inl rfl⟩, fun z => rfl⟩
  rw [if_neg c6] at h
  by_cases c7 : w = 16
  · rw [if_pos c7] at h
    have e := if_some h
    subst e
    exact ⟨by omega, fun z => absurd (hNm_f (w := w) (by omega)) (by rw [z]; decide), fun _ => ⟨rfl, Or.inl rfl, Or.inl rfl, Or.inl rfl⟩, fun z => by omega⟩
  rw [if_neg c7] at h
  by_cases c8 : w = 17
  · rw [if_pos c8] at h
    have e := if_some h
    subst e
    exact ⟨by omega, fun z => absurd (hNm_f (w := w) (by omega)) (by rw [z]; decide), fun _ => ⟨rfl, Or.inl rfl, Or.inl rfl, Or.inr rfl⟩, fun z => by omega⟩
  rw [if_neg c8] at h
  by_cases c9 : w = 19
  · rw [if_pos c9] at h
    have e := if_some h
    have rg : 0 ≤ a ∧ a < 16 := by
      cases z : i8 8 a with
      | true => have z := of_decide_eq_true z; omega
      | false => rw [z] at h; cases h
    subst e
    exact ⟨by omega, fun _ => ⟨rfl, rg, Or.inr rfl, Or.inr rfl⟩, fun z => absurd (show hNm w = true from decide_eq_true (by omega)) (by rw [z]; decide), fun z => by omega⟩
  rw [if_neg c9] at h
  by_cases c10 : w = 20
  · rw [if_pos c10] at h
    have e := if_some h
    have rg : 0 ≤ a ∧ a < 16 := by
      cases z : (i8 8 a && eS T b) with
      | true => exact i8_r z (by decide)
      | false => rw [z] at h; cases h
    subst e
    exact ⟨by omega, fun _ => ⟨rfl, rg, Or.inl rfl, Or.inr rfl⟩, fun z => absurd (show hNm w = true from decide_eq_true (by omega)) (by rw [z]; decide), fun z => by omega⟩
  rw [if_neg c10] at h
  by_cases c11 : w = 21
  · rw [if_pos c11] at h
    have e := if_some h
    subst e
    exact ⟨by omega, fun z => absurd (hNm_f (w := w) (by omega)) (by rw [z]; decide), fun _ => ⟨rfl, Or.inl rfl, Or.inr rfl, Or.inr rfl⟩, fun z => by omega⟩
  rw [if_neg c11] at h
  cases h
/-- the answer of node, and the nodes behind it -/
def ndB (T : PT) (w a b c : Int) : Int := match ndA T w a b c with
  | none => -1
  | some _ => if P_n T = 300 then -2 else P_n T
def ndT (T : PT) (w a b c : Int) : PT := match ndA T w a b c with
  | none => T
  | some r => if P_n T = 300 then T else addN T w (Int64.ofInt r.1) r.2.1 r.2.2.1 r.2.2.2
def lfB (T : PT) (i : Int) (v : Int64) : Int := if (0 ≤ i ∧ i ≤ 2) ∧ (i = 0 ∨ (0 ≤ v ∧ v ≤ 15)) then (if P_n T = 300 then -2 else P_n T) else -1
def lfT (T : PT) (i : Int) (v : Int64) : PT := if (0 ≤ i ∧ i ≤ 2) ∧ (i = 0 ∨ (0 ≤ v ∧ v ≤ 15)) then (if P_n T = 300 then T else addN T (100 + i) v (-1) (-1) (-1)) else T
/-- nothing but the class's nodes, nothing but the reference's -/
def KN (s s' : Q_S) : Prop := s'.1 = s.1 ∧ s'.2.1 = s.2.1 ∧ s'.2.2.1 = s.2.2.1 ∧ ∀ a, ¬ (1 ≤ a ∧ a ≤ 5) → ∀ j, q_I s' a j = q_I s a j ∧ q_L s' a j = q_L s a j
def KNr (s s' : Q_S) : Prop := s'.1 = s.1 ∧ s'.2.1 = s.2.1 ∧ s'.2.2.1 = s.2.2.1 ∧ (∀ a, ¬ (38 ≤ a ∧ a ≤ 43) → ∀ j, q_I s' a j = q_I s a j ∧ q_L s' a j = q_L s a j) ∧ ∀ f : Nat, f ≠ 0 → f ≠ 1 → q_F s' 38 f = q_F s 38 f
theorem KN.rf (s : Q_S) : KN s s := ⟨rfl, rfl, rfl, fun _ _ _ => ⟨rfl, rfl⟩⟩
def cNd (s : Q_S) (w a b c z : Int) : Q_S := q_sf (q_si (q_si (q_si (q_si (q_si s 2 (q_F s 1 4) w) 3 (q_F s 1 4 * 3) a) 3 (q_F s 1 4 * 3 + 1) b) 3 (q_F s 1 4 * 3 + 2) c) 5 (q_F s 1 4) z) 1 4 (q_F s 1 4 + 1)
theorem cNd_kn {z : Int} : KN s (cNd s w a b c z) := by
  refine ⟨rfl, rfl, rfl, fun k hk j => ⟨?_, rfl⟩⟩
  unfold cNd
  simp only [q_I_sf, q_I_si]
  rw [if_neg (by omega), if_neg (by omega), if_neg (by omega), if_neg (by omega), if_neg (by omega), if_neg (by omega)]
theorem cLf_kn : KN s (cLf s i v) := by
  refine ⟨rfl, rfl, rfl, fun k hk j => ⟨?_, ?_⟩⟩
  · unfold cLf
    simp only [q_I_sf, q_I_si, q_I_sl]
    rw [if_neg (by omega), if_neg (by omega), if_neg (by omega)]
  · unfold cLf
    simp only [q_L_sf, q_L_si, q_L_sl]
    rw [if_neg (by omega)]
/-- a node's row, as it is put down -/
theorem nd_ncr {s' : Q_S} {r : Int × Int × Int × Int} (hN : NRc T s) (hn : P_n T < 300) (h : ndA T w a b c = some r) (k2 : q_I s' 2 (P_n T) = w) (k0 : q_I s' 3 (P_n T * 3) = a) (k1 : q_I s' 3 (P_n T * 3 + 1) = b) (k3 : q_I s' 3 (P_n T * 3 + 2) = c) (k4 : q_L s' 4 (P_n T) = q_L s 4 (P_n T)) : NCr (addN T w (Int64.ofInt r.1) r.2.1 r.2.2.1 r.2.2.2) s' (P_n T) := by
  obtain ⟨hw, h1, h2, h3⟩ := nd_row h
  obtain ⟨e0, e4, e1, e2, e3⟩ := add_s (T := T) (w := w) (v := Int64.ofInt r.1) (a := r.2.1) (b := r.2.2.1) (c := r.2.2.2)
  have ec : ck w = w := if_neg (by omega)
  refine ⟨by rw [e0, ec]; exact k2, fun j j0 j3 hj => ?_, fun z => ?_, fun z => ?_, fun z => ?_⟩
  · unfold prt at hj ⊢
    rw [e0, e1, e2, e3] at hj ⊢
    cases y : hNm w with
    | true =>
      obtain ⟨-, -, g1, g2⟩ := h1 y
      rw [y, if_pos rfl] at hj
      rw [if_pos rfl]
      rcases (by omega : j = 0 ∨ j = 1 ∨ j = 2) with rfl | rfl | rfl
      · exact absurd rfl hj
      · have hj : r.2.1 ≠ -1 := hj
        exact k1.trans (g1.resolve_right hj).symm
      · have hj : r.2.2.1 ≠ -1 := hj
        exact k3.trans (g2.resolve_right hj).symm
    | false =>
      obtain ⟨-, g0, g1, g2⟩ := h2 y
      rw [y, if_neg (by decide)] at hj
      rw [if_neg (by decide)]
      rcases (by omega : j = 0 ∨ j = 1 ∨ j = 2) with rfl | rfl | rfl
      · have hj : r.2.1 ≠ -1 := hj
        rw [Int.add_zero]
        exact k0.trans (g0.resolve_right hj).symm
      · have hj : r.2.2.1 ≠ -1 := hj
        exact k1.trans (g1.resolve_right hj).symm
      · have hj : r.2.2.2 ≠ -1 := hj
        exact k3.trans (g2.resolve_right hj).symm
  · rw [e0] at z
    rw [e3, h3 z]
    exact k3
  · rw [e0] at z
    obtain ⟨g0, g1, -⟩ := h1 z
    rw [e4, g0, o64 g1]
    exact k0
  · rw [e0] at z
    obtain ⟨g0, -⟩ := h2 z
    rw [e4, g0, k4]
    exact hN.2.2.2.2 _ (Int.le_refl _) hn
theorem cNd_r {z : Int} (h4 : q_F s 1 4 = P_n T) : q_I (cNd s w a b c z) 2 (P_n T) = w ∧ q_I (cNd s w a b c z) 3 (P_n T * 3) = a ∧ q_I (cNd s w a b c z) 3 (P_n T * 3 + 1) = b ∧ q_I (cNd s w a b c z) 3 (P_n T * 3 + 2) = c ∧ q_I (cNd s w a b c z) 5 (P_n T) = z ∧ q_F (cNd s w a b c z) 1 4 = P_n T + 1 ∧ (∀ j, q_L (cNd s w a b c z) 4 j = q_L s 4 j) ∧ (∀ j, j ≠ P_n T → q_I (cNd s w a b c z) 2 j = q_I s 2 j ∧ q_I (cNd s w a b c z) 5 j = q_I s 5 j) ∧ (∀ j, j < P_n T * 3 → q_I (cNd s w a b c z) 3 j = q_I s 3 j) := by
  unfold cNd
  rw [h4]
  refine ⟨?_, ?_, ?_, ?_, ?_, by rw [q_F_sf, if_pos ⟨rfl, rfl⟩], fun _ => rfl, fun j hj => ⟨?_, ?_⟩, fun j hj => ?_⟩ <;> simp only [q_I_sf, q_I_si]
  · rw [if_neg (by omega), if_neg (by omega), if_neg (by omega), if_neg (by omega), if_neg (by omega), if_pos (by simp)]
  · rw [if_neg (by omega), if_neg (by omega), if_neg (by omega), if_neg (by omega), if_pos (by simp)]
  · rw [if_neg (by omega), if_neg (by omega), if_neg (by omega), if_pos (by simp)]
  · rw [if_neg (by omega), if_neg (by omega), if_pos (by simp)]
  · rw [if_neg (by omega), if_pos (by simp)]
  · rw [if_neg (by omega), if_neg (by omega), if_neg (by omega), if_neg (by omega), if_neg (by omega), if_neg (by omega)]
  · rw [if_neg (by omega), if_neg (by omega), if_neg (by omega), if_neg (by omega), if_neg (by omega), if_neg (by omega)]
  · rw [if_neg (by omega), if_neg (by omega), if_neg (by omega), if_neg (by omega), if_neg (by omega), if_neg (by omega)]
theorem ndB_0 (h : ndA T w a b c = none) : ndB T w a b c = -1 ∧ ndT T w a b c = T := by unfold ndB ndT; rw [h]; exact ⟨rfl, rfl⟩
theorem ndB_1 {r : Int × Int × Int × Int} (h : ndA T w a b c = some r) (hn : P_n T = 300) : ndB T w a b c = -2 ∧ ndT T w a b c = T := by unfold ndB ndT; rw [h]; exact ⟨if_pos hn, if_pos hn⟩
theorem ndB_2 {r : Int × Int × Int × Int} (h : ndA T w a b c = some r) (hn : ¬ P_n T = 300) : ndB T w a b c = P_n T ∧ ndT T w a b c = addN T w (Int64.ofInt r.1) r.2.1 r.2.2.1 r.2.2.2 := by unfold ndB ndT; rw [h]; exact ⟨if_neg hn, if_neg hn⟩
/-- the nodes that a node leaves are nodes -/
theorem ndT_V (hV : NV T) (h0 : 0 ≤ P_n T) : NV (ndT T w a b c) := by
  cases h : ndA T w a b c with
  | none => rw [(ndB_0 h).2]; exact hV
  | some r =>
    by_cases hn : P_n T = 300
    · rw [(ndB_1 h hn).2]; exact hV
    · rw [(ndB_2 h hn).2]; exact NV_add hV h0 (NK_new hV h)
theorem lfT_V (hV : NV T) (h0 : 0 ≤ P_n T) : NV (lfT T i v) := by
  unfold lfT
  split
  · rename_i h
    split
    · exact hV
    · refine NV_add hV h0 (NK_leaf h.1 (h.2.imp id fun z => ?_))
      obtain ⟨z1, z2⟩ := z
      rw [Int64.le_iff_toInt_le] at z1 z2
      have e0 : (0 : Int64).toInt = 0 := rfl
      have e1 : (15 : Int64).toInt = 15 := rfl
      unfold rgI
      omega
  · exact hV
set_option maxHeartbeats 1000000 in
theorem d_21 (ho : o 1 = some (66, fun i => x_WANTED.getD i 0)) (hs : SH s) (hN : NRc T s) (hV : NV T) (hw : q_in w) (ha : q_in a) (hb : q_in b) (hc : q_in c) : QW (fun n => g_21 o n 0 s 1 w a b c) (fun q => q.2 = ndB T w a b c ∧ NRc (ndT T w a b c) q.1 ∧ KN s q.1) := by
  have K1 : ndA T w a b c = none → QW (fun n => g_21 o n 1 s 0 0 0 0 0) (fun q => q.2 = ndB T w a b c ∧ NRc (ndT T w a b c) q.1 ∧ KN s q.1) := fun z => by
    obtain ⟨e1, e2⟩ := ndB_0 z
    rw [e1, e2]
    refine QW_s ?_
    simp only [g_21]
    exact QW_ret ⟨rfl, hN, KN.rf s⟩
  have K2 : ndA T w a b c = none → QW (fun n => g_21 o n 2 s 0 0 0 0 0) (fun q => q.2 = ndB T w a b c ∧ NRc (ndT T w a b c) q.1 ∧ KN s q.1) := fun z => by
    obtain ⟨e1, e2⟩ := ndB_0 z
    rw [e1, e2]
    refine QW_s ?_
    simp only [g_21]
    exact QW_ret ⟨rfl, hN, KN.rf s⟩
  have h4 := hN.2.2.1
  have n0 := hN.1
  have n3 := hN.2.1
  refine QW_s ?_
  simp only [g_21]
  refine QW_g hw ?_
  refine QW_by (fun c1 => K1 (nd_w (by omega))) (fun c1 => ?_)
  refine QW_g hw ?_
  refine QW_by (fun c2 => K1 (nd_w (by omega))) (fun c2 => ?_)
  have nf := nd_fit (T := T) (a := a) (b := b) (c := c) (show 0 ≤ w by omega) (show w < 22 by omega)
  have wr : ∀ j, 0 ≤ j → j < 3 → q_in (wnt w j) := fun j j0 j3 => by
    unfold wnt
    split
    · decide
    · exact q_in_toInt _
  have no : ∀ {x y z u : Bool}, ndA T w a b c = none ∨ (ndA T w a b c).isSome = (x && y && z && u) → (x = false ∨ y = false ∨ z = false ∨ u = false) → ndA T w a b c = none := fun {x y z u} h g => by
    rcases h with h | h
    · exact h
    · rw [show (x && y && z && u) = false by rcases g with g | g | g | g <;> (rw [g]; simp)] at h
      exact Option.isNone_iff_eq_none.mp (by rw [← Option.not_isSome, h]; rfl)
  refine QW_p (k_rc (hs _ _ rfl)) ?_
  refine QW_e (d_22 ho hw (by omega) (by decide) (by decide)) ?_
  refine QW_g (wr 0 (by decide) (by decide)) ?_
  refine QW_by (fun c3 => ?_) (fun c3 => K1 (no (Or.inr nf) (Or.inl (decide_eq_false (fun z => z (Decidable.not_not.mp c3))))))
  refine QW_p (k_rc (hs _ _ rfl)) ?_
  refine QW_e (d_22 ho hw (by omega) (by decide) (by decide)) ?_
  refine QW_p (k_rc (hs _ _ rfl)) ?_
  refine QW_e (d_23 hs hN hV (wr 0 (by decide) (by decide)) ha) ?_
  refine QW_g qin01 ?_
  refine QW_by (fun c4 => K2 (no (Or.inr nf) (Or.inr (Or.inl (ff 0 c4))))) (fun c4 => ?_)
  refine QW_p (k_rc (hs _ _ rfl)) ?_
  refine QW_e (d_22 ho hw (by omega) (by decide) (by decide)) ?_
  refine QW_p (k_rc (hs _ _ rfl)) ?_
  refine QW_e (d_23 hs hN hV (wr 1 (by decide) (by decide)) hb) ?_
  refine QW_g qin01 ?_
  refine QW_by (fun c5 => K2 (no (Or.inr nf) (Or.inr (Or.inr (Or.inl (ff 0 c5)))))) (fun c5 => ?_)
  refine QW_p (k_rc (hs _ _ rfl)) ?_
  refine QW_e (d_22 ho hw (by omega) (by decide) (by decide)) ?_
  refine QW_p (k_rc (hs _ _ rfl)) ?_
  refine QW_e (d_23 hs hN hV (wr 2 (by decide) (by decide)) hc) ?_
  refine QW_g qin01 ?_
  refine QW_by (fun c6 => ?_) (fun c6 => K2 (no (Or.inr nf) (Or.inr (Or.inr (Or.inr (ff 0 (Decidable.not_not.mp c6)))))))
  have yes : ∃ r, ndA T w a b c = some r := by
    rw [tt 0 c4, tt 0 c5, tt 0 c6, decide_eq_true c3] at nf
    exact Option.isSome_iff_exists.mp nf
  obtain ⟨r, hr⟩ := yes
  dsimp only
  refine QW_p (k_gi (hs _ _ rfl) rfl) ?_
  refine QW_g (by unfold q_in; omega) ?_
  refine QW_by (fun c7 => ?_) (fun c7 => ?_)
  · have hn : ¬ P_n T = 300 := by omega
    obtain ⟨e1, e2⟩ := ndB_2 hr hn
    rw [e1, e2]
    have hK := NK_new hV hr
    generalize hT' : addN T w (Int64.ofInt r.1) r.2.1 r.2.2.1 r.2.2.2 = T' at hK
    have en : P_n T' = P_n T + 1 := by rw [← hT']; rfl
    refine QW_p (k_gv (hs _ _ rfl) rfl rfl) ?_
    refine QW_p (k_gi (hs _ _ rfl) rfl) ?_
    refine QW_p (k_is (hs _ _ rfl) (by omega) (by omega) (by decide)) ?_
    refine QW_p (k_gv (hs _ _ rfl) rfl rfl) ?_
    refine QW_p (k_gi (hs _ _ rfl) rfl) ?_
    rw [show q_F (q_si s 2 (q_F s 1 4) w) 1 4 = q_F s 1 4 by rw [q_F_si, if_neg (fun z => absurd z.1 (by decide))]]
    refine QW_p (k_is (hs _ _ rfl) (by omega) (by omega) (by decide)) ?_
    refine QW_p (k_gv (hs _ _ rfl) rfl rfl) ?_
    refine QW_p (k_gi (hs _ _ rfl) rfl) ?_
    rw [show q_F (q_si (q_si s 2 (q_F s 1 4) w) 3 (q_F s 1 4 * 3) a) 1 4 = q_F s 1 4 by rw [q_F_si, if_neg (fun z => absurd z.1 (by decide)), q_F_si, if_neg (fun z => absurd z.1 (by decide))]]
    refine QW_p (k_is (hs _ _ rfl) (by omega) (by omega) (by decide)) ?_
    refine QW_p (k_gv (hs _ _ rfl) rfl rfl) ?_
    refine QW_p (k_gi (hs _ _ rfl) rfl) ?_
    rw [show q_F (q_si (q_si (q_si s 2 (q_F s 1 4) w) 3 (q_F s 1 4 * 3) a) 3 (q_F s 1 4 * 3 + 1) b) 1 4 = q_F s 1 4 by rw [q_F_si, if_neg (fun z => absurd z.1 (by decide)), q_F_si, if_neg (fun z => absurd z.1 (by decide)), q_F_si, if_neg (fun z => absurd z.1 (by decide))]]
    refine QW_p (k_is (hs _ _ rfl) (by omega) (by omega) (by decide)) ?_
    generalize hs4 : q_si (q_si (q_si (q_si s 2 (q_F s 1 4) w) 3 (q_F s 1 4 * 3) a) 3 (q_F s 1 4 * 3 + 1) b) 3 (q_F s 1 4 * 3 + 2) c = s4
    have es4 : ∀ z, q_sf (q_si s4 5 (q_F s 1 4) z) 1 4 (q_F s 1 4 + 1) = cNd s w a b c z := fun z => by rw [← hs4]; rfl
    have ss4 : SH s4 := by rw [← hs4]; exact fun x y z => hs x y z
    have f4 : q_F s4 1 4 = P_n T := by
      rw [← hs4, q_F_si, if_neg (fun z => absurd z.1 (by decide)), q_F_si, if_neg (fun z => absurd z.1 (by decide)), q_F_si, if_neg (fun z => absurd z.1 (by decide)), q_F_si, if_neg (fun z => absurd z.1 (by decide))]
      exact h4
    have I4 : ∀ j : Int, j ≠ P_n T → q_I s4 5 j = q_I s 5 j := fun j _ => by
      rw [← hs4]
      simp only [q_I_si]
      rw [if_neg (by omega), if_neg (by omega), if_neg (by omega), if_neg (by omega)]
    obtain ⟨y1, y2, y3, y4, -, -, y7, y8, y9⟩ := cNd_r (w := w) (a := a) (b := b) (c := c) (z := 0) h4
    have r4 : ∀ x j, x ≠ 1 → x ≠ 5 → q_I s4 x j = q_I (cNd s w a b c 0) x j := fun x j hx hy => by
      rw [← es4]
      simp only [q_I_sf, q_I_si]
      rw [if_neg (by omega), if_neg (by omega)]
    have l4 : ∀ x j, q_L s4 x j = q_L s x j := fun x j => by rw [← hs4]; rfl
    have hr4 : NCr T' s4 (P_n T) := by
      rw [← hT']
      exact nd_ncr hN (by omega) hr ((r4 2 _ (by decide) (by decide)).trans y1) ((r4 3 _ (by decide) (by decide)).trans y2) ((r4 3 _ (by decide) (by decide)).trans y3) ((r4 3 _ (by decide) (by decide)).trans y4) (l4 4 _)
    refine QW_p (k_gv (ss4 _ _ rfl) rfl rfl) ?_
    refine QW_p (k_gi (ss4 _ _ rfl) rfl) ?_
    refine QW_p (k_gi (ss4 _ _ rfl) rfl) ?_
    refine QW_p (k_rc (ss4 _ _ rfl)) ?_
    rw [f4]
    have hV' : NV T' := by rw [← hT']; exact NV_add hV n0 (hT' ▸ hK)
    have hz : ∀ j, 0 ≤ j → j < P_n T → q_I s4 5 j = m501 (nsz T' 301 j) := fun j j0 j1 => by
      rw [I4 j (by omega), ← hT', nsz_add hV 301 j j0 j1]
      exact (hN.2.2.2.1 j j0 j1).2
    refine QW_e (d_27 ho ss4 hV' hK hr4 (by omega) (by omega) hz) ?_
    refine QW_p (k_is (ss4 _ _ rfl) (by omega) (by omega) (by decide)) ?_
    refine QW_p (k_gi (ss4 _ _ rfl) rfl) ?_
    rw [show q_F (q_si s4 5 (P_n T) (m501 (nsz T' 301 (P_n T)))) 1 4 = P_n T by rw [q_F_si, if_neg (fun z => absurd z.1 (by decide))]; exact f4]
    refine QW_p (k_pi (ss4 _ _ rfl) rfl rfl) ?_
    refine QW_p (k_gi (ss4 _ _ rfl) rfl) ?_
    rw [q_F_sf, if_pos ⟨rfl, rfl⟩]
    have es5 := es4 (m501 (nsz T' 301 (P_n T)))
    rw [h4] at es5
    rw [es5]
    obtain ⟨x1, x2, x3, x4, x5, x6, x7, x8, x9⟩ := cNd_r (w := w) (a := a) (b := b) (c := c) (z := m501 (nsz T' 301 (P_n T))) h4
    refine QW_ret ⟨by show P_n T + 1 - 1 = P_n T; omega, ?_, cNd_kn⟩
    rw [← hT'] at hz x5 ⊢
    rw [← hT'] at x1 x2 x3 x4 x6 x7 x8 x9
    exact hN.add hV (by omega) x6 (fun i hi => ⟨(x8 i hi).1, (x8 i hi).2, x7 i⟩) (fun j hj => x9 j hj) (nd_ncr hN (by omega) hr x1 x2 x3 x4 (x7 _)) x5
  · have hn : P_n T = 300 := by omega
    obtain ⟨e1, e2⟩ := ndB_1 hr hn
    rw [e1, e2]
    exact QW_ret ⟨rfl, hN, KN.rf s⟩
/-- node -/
theorem d_2 (ho : o 1 = some (66, fun i => x_WANTED.getD i 0)) (hs : SH s) (hN : NRc T s) (hV : NV T) (hw : q_in w) (ha : q_in a) (hb : q_in b) (hc : q_in c) : QW (fun n => g_2 o n 0 s 0 w a b c) (fun q => q.2 = ndB T w a b c ∧ NRc (ndT T w a b c) q.1 ∧ KN s q.1) := by
  refine QW_s ?_
  simp only [g_2]
  refine QW_p (k_gv (hs _ _ rfl) rfl rfl) ?_
  refine QW_p (k_rc (hs _ _ rfl)) ?_
  exact QW_c (d_21 ho hs hN hV hw ha hb hc) (fun q hq => QW_ret hq)
theorem cLf_r {k : Int} (h4 : q_F s 1 4 = P_n T) : q_I (cLf s k v) 2 (P_n T) = k ∧ q_I (cLf s k v) 5 (P_n T) = 1 ∧ q_L (cLf s k v) 4 (P_n T) = v ∧ q_F (cLf s k v) 1 4 = P_n T + 1 ∧ (∀ j, j ≠ P_n T → q_I (cLf s k v) 2 j = q_I s 2 j ∧ q_I (cLf s k v) 5 j = q_I s 5 j ∧ q_L (cLf s k v) 4 j = q_L s 4 j) ∧ (∀ j, q_I (cLf s k v) 3 j = q_I s 3 j) := by
  unfold cLf
  rw [h4]
  refine ⟨?_, ?_, ?_, by rw [q_F_sf, if_pos ⟨rfl, rfl⟩], fun j hj => ⟨?_, ?_, ?_⟩, fun j => ?_⟩ <;> simp only [q_I_sf, q_I_si, q_I_sl, q_L_sf, q_L_si, q_L_sl]
  · rw [if_neg (by omega), if_neg (by omega), if_pos (by simp)]
  · rw [if_neg (by omega), if_pos (by simp)]
  · rw [if_pos (by simp)]
  · rw [if_neg (by omega), if_neg (by omega), if_neg (by omega)]
  · rw [if_neg (by omega), if_neg (by omega), if_neg (by omega)]
  · rw [if_neg (by omega)]
  · rw [if_neg (by omega), if_neg (by omega), if_neg (by omega)]
/-- leaf -/
theorem d_1 (hs : SH s) (hN : NRc T s) (hV : NV T) (hi : q_in i) : QW (fun n => g_1 o n 0 s 0 i v) (fun q => q.2 = lfB T i v ∧ NRc (lfT T i v) q.1 ∧ KN s q.1) := by
  have h4 := hN.2.2.1
  have n0 := hN.1
  have n3 := hN.2.1
  refine QW_s ?_
  simp only [g_1]
  refine QW_p (k_gv (hs _ _ rfl) rfl rfl) ?_
  refine QW_p (k_rc (hs _ _ rfl)) ?_
  refine QW_e (d_20 hs (by omega) hi) ?_
  refine QW_ret ?_
  unfold lfB lfT
  rw [h4]
  by_cases z : (0 ≤ i ∧ i ≤ 2) ∧ (i = 0 ∨ (0 ≤ v ∧ v ≤ 15))
  · rw [if_pos z, if_pos z, if_pos z]
    by_cases y : P_n T = 300
    · rw [if_pos y, if_pos y, if_pos y]
      exact ⟨rfl, hN, KN.rf s⟩
    · rw [if_neg y, if_neg y, if_neg y]
      obtain ⟨x1, x2, x3, x4, x5, x6⟩ := cLf_r (v := v) (k := 30 + i) h4
      obtain ⟨e0, e4, e1, e2, e3⟩ := add_s (T := T) (w := 100 + i) (v := v) (a := -1) (b := -1) (c := -1)
      have nm : hNm (100 + i) = false := hNm_f (by omega)
      have hp : ∀ j, prt (addN T (100 + i) v (-1) (-1) (-1)) (P_n T) j = -1 := fun j => by
        unfold prt
        rw [e0, e1, e2, e3]
        repeat' split
        all_goals rfl
      refine ⟨rfl, hN.add hV (by omega) x4 (fun i hi => x5 i hi) (fun j _ => x6 j) ⟨?_, fun j _ _ hj => absurd (hp j) hj, fun z => ?_, fun z => ?_, fun _ => ?_⟩ ?_, cLf_kn⟩
      · rw [x1, e0]
        unfold ck
        rw [if_pos (by omega)]
        omega
      · rw [e0] at z
        omega
      · rw [e0, nm] at z
        exact absurd z (by decide)
      · rw [x3, e4]
      · rw [x2]
        have : nsz (addN T (100 + i) v (-1) (-1) (-1)) 301 (P_n T) = 1 := by
          show 1 + (if P_1 _ (P_n T) = -1 then 0 else _) + (if P_2 _ (P_n T) = -1 then 0 else _) + (if P_3 _ (P_n T) = -1 then 0 else _) = (1 : Int)
          rw [if_pos e1, if_pos e2, if_pos e3]
          rfl
        rw [this]
        rfl
  · rw [if_neg z, if_neg z, if_neg z]
    exact ⟨rfl, hN, KN.rf s⟩
end CNI
/-! THE REFERENCE'S nodes, kept -/
section RNI
variable {o : X_O} {T : PT} {s : Q_S} {i w a b c : Int} {v : Int64}
theorem rAdd_k : KNr s (rAdd s w v a b c) := by
  refine ⟨rfl, rfl, rfl, fun k hk j => ⟨?_, ?_⟩, fun f f0 f1 => ?_⟩
  · unfold rAdd
    simp only [q_I_sf, q_I_si, q_I_sl]
    rw [if_neg (by omega), if_neg (by omega), if_neg (by omega), if_neg (by omega), if_neg (by omega)]
  · unfold rAdd
    simp only [q_L_sf, q_L_si, q_L_sl]
    rw [if_neg (by omega)]
  · unfold rAdd
    rw [q_F_sf, if_neg (fun z => f1 z.2)]
    simp only [q_F_si, q_F_sl]
    rw [if_neg (fun z => absurd z.1 (by decide)), if_neg (fun z => absurd z.1 (by decide)), if_neg (fun z => absurd z.1 (by decide)), if_neg (fun z => absurd z.1 (by decide))]
theorem KNr.s0 : KNr s (q_sf s 38 0 0) := ⟨rfl, rfl, rfl, fun k hk j => ⟨by rw [q_I_sf, if_neg (fun z => by omega)], rfl⟩, fun f f0 _ => by rw [q_F_sf, if_neg (fun z => f0 z.2)]⟩
theorem KNr.tr {s1 s2 : Q_S} (h : KNr s s1) (g : KNr s1 s2) : KNr s s2 := by
  obtain ⟨a1, a2, a3, a4, a5⟩ := h
  obtain ⟨b1, b2, b3, b4, b5⟩ := g
  exact ⟨b1.trans a1, b2.trans a2, b3.trans a3, fun k hk j => ⟨(b4 k hk j).1.trans (a4 k hk j).1, (b4 k hk j).2.trans (a4 k hk j).2⟩, fun f f0 f1 => (b5 f f0 f1).trans (a5 f f0 f1)⟩
theorem NRr.s0 (h : NRr T s) : NRr T (q_sf s 38 0 0) := by
  obtain ⟨n0, n1, h1, h⟩ := h
  refine ⟨n0, n1, by rw [q_F_sf, if_neg (by decide)]; exact h1, fun i i0 i1 => ?_⟩
  obtain ⟨b0, b1, b2, b3, b4, b5⟩ := h i i0 i1
  exact ⟨b0, by rw [q_I_sf, if_neg (fun z => absurd z.1 (by decide))]; exact b1, b2, by rw [q_I_sf, if_neg (fun z => absurd z.1 (by decide))]; exact b3, by rw [q_I_sf, if_neg (fun z => absurd z.1 (by decide))]; exact b4, by rw [q_I_sf, if_neg (fun z => absurd z.1 (by decide))]; exact b5⟩
theorem NRr.add (h : NRr T s) (hn : P_n T < 300) (hw : 0 ≤ w ∧ w ≤ 200) : NRr (addN T w v a b c) (rAdd s w v a b c) := by
  obtain ⟨n0, n1, h1, h⟩ := h
  have en : P_n (addN T w v a b c) = P_n T + 1 := rfl
  unfold rAdd
  rw [h1]
  refine ⟨by omega, by omega, by rw [q_F_sf, if_pos ⟨rfl, rfl⟩]; rfl, fun i i0 i1 => ?_⟩
  rw [en] at i1
  simp only [q_I_sf, q_I_si, q_I_sl, q_L_sf, q_L_si, q_L_sl]
  by_cases z : i = P_n T
  · subst z
    obtain ⟨e0, e4, e1, e2, e3⟩ := add_s (T := T) (w := w) (v := v) (a := a) (b := b) (c := c)
    rw [e0, e4, e1, e2, e3]
    refine ⟨hw, ?_, ?_, ?_, ?_, ?_⟩
    · rw [if_neg (by omega), if_neg (by omega), if_neg (by omega), if_neg (by omega), if_pos (by simp)]
    · rw [if_pos (by simp)]
    · rw [if_neg (by omega), if_neg (by omega), if_neg (by omega), if_pos (by simp)]
    · rw [if_neg (by omega), if_neg (by omega), if_pos (by simp)]
    · rw [if_neg (by omega), if_pos (by simp)]
  · obtain ⟨e0, e4, e1, e2, e3⟩ := add_o (T := T) (w := w) (v := v) (a := a) (b := b) (c := c) z
    obtain ⟨b0, b1, b2, b3, b4, b5⟩ := h i i0 (by omega)
    rw [e0, e4, e1, e2, e3]
    refine ⟨b0, ?_, ?_, ?_, ?_, ?_⟩
    · rw [if_neg (by omega), if_neg (by omega), if_neg (by omega), if_neg (by omega), if_neg (by omega)]; exact b1
    · rw [if_neg (by omega)]; exact b2
    · rw [if_neg (by omega), if_neg (by omega), if_neg (by omega), if_neg (by omega), if_neg (by omega)]; exact b3
    · rw [if_neg (by omega), if_neg (by omega), if_neg (by omega), if_neg (by omega), if_neg (by omega)]; exact b4
    · rw [if_neg (by omega), if_neg (by omega), if_neg (by omega), if_neg (by omega), if_neg (by omega)]; exact b5
/-- node -/
theorem m_95' (hs : SH s) (hN : NRr T s) (hw : q_in w) (ha : q_in a) (hb : q_in b) (hc : q_in c) : QW (fun n => g_95 o n 0 s 38 w a b c .null 0) (fun q => q.2 = ndB T w a b c ∧ NRr (ndT T w a b c) q.1 ∧ KNr s q.1) := by
  refine QW_m (m_95 hs hN hw ha hb hc) (fun q e => ?_)
  have h1 : q_F (q_sf s 38 0 0) 38 1 = P_n T := hN.s0.2.2.1
  cases h : ndA T w a b c with
  | none =>
    rw [ndP_n h] at e
    obtain ⟨e1, e2⟩ := ndB_0 h
    rw [e, e1, e2]
    exact ⟨rfl, hN.s0, KNr.s0⟩
  | some r =>
    rw [ndP_s h] at e
    unfold pS at e
    rw [if_neg (by decide), h1] at e
    by_cases hn : P_n T = 300
    · rw [if_pos hn] at e
      obtain ⟨e1, e2⟩ := ndB_1 h hn
      rw [e, e1, e2]
      exact ⟨rfl, hN.s0, KNr.s0⟩
    · rw [if_neg hn] at e
      obtain ⟨e1, e2⟩ := ndB_2 h hn
      rw [e, e1, e2]
      have hw2 := (nd_row h).1
      have := hN.2.1
      exact ⟨rfl, hN.s0.add (by omega) (by omega), KNr.s0.tr rAdd_k⟩
/-- leaf -/
theorem m_93' (hs : SH s) (hN : NRr T s) (hi : q_in i) : QW (fun n => g_93 o n 0 s 38 i v) (fun q => q.2 = lfB T i v ∧ NRr (lfT T i v) q.1 ∧ KNr s q.1) := by
  have h1 := hN.2.2.1
  have n0 := hN.1
  have n3 := hN.2.1
  refine QW_m (m_93 hs (by omega) hi) (fun q e => ?_)
  rw [e]
  unfold lfB lfT
  rw [h1]
  by_cases z : (0 ≤ i ∧ i ≤ 2) ∧ (i = 0 ∨ (0 ≤ v ∧ v ≤ 15))
  · rw [if_pos z, if_pos z, if_pos z]
    by_cases y : P_n T = 300
    · rw [if_pos y, if_pos y, if_pos y]
      exact ⟨rfl, hN.s0, KNr.s0⟩
    · rw [if_neg y, if_neg y, if_neg y]
      exact ⟨rfl, hN.s0.add (by omega) (by omega), KNr.s0.tr rAdd_k⟩
  · rw [if_neg z, if_neg z, if_neg z]
    exact ⟨rfl, hN.s0, KNr.s0⟩
end RNI
