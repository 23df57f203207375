/-! THE CLASS'S NODES -/
def hNm (w : Int) : Bool := decide (w = 10 ∨ w = 11 ∨ w = 13 ∨ w = 19 ∨ w = 20)
/-- a node's part, as the class counts them -/
def prt (T : PT) (i j : Int) : Int := if hNm (P_w T i) = true then (if j = 0 then -1 else if j = 1 then P_1 T i else P_2 T i) else (if j = 0 then P_1 T i else if j = 1 then P_2 T i else P_3 T i)
def wnt (k j : Int) : Int := if 22 ≤ k then 0 else (x_WANTED.getD (k * 3 + j).toNat 0).toInt
def pE (T : PT) (i j : Int) : Prop := 0 ≤ j ∧ j < i ∧ isE (P_w T j)
def pT (T : PT) (i j : Int) : Prop := 0 ≤ j ∧ j < i ∧ isS (P_w T j)
/-- a node's kind says what its parts are -/
def NK (T : PT) (i : Int) : Prop :=
  (100 ≤ P_w T i ∧ P_w T i ≤ 102 ∧ P_1 T i = -1 ∧ P_2 T i = -1 ∧ P_3 T i = -1 ∧ (P_w T i ≠ 100 → rgI (P_v T i) 16)) ∨
  ((P_w T i = 6 ∨ P_w T i = 12) ∧ pE T i (P_1 T i) ∧ P_2 T i = -1 ∧ P_3 T i = -1 ∧ P_v T i = 0) ∨
  ((0 ≤ P_w T i ∧ P_w T i ≤ 5) ∧ pE T i (P_1 T i) ∧ pE T i (P_2 T i) ∧ P_3 T i = -1 ∧ P_v T i = 0) ∨
  (P_w T i = 10 ∧ pE T i (P_1 T i) ∧ P_2 T i = -1 ∧ P_3 T i = -1 ∧ rgI (P_v T i) 8) ∨
  (P_w T i = 11 ∧ pE T i (P_1 T i) ∧ P_2 T i = -1 ∧ P_3 T i = -1 ∧ rgI (P_v T i) 16) ∨
  (P_w T i = 13 ∧ pE T i (P_1 T i) ∧ pE T i (P_2 T i) ∧ P_3 T i = -1 ∧ rgI (P_v T i) 8) ∨
  ((P_w T i = 14 ∨ P_w T i = 18) ∧ pT T i (P_1 T i) ∧ pT T i (P_2 T i) ∧ P_3 T i = -1 ∧ P_v T i = 0) ∨
  (P_w T i = 15 ∧ pE T i (P_1 T i) ∧ pT T i (P_2 T i) ∧ (P_3 T i = -1 ∨ pT T i (P_3 T i)) ∧ P_v T i = 0) ∨
  (P_w T i = 16 ∧ pE T i (P_1 T i) ∧ pT T i (P_2 T i) ∧ pT T i (P_3 T i) ∧ P_v T i = 0) ∨
  (P_w T i = 17 ∧ pE T i (P_1 T i) ∧ pT T i (P_2 T i) ∧ P_3 T i = -1 ∧ P_v T i = 0) ∨
  (P_w T i = 19 ∧ P_1 T i = -1 ∧ P_2 T i = -1 ∧ P_3 T i = -1 ∧ rgI (P_v T i) 8) ∨
  (P_w T i = 20 ∧ pT T i (P_1 T i) ∧ P_2 T i = -1 ∧ P_3 T i = -1 ∧ rgI (P_v T i) 8) ∨
  (P_w T i = 21 ∧ pT T i (P_1 T i) ∧ P_2 T i = -1 ∧ P_3 T i = -1 ∧ P_v T i = 0)
def NV (T : PT) : Prop := ∀ i, 0 ≤ i → i < P_n T → NK T i
/-- how many places a node's program has -/
def nsz (T : PT) : Nat → Int → Int
  | 0, _ => 0
  | f + 1, i => 1 + (if P_1 T i = -1 then 0 else nsz T f (P_1 T i)) + (if P_2 T i = -1 then 0 else nsz T f (P_2 T i)) + (if P_3 T i = -1 then 0 else nsz T f (P_3 T i))
def m501 (x : Int) : Int := if 501 < x then 501 else x
/-- a node's row, as the class has it -/
def NCr (T : PT) (s : Q_S) (i : Int) : Prop := q_I s 2 i = ck (P_w T i) ∧ (∀ j, 0 ≤ j → j < 3 → prt T i j ≠ -1 → q_I s 3 (i * 3 + j) = prt T i j) ∧ (P_w T i = 15 → q_I s 3 (i * 3 + 2) = P_3 T i) ∧ (hNm (P_w T i) = true → q_I s 3 (i * 3) = (P_v T i).toInt) ∧ (hNm (P_w T i) = false → q_L s 4 i = P_v T i)
def NRc (T : PT) (s : Q_S) : Prop := 0 ≤ P_n T ∧ P_n T ≤ 300 ∧ q_F s 1 4 = P_n T ∧ (∀ i, 0 ≤ i → i < P_n T → NCr T s i ∧ q_I s 5 i = m501 (nsz T 301 i)) ∧ (∀ i, P_n T ≤ i → i < 300 → q_L s 4 i = 0)
section CND
variable {o : X_O} {T : PT} {s : Q_S} {i : Int}
theorem wp_0 (h : P_w T i = 0) : (wnt (ck (P_w T i)) 0 = 1 ∧ prt T i 0 = P_1 T i) ∧ (wnt (ck (P_w T i)) 1 = 1 ∧ prt T i 1 = P_2 T i) ∧ (wnt (ck (P_w T i)) 2 = 0 ∧ prt T i 2 = P_3 T i) := by
  unfold prt
  rw [h]
  exact ⟨⟨by decide, rfl⟩, ⟨by decide, rfl⟩, ⟨by decide, rfl⟩⟩
theorem wp_1 (h : P_w T i = 1) : (wnt (ck (P_w T i)) 0 = 1 ∧ prt T i 0 = P_1 T i) ∧ (wnt (ck (P_w T i)) 1 = 1 ∧ prt T i 1 = P_2 T i) ∧ (wnt (ck (P_w T i)) 2 = 0 ∧ prt T i 2 = P_3 T i) := by
  unfold prt
  rw [h]
  exact ⟨⟨by decide, rfl⟩, ⟨by decide, rfl⟩, ⟨by decide, rfl⟩⟩
theorem wp_2 (h : P_w T i = 2) : (wnt (ck (P_w T i)) 0 = 1 ∧ prt T i 0 = P_1 T i) ∧ (wnt (ck (P_w T i)) 1 = 1 ∧ prt T i 1 = P_2 T i) ∧ (wnt (ck (P_w T i)) 2 = 0 ∧ prt T i 2 = P_3 T i) := by
  unfold prt
  rw [h]
  exact ⟨⟨by decide, rfl⟩, ⟨by decide, rfl⟩, ⟨by decide, rfl⟩⟩
theorem wp_3 (h : P_w T i = 3) : (wnt (ck (P_w T i)) 0 = 1 ∧ prt T i 0 = P_1 T i) ∧ (wnt (ck (P_w T i)) 1 = 1 ∧ prt T i 1 = P_2 T i) ∧ (wnt (ck (P_w T i)) 2 = 0 ∧ prt T i 2 = P_3 T i) := by
  unfold prt
  rw [h]
  exact ⟨⟨by decide, rfl⟩, ⟨by decide, rfl⟩, ⟨by decide, rfl⟩⟩
theorem wp_4 (h : P_w T i = 4) : (wnt (ck (P_w T i)) 0 = 1 ∧ prt T i 0 = P_1 T i) ∧ (wnt (ck (P_w T i)) 1 = 1 ∧ prt T i 1 = P_2 T i) ∧ (wnt (ck (P_w T i)) 2 = 0 ∧ prt T i 2 = P_3 T i) := by
  unfold prt
  rw [h]
  exact ⟨⟨by decide, rfl⟩, ⟨by decide, rfl⟩, ⟨by decide, rfl⟩⟩
theorem wp_5 (h : P_w T i = 5) : (wnt (ck (P_w T i)) 0 = 1 ∧ prt T i 0 = P_1 T i) ∧ (wnt (ck (P_w T i)) 1 = 1 ∧ prt T i 1 = P_2 T i) ∧ (wnt (ck (P_w T i)) 2 = 0 ∧ prt T i 2 = P_3 T i) := by
  unfold prt
  rw [h]
  exact ⟨⟨by decide, rfl⟩, ⟨by decide, rfl⟩, ⟨by decide, rfl⟩⟩
theorem wp_6 (h : P_w T i = 6) : (wnt (ck (P_w T i)) 0 = 1 ∧ prt T i 0 = P_1 T i) ∧ (wnt (ck (P_w T i)) 1 = 0 ∧ prt T i 1 = P_2 T i) ∧ (wnt (ck (P_w T i)) 2 = 0 ∧ prt T i 2 = P_3 T i) := by
  unfold prt
  rw [h]
  exact ⟨⟨by decide, rfl⟩, ⟨by decide, rfl⟩, ⟨by decide, rfl⟩⟩
theorem wp_10 (h : P_w T i = 10) : (wnt (ck (P_w T i)) 0 = 4 ∧ prt T i 0 = -1) ∧ (wnt (ck (P_w T i)) 1 = 1 ∧ prt T i 1 = P_1 T i) ∧ (wnt (ck (P_w T i)) 2 = 0 ∧ prt T i 2 = P_2 T i) := by
  unfold prt
  rw [h]
  exact ⟨⟨by decide, rfl⟩, ⟨by decide, rfl⟩, ⟨by decide, rfl⟩⟩
theorem wp_11 (h : P_w T i = 11) : (wnt (ck (P_w T i)) 0 = 5 ∧ prt T i 0 = -1) ∧ (wnt (ck (P_w T i)) 1 = 1 ∧ prt T i 1 = P_1 T i) ∧ (wnt (ck (P_w T i)) 2 = 0 ∧ prt T i 2 = P_2 T i) := by
  unfold prt
  rw [h]
  exact ⟨⟨by decide, rfl⟩, ⟨by decide, rfl⟩, ⟨by decide, rfl⟩⟩
theorem wp_12 (h : P_w T i = 12) : (wnt (ck (P_w T i)) 0 = 1 ∧ prt T i 0 = P_1 T i) ∧ (wnt (ck (P_w T i)) 1 = 0 ∧ prt T i 1 = P_2 T i) ∧ (wnt (ck (P_w T i)) 2 = 0 ∧ prt T i 2 = P_3 T i) := by
  unfold prt
  rw [h]
  exact ⟨⟨by decide, rfl⟩, ⟨by decide, rfl⟩, ⟨by decide, rfl⟩⟩
theorem wp_13 (h : P_w T i = 13) : (wnt (ck (P_w T i)) 0 = 4 ∧ prt T i 0 = -1) ∧ (wnt (ck (P_w T i)) 1 = 1 ∧ prt T i 1 = P_1 T i) ∧ (wnt (ck (P_w T i)) 2 = 1 ∧ prt T i 2 = P_2 T i) := by
  unfold prt
  rw [h]
  exact ⟨⟨by decide, rfl⟩, ⟨by decide, rfl⟩, ⟨by decide, rfl⟩⟩
theorem wp_14 (h : P_w T i = 14) : (wnt (ck (P_w T i)) 0 = 2 ∧ prt T i 0 = P_1 T i) ∧ (wnt (ck (P_w T i)) 1 = 2 ∧ prt T i 1 = P_2 T i) ∧ (wnt (ck (P_w T i)) 2 = 0 ∧ prt T i 2 = P_3 T i) := by
  unfold prt
  rw [h]
  exact ⟨⟨by decide, rfl⟩, ⟨by decide, rfl⟩, ⟨by decide, rfl⟩⟩
theorem wp_15 (h : P_w T i = 15) : (wnt (ck (P_w T i)) 0 = 1 ∧ prt T i 0 = P_1 T i) ∧ (wnt (ck (P_w T i)) 1 = 2 ∧ prt T i 1 = P_2 T i) ∧ (wnt (ck (P_w T i)) 2 = 3 ∧ prt T i 2 = P_3 T i) := by
  unfold prt
  rw [h]
  exact ⟨⟨by decide, rfl⟩, ⟨by decide, rfl⟩, ⟨by decide, rfl⟩⟩
theorem wp_16 (h : P_w T i = 16) : (wnt (ck (P_w T i)) 0 = 1 ∧ prt T i 0 = P_1 T i) ∧ (wnt (ck (P_w T i)) 1 = 2 ∧ prt T i 1 = P_2 T i) ∧ (wnt (ck (P_w T i)) 2 = 2 ∧ prt T i 2 = P_3 T i) := by
  unfold prt
  rw [h]
  exact ⟨⟨by decide, rfl⟩, ⟨by decide, rfl⟩, ⟨by decide, rfl⟩⟩
theorem wp_17 (h : P_w T i = 17) : (wnt (ck (P_w T i)) 0 = 1 ∧ prt T i 0 = P_1 T i) ∧ (wnt (ck (P_w T i)) 1 = 2 ∧ prt T i 1 = P_2 T i) ∧ (wnt (ck (P_w T i)) 2 = 0 ∧ prt T i 2 = P_3 T i) := by
  unfold prt
  rw [h]
  exact ⟨⟨by decide, rfl⟩, ⟨by decide, rfl⟩, ⟨by decide, rfl⟩⟩
theorem wp_18 (h : P_w T i = 18) : (wnt (ck (P_w T i)) 0 = 2 ∧ prt T i 0 = P_1 T i) ∧ (wnt (ck (P_w T i)) 1 = 2 ∧ prt T i 1 = P_2 T i) ∧ (wnt (ck (P_w T i)) 2 = 0 ∧ prt T i 2 = P_3 T i) := by
  unfold prt
  rw [h]
  exact ⟨⟨by decide, rfl⟩, ⟨by decide, rfl⟩, ⟨by decide, rfl⟩⟩
theorem wp_19 (h : P_w T i = 19) : (wnt (ck (P_w T i)) 0 = 6 ∧ prt T i 0 = -1) ∧ (wnt (ck (P_w T i)) 1 = 0 ∧ prt T i 1 = P_1 T i) ∧ (wnt (ck (P_w T i)) 2 = 0 ∧ prt T i 2 = P_2 T i) := by
  unfold prt
  rw [h]
  exact ⟨⟨by decide, rfl⟩, ⟨by decide, rfl⟩, ⟨by decide, rfl⟩⟩
theorem wp_20 (h : P_w T i = 20) : (wnt (ck (P_w T i)) 0 = 6 ∧ prt T i 0 = -1) ∧ (wnt (ck (P_w T i)) 1 = 2 ∧ prt T i 1 = P_1 T i) ∧ (wnt (ck (P_w T i)) 2 = 0 ∧ prt T i 2 = P_2 T i) := by
  unfold prt
  rw [h]
  exact ⟨⟨by decide, rfl⟩, ⟨by decide, rfl⟩, ⟨by decide, rfl⟩⟩
theorem wp_21 (h : P_w T i = 21) : (wnt (ck (P_w T i)) 0 = 2 ∧ prt T i 0 = P_1 T i) ∧ (wnt (ck (P_w T i)) 1 = 0 ∧ prt T i 1 = P_2 T i) ∧ (wnt (ck (P_w T i)) 2 = 0 ∧ prt T i 2 = P_3 T i) := by
  unfold prt
  rw [h]
  exact ⟨⟨by decide, rfl⟩, ⟨by decide, rfl⟩, ⟨by decide, rfl⟩⟩
/-- which of its parts have places -/
theorem wn_prt (h : NK T i) {j : Int} (j0 : 0 ≤ j) (j3 : j < 3) : (wnt (ck (P_w T i)) j = 1 ∨ wnt (ck (P_w T i)) j = 2 → prt T i j ≠ -1) ∧ (wnt (ck (P_w T i)) j = 3 → P_w T i = 15 ∧ j = 2 ∧ prt T i j = P_3 T i) ∧ (¬ wnt (ck (P_w T i)) j = 1 → ¬ wnt (ck (P_w T i)) j = 2 → ¬ wnt (ck (P_w T i)) j = 3 → prt T i j = -1) ∧ (prt T i j ≠ -1 → 0 ≤ prt T i j ∧ prt T i j < i) ∧ 0 ≤ wnt (ck (P_w T i)) j ∧ wnt (ck (P_w T i)) j ≤ 6 := by
  have hj : j = 0 ∨ j = 1 ∨ j = 2 := by omega
  rcases h with ⟨h1, h2, ha, hb, hc, _⟩ | ⟨h1, ha, hb, hc, _⟩ | ⟨h1, ha, hb, hc, _⟩ | ⟨h1, ha, hb, hc, _⟩ | ⟨h1, ha, hb, hc, _⟩ | ⟨h1, ha, hb, hc, _⟩ | ⟨h1, ha, hb, hc, _⟩ | ⟨h1, ha, hb, hc, _⟩ | ⟨h1, ha, hb, hc, _⟩ | ⟨h1, ha, hb, hc, _⟩ | ⟨h1, ha, hb, hc, _⟩ | ⟨h1, ha, hb, hc, _⟩ | ⟨h1, ha, hb, hc, _⟩
  · have e : wnt (ck (P_w T i)) j = 0 := by
      unfold wnt ck
      rw [if_pos h1, if_pos (by omega)]
    have p : prt T i j = -1 := by
      unfold prt
      rw [show hNm (P_w T i) = false from decide_eq_false (by omega), if_neg (by decide), ha, hb, hc]
      rcases hj with rfl | rfl | rfl <;> rfl
    rw [e, p]
    exact ⟨fun z => by omega, fun z => by omega, fun _ _ _ => rfl, fun z => absurd rfl z, by decide, by decide⟩
  · rcases (by omega : P_w T i = 6 ∨ P_w T i = 12) with hw | hw
    · skip
      obtain ⟨⟨u0, p0⟩, ⟨u1, p1⟩, ⟨u2, p2⟩⟩ := wp_6 hw
      rcases hj with rfl | rfl | rfl
      · rw [u0, p0]
        refine ⟨fun z => ?_, fun z => ?_, fun z1 z2 z3 => ?_, fun z => ?_, by decide, by decide⟩ <;> first | omega | (unfold pE at ha hb; unfold pT at hb; omega) | (unfold pE at ha; unfold pT at hb; omega) | (unfold pE at ha hb; omega) | (unfold pT at ha hb; omega) | (unfold pE at ha; omega) | (unfold pT at ha; omega) | (unfold pE at ha; unfold pT at hb hc; omega) | (unfold pT at hc; omega) | exact ⟨hw, rfl, rfl⟩
      · rw [u1, p1]
        refine ⟨fun z => ?_, fun z => ?_, fun z1 z2 z3 => ?_, fun z => ?_, by decide, by decide⟩ <;> first | omega | (unfold pE at ha hb; unfold pT at hb; omega) | (unfold pE at ha; unfold pT at hb; omega) | (unfold pE at ha hb; omega) | (unfold pT at ha hb; omega) | (unfold pE at ha; omega) | (unfold pT at ha; omega) | (unfold pE at ha; unfold pT at hb hc; omega) | (unfold pT at hc; omega) | exact ⟨hw, rfl, rfl⟩
      · rw [u2, p2]
        refine ⟨fun z => ?_, fun z => ?_, fun z1 z2 z3 => ?_, fun z => ?_, by decide, by decide⟩ <;> first | omega | (unfold pE at ha hb; unfold pT at hb; omega) | (unfold pE at ha; unfold pT at hb; omega) | (unfold pE at ha hb; omega) | (unfold pT at ha hb; omega) | (unfold pE at ha; omega) | (unfold pT at ha; omega) | (unfold pE at ha; unfold pT at hb hc; omega) | (unfold pT at hc; omega) | exact ⟨hw, rfl, rfl⟩
    · skip
      obtain ⟨⟨u0, p0⟩, ⟨u1, p1⟩, ⟨u2, p2⟩⟩ := wp_12 hw
      rcases hj with rfl | rfl | rfl
      · rw [u0, p0]
        refine ⟨fun z => ?_, fun z => ?_, fun z1 z2 z3 => ?_, fun z => ?_, by decide, by decide⟩ <;> first | omega | (unfold pE at ha hb; unfold pT at hb; omega) | (unfold pE at ha; unfold pT at hb; omega) | (unfold pE at ha hb; omega) | (unfold pT at ha hb; omega) | (unfold pE at ha; omega) | (unfold pT at ha; omega) | (unfold pE at ha; unfold pT at hb hc; omega) | (unfold pT at hc; omega) | exact ⟨hw, rfl, rfl⟩
      · rw [u1, p1]
        refine ⟨fun z => ?_, fun z => ?_, fun z1 z2 z3 => ?_, fun z => ?_, by decide, by decide⟩ <;> first | omega | (unfold pE at ha hb; unfold pT at hb; omega) | (unfold pE at ha; unfold pT at hb; omega) | (unfold pE at ha hb; omega) | (unfold pT at ha hb; omega) | (unfold pE at ha; omega) | (unfold pT at ha; omega) | (unfold pE at ha; unfold pT at hb hc; omega) | (unfold pT at hc; omega) | exact ⟨hw, rfl, rfl⟩
      · rw [u2, p2]
        refine ⟨fun z => ?_, fun z => ?_, fun z1 z2 z3 => ?_, fun z => ?_, by decide, by decide⟩ <;> first | omega | (unfold pE at ha hb; unfold pT at hb; omega) | (unfold pE at ha; unfold pT at hb; omega) | (unfold pE at ha hb; omega) | (unfold pT at ha hb; omega) | (unfold pE at ha; omega) | (unfold pT at ha; omega) | (unfold pE at ha; unfold pT at hb hc; omega) | (unfold pT at hc; omega) | exact ⟨hw, rfl, rfl⟩
  · rcases (by omega : P_w T i = 0 ∨ P_w T i = 1 ∨ P_w T i = 2 ∨ P_w T i = 3 ∨ P_w T i = 4 ∨ P_w T i = 5) with hw | hw | hw | hw | hw | hw
    · skip
      obtain ⟨⟨u0, p0⟩, ⟨u1, p1⟩, ⟨u2, p2⟩⟩ := wp_0 hw
      rcases hj with rfl | rfl | rfl
      · rw [u0, p0]
        refine ⟨fun z => ?_, fun z => ?_, fun z1 z2 z3 => ?_, fun z => ?_, by decide, by decide⟩ <;> first | omega | (unfold pE at ha hb; unfold pT at hb; omega) | (unfold pE at ha; unfold pT at hb; omega) | (unfold pE at ha hb; omega) | (unfold pT at ha hb; omega) | (unfold pE at ha; omega) | (unfold pT at ha; omega) | (unfold pE at ha; unfold pT at hb hc; omega) | (unfold pT at hc; omega) | exact ⟨hw, rfl, rfl⟩
      · rw [u1, p1]
        refine ⟨fun z => ?_, fun z => ?_, fun z1 z2 z3 => ?_, fun z => ?_, by decide, by decide⟩ <;> first | omega | (unfold pE at ha hb; unfold pT at hb; omega) | (unfold pE at ha; unfold pT at hb; omega) | (unfold pE at ha hb; omega) | (unfold pT at ha hb; omega) | (unfold pE at ha; omega) | (unfold pT at ha; omega) | (unfold pE at ha; unfold pT at hb hc; omega) | (unfold pT at hc; omega) | exact ⟨hw, rfl, rfl⟩
      · rw [u2, p2]
        refine ⟨fun z => ?_, fun z => ?_, fun z1 z2 z3 => ?_, fun z => ?_, by decide, by decide⟩ <;> first | omega | (unfold pE at ha hb; unfold pT at hb; omega) | (unfold pE at ha; unfold pT at hb; omega) | (unfold pE at ha hb; omega) | (unfold pT at ha hb; omega) | (unfold pE at ha; omega) | (unfold pT at ha; omega) | (unfold pE at ha; unfold pT at hb hc; omega) | (unfold pT at hc; omega) | exact ⟨hw, rfl, rfl⟩
    · skip
      obtain ⟨⟨u0, p0⟩, ⟨u1, p1⟩, ⟨u2, p2⟩⟩ := wp_1 hw
      rcases hj with rfl | rfl | rfl
      · rw [u0, p0]
        refine ⟨fun z => ?_, fun z => ?_, fun z1 z2 z3 => ?_, fun z => ?_, by decide, by decide⟩ <;> first | omega | (unfold pE at ha hb; unfold pT at hb; omega) | (unfold pE at ha; unfold pT at hb; omega) | (unfold pE at ha hb; omega) | (unfold pT at ha hb; omega) | (unfold pE at ha; omega) | (unfold pT at ha; omega) | (unfold pE at ha; unfold pT at hb hc; omega) | (unfold pT at hc; omega) | exact ⟨hw, rfl, rfl⟩
      · rw [u1, p1]
        refine ⟨fun z => ?_, fun z => ?_, fun z1 z2 z3 => ?_, fun z => ?_, by decide, by decide⟩ <;> first | omega | (unfold pE at ha hb; unfold pT at hb; omega) | (unfold pE at ha; unfold pT at hb; omega) | (unfold pE at ha hb; omega) | (unfold pT at ha hb; omega) | (unfold pE at ha; omega) | (unfold pT at ha; omega) | (unfold pE at ha; unfold pT at hb hc; omega) | (unfold pT at hc; omega) | exact ⟨hw, rfl, rfl⟩
      · rw [u2, p2]
        refine ⟨fun z => ?_, fun z => ?_, fun z1 z2 z3 => ?_, fun z => ?_, by decide, by decide⟩ <;> first | omega | (unfold pE at ha hb; unfold pT at hb; omega) | (unfold pE at ha; unfold pT at hb; omega) | (unfold pE at ha hb; omega) | (unfold pT at ha hb; omega) | (unfold pE at ha; omega) | (unfold pT at ha; omega) | (unfold pE at ha; unfold pT at hb hc; omega) | (unfold pT at hc; omega) | exact ⟨hw, rfl, rfl⟩
    · skip
      obtain ⟨⟨u0, p0⟩, ⟨u1, p1⟩, ⟨u2, p2⟩⟩ := wp_2 hw
      rcases hj with rfl | rfl | rfl
      · rw [u0, p0]
        refine ⟨fun z => ?_, fun z => ?_, fun z1 z2 z3 => ?_, fun z => ?_, by decide, by decide⟩ <;> first | omega | (unfold pE at ha hb; unfold pT at hb; omega) | (unfold pE at ha; unfold pT at hb; omega) | (unfold pE at ha hb; omega) | (unfold pT at ha hb; omega) | (unfold pE at ha; omega) | (unfold pT at ha; omega) | (unfold pE at ha; unfold pT at hb hc; omega) | (unfold pT at hc; omega) | exact ⟨hw, rfl, rfl⟩
      · rw [u1, p1]
        refine ⟨fun z => ?_, fun z => ?_, fun z1 z2 z3 => ?_, fun z => ?_, by decide, by decide⟩ <;> first | omega | (unfold pE at ha hb; unfold pT at hb; omega) | (unfold pE at ha; unfold pT at hb; omega) | (unfold pE at ha hb; omega) | (unfold pT at ha hb; omega) | (unfold pE at ha; omega) | (unfold pT at ha; omega) | (unfold pE at ha; unfold pT at hb hc; omega) | (unfold pT at hc; omega) | exact ⟨hw, rfl, rfl⟩
      · rw [u2, p2]
        refine ⟨fun z => ?_, fun z => ?_, fun z1 z2 z3 => ?_, fun z => ?_, by decide, by decide⟩ <;> first | omega | (unfold pE at ha hb; unfold pT at hb; omega) | (unfold pE at ha; unfold pT at hb; omega) | (unfold pE at ha hb; omega) | (unfold pT at ha hb; omega) | (unfold pE at ha; omega) | (unfold pT at ha; omega) | (unfold pE at ha; unfold pT at hb hc; omega) | (unfold pT at hc; omega) | exact ⟨hw, rfl, rfl⟩
    · skip
      obtain ⟨⟨u0, p0⟩, ⟨u1, p1⟩, ⟨u2, p2⟩⟩ := wp_3 hw
      rcases hj with rfl | rfl | rfl
      · rw [u0, p0]
        refine ⟨fun z => ?_, fun z => ?_, fun z1 z2 z3 => ?_, fun z => ?_, by decide, by decide⟩ <;> first | omega | (unfold pE at ha hb; unfold pT at hb; omega) | (unfold pE at ha; unfold pT at hb; omega) | (unfold pE at ha hb; omega) | (unfold pT at ha hb; omega) | (unfold pE at ha; omega) | (unfold pT at ha; omega) | (unfold pE at ha; unfold pT at hb hc; omega) | (unfold pT at hc; omega) | exact ⟨hw, rfl, rfl⟩
      · rw [u1, p1]
        refine ⟨fun z => ?_, fun z => ?_, fun z1 z2 z3 => ?_, fun z => ?_, by decide, by decide⟩ <;> first | omega | (unfold pE at ha hb; unfold pT at hb; omega) | (unfold pE at ha; unfold pT at hb; omega) | (unfold pE at ha hb; omega) | (unfold pT at ha hb; omega) | (unfold pE at ha; omega) | (unfold pT at ha; omega) | (unfold pE at ha; unfold pT at hb hc; omega) | (unfold pT at hc; omega) | exact ⟨hw, rfl, rfl⟩
      · rw [u2, p2]
        refine ⟨fun z => ?_, fun z => ?_, fun z1 z2 z3 => ?_, fun z => ?_, by decide, by decide⟩ <;> first | omega | (unfold pE at ha hb; unfold pT at hb; omega) | (unfold pE at ha; unfold pT at hb; omega) | (unfold pE at ha hb; omega) | (unfold pT at ha hb; omega) | (unfold pE at ha; omega) | (unfold pT at ha; omega) | (unfold pE at ha; unfold pT at hb hc; omega) | (unfold pT at hc; omega) | exact ⟨hw, rfl, rfl⟩
    · skip
      obtain ⟨⟨u0, p0⟩, ⟨u1, p1⟩, ⟨u2, p2⟩⟩ := wp_4 hw
      rcases hj with rfl | rfl | rfl
      · rw [u0, p0]
        refine ⟨fun z => ?_, fun z => ?_, fun z1 z2 z3 => ?_, fun z => ?_, by decide, by decide⟩ <;> first | omega | (unfold pE at ha hb; unfold pT at hb; omega) | (unfold pE at ha; unfold pT at hb; omega) | (unfold pE at ha hb; omega) | (unfold pT at ha hb; omega) | (unfold pE at ha; omega) | (unfold pT at ha; omega) | (unfold pE at ha; unfold pT at hb hc; omega) | (unfold pT at hc; omega) | exact ⟨hw, rfl, rfl⟩
      · rw [u1, p1]
        refine ⟨fun z => ?_, fun z => ?_, fun z1 z2 z3 => ?_, fun z => ?_, by decide, by decide⟩ <;> first | omega | (unfold pE at ha hb; unfold pT at hb; omega) | (unfold pE at ha; unfold pT at hb; omega) | (unfold pE at ha hb; omega) | (unfold pT at ha hb; omega) | (unfold pE at ha; omega) | (unfold pT at ha; omega) | (unfold pE at ha; unfold pT at hb hc; omega) | (unfold pT at hc; omega) | exact ⟨hw, rfl, rfl⟩
      · rw [u2, p2]
        refine ⟨fun z => ?_, fun z => ?_, fun z1 z2 z3 => ?_, fun z => ?_, by decide, by decide⟩ <;> first | omega | (unfold pE at ha hb; unfold pT at hb; omega) | (unfold pE at ha; unfold pT at hb; omega) | (unfold pE at ha hb; omega) | (unfold pT at ha hb; omega) | (unfold pE at ha; omega) | (unfold pT at ha; omega) | (unfold pE at ha; unfold pT at hb hc; omega) | (unfold pT at hc; omega) | exact ⟨hw, rfl, rfl⟩
    · skip
      obtain ⟨⟨u0, p0⟩, ⟨u1, p1⟩, ⟨u2, p2⟩⟩ := wp_5 hw
      rcases hj with rfl | rfl | rfl
      · rw [u0, p0]
        refine ⟨fun z => ?_, fun z => ?_, fun z1 z2 z3 => ?_, fun z => ?_, by decide, by decide⟩ <;> first | omega | (unfold pE at ha hb; unfold pT at hb; omega) | (unfold pE at ha; unfold pT at hb; omega) | (unfold pE at ha hb; omega) | (unfold pT at ha hb; omega) | (unfold pE at ha; omega) | (unfold pT at ha; omega) | (unfold pE at ha; unfold pT at hb hc; omega) | (unfold pT at hc; omega) | exact ⟨hw, rfl, rfl⟩
      · rw [u1, p1]
        refine ⟨fun z => ?_, fun z => ?_, fun z1 z2 z3 => ?_, fun z => ?_, by decide, by decide⟩ <;> first | omega | (unfold pE at ha hb; unfold pT at hb; omega) | (unfold pE at ha; unfold pT at hb; omega) | (unfold pE at ha hb; omega) | (unfold pT at ha hb; omega) | (unfold pE at ha; omega) | (unfold pT at ha; omega) | (unfold pE at ha; unfold pT at hb hc; omega) | (unfold pT at hc; omega) | exact ⟨hw, rfl, rfl⟩
      · rw [u2, p2]
        refine ⟨fun z => ?_, fun z => ?_, fun z1 z2 z3 => ?_, fun z => ?_, by decide, by decide⟩ <;> first | omega | (unfold pE at ha hb; unfold pT at hb; omega) | (unfold pE at ha; unfold pT at hb; omega) | (unfold pE at ha hb; omega) | (unfold pT at ha hb; omega) | (unfold pE at ha; omega) | (unfold pT at ha; omega) | (unfold pE at ha; unfold pT at hb hc; omega) | (unfold pT at hc; omega) | exact ⟨hw, rfl, rfl⟩
  · have hw := h1
    obtain ⟨⟨u0, p0⟩, ⟨u1, p1⟩, ⟨u2, p2⟩⟩ := wp_10 hw
    rcases hj with rfl | rfl | rfl
    · rw [u0, p0]
      refine ⟨fun z => ?_, fun z => ?_, fun z1 z2 z3 => ?_, fun z => ?_, by decide, by decide⟩ <;> first | omega | (unfold pE at ha hb; unfold pT at hb; omega) | (unfold pE at ha; unfold pT at hb; omega) | (unfold pE at ha hb; omega) | (unfold pT at ha hb; omega) | (unfold pE at ha; omega) | (unfold pT at ha; omega) | (unfold pE at ha; unfold pT at hb hc; omega) | (unfold pT at hc; omega) | exact ⟨hw, rfl, rfl⟩
    · rw [u1, p1]
      refine ⟨fun z => ?_, fun z => ?_, fun z1 z2 z3 => ?_, fun z => ?_, by decide, by decide⟩ <;> first | omega | (unfold pE at ha hb; unfold pT at hb; omega) | (unfold pE at ha; unfold pT at hb; omega) | (unfold pE at ha hb; omega) | (unfold pT at ha hb; omega) | (unfold pE at ha; omega) | (unfold pT at ha; omega) | (unfold pE at ha; unfold pT at hb hc; omega) | (unfold pT at hc; omega) | exact ⟨hw, rfl, rfl⟩
    · rw [u2, p2]
      refine ⟨fun z => ?_, fun z => ?_, fun z1 z2 z3 => ?_, fun z => ?_, by decide, by decide⟩ <;> first | omega | (unfold pE at ha hb; unfold pT at hb; omega) | (unfold pE at ha; unfold pT at hb; omega) | (unfold pE at ha hb; omega) | (unfold pT at ha hb; omega) | (unfold pE at ha; omega) | (unfold pT at ha; omega) | (unfold pE at ha; unfold pT at hb hc; omega) | (unfold pT at hc; omega) | exact ⟨hw, rfl, rfl⟩
  · have hw := h1
    obtain ⟨⟨u0, p0⟩, ⟨u1, p1⟩, ⟨u2, p2⟩⟩ := wp_11 hw
    rcases hj with rfl | rfl | rfl
    · rw [u0, p0]
      refine ⟨fun z => ?_, fun z => ?_, fun z1 z2 z3 => ?_, fun z => ?_, by decide, by decide⟩ <;> first | omega | (unfold pE at ha hb; unfold pT at hb; omega) | (unfold pE at ha; unfold pT at hb; omega) | (unfold pE at ha hb; omega) | (unfold pT at ha hb; omega) | (unfold pE at ha; omega) | (unfold pT at ha; omega) | (unfold pE at ha; unfold pT at hb hc; omega) | (unfold pT at hc; omega) | exact ⟨hw, rfl, rfl⟩
    · rw [u1, p1]
      refine ⟨fun z => ?_, fun z => ?_, fun z1 z2 z3 => ?_, fun z => ?_, by decide, by decide⟩ <;> first | omega | (unfold pE at ha hb; unfold pT at hb; omega) | (unfold pE at ha; unfold pT at hb; omega) | (unfold pE at ha hb; omega) | (unfold pT at ha hb; omega) | (unfold pE at ha; omega) | (unfold pT at ha; omega) | (unfold pE at ha; unfold pT at hb hc; omega) | (unfold pT at hc; omega) | exact ⟨hw, rfl, rfl⟩
    · rw [u2, p2]
      refine ⟨fun z => ?_, fun z => ?_, fun z1 z2 z3 => ?_, fun z => ?_, by decide, by decide⟩ <;> first | omega | (unfold pE at ha hb; unfold pT at hb; omega) | (unfold pE at ha; unfold pT at hb; omega) | (unfold pE at ha hb; omega) | (unfold pT at ha hb; omega) | (unfold pE at ha; omega) | (unfold pT at ha; omega) | (unfold pE at ha; unfold pT at hb hc; omega) | (unfold pT at hc; omega) | exact ⟨hw, rfl, rfl⟩
  · have hw := h1
    obtain ⟨⟨u0, p0⟩, ⟨u1, p1⟩, ⟨u2, p2⟩⟩ := wp_13 hw
    rcases hj with rfl | rfl | rfl
    · rw [u0, p0]
      refine ⟨fun z => ?_, fun z => ?_, fun z1 z2 z3 => ?_, fun z => ?_, by decide, by decide⟩ <;> first | omega | (unfold pE at ha hb; unfold pT at hb; omega) | (unfold pE at ha; unfold pT at hb; omega) | (unfold pE at ha hb; omega) | (unfold pT at ha hb; omega) | (unfold pE at ha; omega) | (unfold pT at ha; omega) | (unfold pE at ha; unfold pT at hb hc; omega) | (unfold pT at hc; omega) | exact ⟨hw, rfl, rfl⟩
    · rw [u1, p1]
      refine ⟨fun z => ?_, fun z => ?_, fun z1 z2 z3 => ?_, fun z => ?_, by decide, by decide⟩ <;> first | omega | (unfold pE at ha hb; unfold pT at hb; omega) | (unfold pE at ha; unfold pT at hb; omega) | (unfold pE at ha hb; omega) | (unfold pT at ha hb; omega) | (unfold pE at ha; omega) | (unfold pT at ha; omega) | (unfold pE at ha; unfold pT at hb hc; omega) | (unfold pT at hc; omega) | exact ⟨hw, rfl, rfl⟩
    · rw [u2, p2]
      refine ⟨fun z => ?_, fun z => ?_, fun z1 z2 z3 => ?_, fun z => ?_, by decide, by decide⟩ <;> first | omega | (unfold pE at ha hb; unfold pT at hb; omega) | (unfold pE at ha; unfold pT at hb; omega) | (unfold pE at ha hb; omega) | (unfold pT at ha hb; omega) | (unfold pE at ha; omega) | (unfold pT at ha; omega) | (unfold pE at ha; unfold pT at hb hc; omega) | (unfold pT at hc; omega) | exact ⟨hw, rfl, rfl⟩
  · rcases (by omega : P_w T i = 14 ∨ P_w T i = 18) with hw | hw
    · skip
      obtain ⟨⟨u0, p0⟩, ⟨u1, p1⟩, ⟨u2, p2⟩⟩ := wp_14 hw
      rcases hj with rfl | rfl | rfl
      · rw [u0, p0]
        refine ⟨fun z => ?_, fun z => ?_, fun z1 z2 z3 => ?_, fun z => ?_, by decide, by decide⟩ <;> first | omega | (unfold pE at ha hb; unfold pT at hb; omega) | (unfold pE at ha; unfold pT at hb; omega) | (unfold pE at ha hb; omega) | (unfold pT at ha hb; omega) | (unfold pE at ha; omega) | (unfold pT at ha; omega) | (unfold pE at ha; unfold pT at hb hc; omega) | (unfold pT at hc; omega) | exact ⟨hw, rfl, rfl⟩
      · rw [u1, p1]
        refine ⟨fun z => ?_, fun z => ?_, fun z1 z2 z3 => ?_, fun z => ?_, by decide, by decide⟩ <;> first | omega | (unfold pE at ha hb; unfold pT at hb; omega) | (unfold pE at ha; unfold pT at hb; omega) | (unfold pE at ha hb; omega) | (unfold pT at ha hb; omega) | (unfold pE at ha; omega) | (unfold pT at ha; omega) | (unfold pE at ha; unfold pT at hb hc; omega) | (unfold pT at hc; omega) | exact ⟨hw, rfl, rfl⟩
      · rw [u2, p2]
        refine ⟨fun z => ?_, fun z => ?_, fun z1 z2 z3 => ?_, fun z => ?_, by decide, by decide⟩ <;> first | omega | (unfold pE at ha hb; unfold pT at hb; omega) | (unfold pE at ha; unfold pT at hb; omega) | (unfold pE at ha hb; omega) | (unfold pT at ha hb; omega) | (unfold pE at ha; omega) | (unfold pT at ha; omega) | (unfold pE at ha; unfold pT at hb hc; omega) | (unfold pT at hc; omega) | exact ⟨hw, rfl, rfl⟩
    · skip
      obtain ⟨⟨u0, p0⟩, ⟨u1, p1⟩, ⟨u2, p2⟩⟩ := wp_18 hw
      rcases hj with rfl | rfl | rfl
      · rw [u0, p0]
        refine ⟨fun z => ?_, fun z => ?_, fun z1 z2 z3 => ?_, fun z => ?_, by decide, by decide⟩ <;> first | omega | (unfold pE at ha hb; unfold pT at hb; omega) | (unfold pE at ha; unfold pT at hb; omega) | (unfold pE at ha hb; omega) | (unfold pT at ha hb; omega) | (unfold pE at ha; omega) | (unfold pT at ha; omega) | (unfold pE at ha; unfold pT at hb hc; omega) | (unfold pT at hc; omega) | exact ⟨hw, rfl, rfl⟩
      · rw [u1, p1]
        refine ⟨fun z => ?_, fun z => ?_, fun z1 z2 z3 => ?_, fun z => ?_, by decide, by decide⟩ <;> first | omega | (unfold pE at ha hb; unfold pT at hb; omega) | (unfold pE at ha; unfold pT at hb; omega) | (unfold pE at ha hb; omega) | (unfold pT at ha hb; omega) | (unfold pE at ha; omega) | (unfold pT at ha; omega) | (unfold pE at ha; unfold pT at hb hc; omega) | (unfold pT at hc; omega) | exact ⟨hw, rfl, rfl⟩
      · rw [u2, p2]
        refine ⟨fun z => ?_, fun z => ?_, fun z1 z2 z3 => ?_, fun z => ?_, by decide, by decide⟩ <;> first | omega | (unfold pE at ha hb; unfold pT at hb; omega) | (unfold pE at ha; unfold pT at hb; omega) | (unfold pE at ha hb; omega) | (unfold pT at ha hb; omega) | (unfold pE at ha; omega) | (unfold pT at ha; omega) | (unfold pE at ha; unfold pT at hb hc; omega) | (unfold pT at hc; omega) | exact ⟨hw, rfl, rfl⟩
  · have hw := h1
    obtain ⟨⟨u0, p0⟩, ⟨u1, p1⟩, ⟨u2, p2⟩⟩ := wp_15 hw
    rcases hj with rfl | rfl | rfl
    · rw [u0, p0]
      refine ⟨fun z => ?_, fun z => ?_, fun z1 z2 z3 => ?_, fun z => ?_, by decide, by decide⟩ <;> first | omega | (unfold pE at ha hb; unfold pT at hb; omega) | (unfold pE at ha; unfold pT at hb; omega) | (unfold pE at ha hb; omega) | (unfold pT at ha hb; omega) | (unfold pE at ha; omega) | (unfold pT at ha; omega) | (unfold pE at ha; unfold pT at hb hc; omega) | (unfold pT at hc; omega) | exact ⟨hw, rfl, rfl⟩
    · rw [u1, p1]
      refine ⟨fun z => ?_, fun z => ?_, fun z1 z2 z3 => ?_, fun z => ?_, by decide, by decide⟩ <;> first | omega | (unfold pE at ha hb; unfold pT at hb; omega) | (unfold pE at ha; unfold pT at hb; omega) | (unfold pE at ha hb; omega) | (unfold pT at ha hb; omega) | (unfold pE at ha; omega) | (unfold pT at ha; omega) | (unfold pE at ha; unfold pT at hb hc; omega) | (unfold pT at hc; omega) | exact ⟨hw, rfl, rfl⟩
    · rw [u2, p2]
      refine ⟨fun z => ?_, fun z => ?_, fun z1 z2 z3 => ?_, fun z => ?_, by decide, by decide⟩ <;> first | omega | (unfold pE at ha hb; unfold pT at hb; omega) | (unfold pE at ha; unfold pT at hb; omega) | (unfold pE at ha hb; omega) | (unfold pT at ha hb; omega) | (unfold pE at ha; omega) | (unfold pT at ha; omega) | (unfold pE at ha; unfold pT at hb hc; omega) | (unfold pT at hc; omega) | exact ⟨hw, rfl, rfl⟩
  · have hw := h1
    obtain ⟨⟨u0, p0⟩, ⟨u1, p1⟩, ⟨u2, p2⟩⟩ := wp_16 hw
    rcases hj with rfl | rfl | rfl
    · rw [u0, p0]
      refine ⟨fun z => ?_, fun z => ?_, fun z1 z2 z3 => ?_, fun z => ?_, by decide, by decide⟩ <;> first | omega | (unfold pE at ha hb; unfold pT at hb; omega) | (unfold pE at ha; unfold pT at hb; omega) | (unfold pE at ha hb; omega) | (unfold pT at ha hb; omega) | (unfold pE at ha; omega) | (unfold pT at ha; omega) | (unfold pE at ha; unfold pT at hb hc; omega) | (unfold pT at hc; omega) | exact ⟨hw, rfl, rfl⟩
    · rw [u1, p1]
      refine ⟨fun z => ?_, fun z => ?_, fun z1 z2 z3 => ?_, fun z => ?_, by decide, by decide⟩ <;> first | omega | (unfold pE at ha hb; unfold pT at hb; omega) | (unfold pE at ha; unfold pT at hb; omega) | (unfold pE at ha hb; omega) | (unfold pT at ha hb; omega) | (unfold pE at ha; omega) | (unfold pT at ha; omega) | (unfold pE at ha; unfold pT at hb hc; omega) | (unfold pT at hc; omega) | exact ⟨hw, rfl, rfl⟩
    · rw [u2, p2]
      refine ⟨fun z => ?_, fun z => ?_, fun z1 z2 z3 => ?_, fun z => ?_, by decide, by decide⟩ <;> first | omega | (unfold pE at ha hb; unfold pT at hb; omega) | (unfold pE at ha; unfold pT at hb; omega) | (unfold pE at ha hb; omega) | (unfold pT at ha hb; omega) | (unfold pE at ha; omega) | (unfold pT at ha; omega) | (unfold pE at ha; unfold pT at hb hc; omega) | (unfold pT at hc; omega) | exact ⟨hw, rfl, rfl⟩
  · have hw := h1
    obtain ⟨⟨u0, p0⟩, ⟨u1, p1⟩, ⟨u2, p2⟩⟩ := wp_17 hw
    rcases hj with rfl | rfl | rfl
    · rw [u0, p0]
      refine ⟨fun z => ?_, fun z => ?_, fun z1 z2 z3 => ?_, fun z => ?_, by decide, by decide⟩ <;> first | omega | (unfold pE at ha hb; unfold pT at hb; omega) | (unfold pE at ha; unfold pT at hb; omega) | (unfold pE at ha hb; omega) | (unfold pT at ha hb; omega) | (unfold pE at ha; omega) | (unfold pT at ha; omega) | (unfold pE at ha; unfold pT at hb hc; omega) | (unfold pT at hc; omega) | exact ⟨hw, rfl, rfl⟩
    · rw [u1, p1]
      refine ⟨fun z => ?_, fun z => ?_, fun z1 z2 z3 => ?_, fun z => ?_, by decide, by decide⟩ <;> first | omega | (unfold pE at ha hb; unfold pT at hb; omega) | (unfold pE at ha; unfold pT at hb; omega) | (unfold pE at ha hb; omega) | (unfold pT at ha hb; omega) | (unfold pE at ha; omega) | (unfold pT at ha; omega) | (unfold pE at ha; unfold pT at hb hc; omega) | (unfold pT at hc; omega) | exact ⟨hw, rfl, rfl⟩
    · rw [u2, p2]
      refine ⟨fun z => ?_, fun z => ?_, fun z1 z2 z3 => ?_, fun z => ?_, by decide, by decide⟩ <;> first | omega | (unfold pE at ha hb; unfold pT at hb; omega) | (unfold pE at ha; unfold pT at hb; omega) | (unfold pE at ha hb; omega) | (unfold pT at ha hb; omega) | (unfold pE at ha; omega) | (unfold pT at ha; omega) | (unfold pE at ha; unfold pT at hb hc; omega) | (unfold pT at hc; omega) | exact ⟨hw, rfl, rfl⟩
  · have hw := h1
    obtain ⟨⟨u0, p0⟩, ⟨u1, p1⟩, ⟨u2, p2⟩⟩ := wp_19 hw
    rcases hj with rfl | rfl | rfl
    · rw [u0, p0]
      refine ⟨fun z => ?_, fun z => ?_, fun z1 z2 z3 => ?_, fun z => ?_, by decide, by decide⟩ <;> first | omega | (unfold pE at ha hb; unfold pT at hb; omega) | (unfold pE at ha; unfold pT at hb; omega) | (unfold pE at ha hb; omega) | (unfold pT at ha hb; omega) | (unfold pE at ha; omega) | (unfold pT at ha; omega) | (unfold pE at ha; unfold pT at hb hc; omega) | (unfold pT at hc; omega) | exact ⟨hw, rfl, rfl⟩
    · rw [u1, p1]
      refine ⟨fun z => ?_, fun z => ?_, fun z1 z2 z3 => ?_, fun z => ?_, by decide, by decide⟩ <;> first | omega | (unfold pE at ha hb; unfold pT at hb; omega) | (unfold pE at ha; unfold pT at hb; omega) | (unfold pE at ha hb; omega) | (unfold pT at ha hb; omega) | (unfold pE at ha; omega) | (unfold pT at ha; omega) | (unfold pE at ha; unfold pT at hb hc; omega) | (unfold pT at hc; omega) | exact ⟨hw, rfl, rfl⟩
    · rw [u2, p2]
      refine ⟨fun z => ?_, fun z => ?_, fun z1 z2 z3 => ?_, fun z => ?_, by decide, by decide⟩ <;> first | omega | (unfold pE at ha hb; unfold pT at hb; omega) | (unfold pE at ha; unfold pT at hb; omega) | (unfold pE at ha hb; omega) | (unfold pT at ha hb; omega) | (unfold pE at ha; omega) | (unfold pT at ha; omega) | (unfold pE at ha; unfold pT at hb hc; omega) | (unfold pT at hc; omega) | exact ⟨hw, rfl, rfl⟩
  · have hw := h1
    obtain ⟨⟨u0, p0⟩, ⟨u1, p1⟩, ⟨u2, p2⟩⟩ := wp_20 hw
    rcases hj with rfl | rfl | rfl
    · rw [u0, p0]
      refine ⟨fun z => ?_, fun z => ?_, fun z1 z2 z3 => ?_, fun z => ?_, by decide, by decide⟩ <;> first | omega | (unfold pE at ha hb; unfold pT at hb; omega) | (unfold pE at ha; unfold pT at hb; omega) | (unfold pE at ha hb; omega) | (unfold pT at ha hb; omega) | (unfold pE at ha; omega) | (unfold pT at ha; omega) | (unfold pE at ha; unfold pT at hb hc; omega) | (unfold pT at hc; omega) | exact ⟨hw, rfl, rfl⟩
    · rw [u1, p1]
      refine ⟨fun z => ?_, fun z => ?_, fun z1 z2 z3 => ?_, fun z => ?_, by decide, by decide⟩ <;> first | omega | (unfold pE at ha hb; unfold pT at hb; omega) | (unfold pE at ha; unfold pT at hb; omega) | (unfold pE at ha hb; omega) | (unfold pT at ha hb; omega) | (unfold pE at ha; omega) | (unfold pT at ha; omega) | (unfold pE at ha; unfold pT at hb hc; omega) | (unfold pT at hc; omega) | exact ⟨hw, rfl, rfl⟩
    · rw [u2, p2]
      refine ⟨fun z => ?_, fun z => ?_, fun z1 z2 z3 => ?_, fun z => ?_, by decide, by decide⟩ <;> first | omega | (unfold pE at ha hb; unfold pT at hb; omega) | (unfold pE at ha; unfold pT at hb; omega) | (unfold pE at ha hb; omega) | (unfold pT at ha hb; omega) | (unfold pE at ha; omega) | (unfold pT at ha; omega) | (unfold pE at ha; unfold pT at hb hc; omega) | (unfold pT at hc; omega) | exact ⟨hw, rfl, rfl⟩
  · have hw := h1
    obtain ⟨⟨u0, p0⟩, ⟨u1, p1⟩, ⟨u2, p2⟩⟩ := wp_21 hw
    rcases hj with rfl | rfl | rfl
    · rw [u0, p0]
      refine ⟨fun z => ?_, fun z => ?_, fun z1 z2 z3 => ?_, fun z => ?_, by decide, by decide⟩ <;> first | omega | (unfold pE at ha hb; unfold pT at hb; omega) | (unfold pE at ha; unfold pT at hb; omega) | (unfold pE at ha hb; omega) | (unfold pT at ha hb; omega) | (unfold pE at ha; omega) | (unfold pT at ha; omega) | (unfold pE at ha; unfold pT at hb hc; omega) | (unfold pT at hc; omega) | exact ⟨hw, rfl, rfl⟩
    · rw [u1, p1]
      refine ⟨fun z => ?_, fun z => ?_, fun z1 z2 z3 => ?_, fun z => ?_, by decide, by decide⟩ <;> first | omega | (unfold pE at ha hb; unfold pT at hb; omega) | (unfold pE at ha; unfold pT at hb; omega) | (unfold pE at ha hb; omega) | (unfold pT at ha hb; omega) | (unfold pE at ha; omega) | (unfold pT at ha; omega) | (unfold pE at ha; unfold pT at hb hc; omega) | (unfold pT at hc; omega) | exact ⟨hw, rfl, rfl⟩
    · rw [u2, p2]
      refine ⟨fun z => ?_, fun z => ?_, fun z1 z2 z3 => ?_, fun z => ?_, by decide, by decide⟩ <;> first | omega | (unfold pE at ha hb; unfold pT at hb; omega) | (unfold pE at ha; unfold pT at hb; omega) | (unfold pE at ha hb; omega) | (unfold pT at ha hb; omega) | (unfold pE at ha; omega) | (unfold pT at ha; omega) | (unfold pE at ha; unfold pT at hb hc; omega) | (unfold pT at hc; omega) | exact ⟨hw, rfl, rfl⟩
end CND
