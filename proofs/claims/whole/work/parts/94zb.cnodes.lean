/-! THE CLASS'S NODES: what is asked of them -/
def fitA (T : PT) (x p : Int) : Bool := if x = 1 then eE T p else if x = 2 then eS T p else if x = 3 then (decide (p = -1) || eS T p) else if x = 4 then i8 8 p else if x = 5 then i8 16 p else if x = 6 then i8 8 p else true
theorem NK_w {T : PT} {i : Int} (h : NK T i) : (0 ≤ P_w T i ∧ P_w T i ≤ 21) ∨ (100 ≤ P_w T i ∧ P_w T i ≤ 102) := by
  rcases h with ⟨h1, h2, _⟩ | ⟨h1, _⟩ | ⟨h1, _⟩ | ⟨h1, _⟩ | ⟨h1, _⟩ | ⟨h1, _⟩ | ⟨h1, _⟩ | ⟨h1, _⟩ | ⟨h1, _⟩ | ⟨h1, _⟩ | ⟨h1, _⟩ | ⟨h1, _⟩ | ⟨h1, _⟩ <;> omega
section CNE
variable {o : X_O} {T : PT} {s : Q_S} {i : Int}
theorem d_22 (ho : o 1 = some (66, fun i => x_WANTED.getD i 0)) {r : Nat} {k j : Int} (hk : q_in k) (k0 : 0 ≤ k) (j0 : 0 ≤ j) (j3 : j < 3) : QW (fun n => g_22 o n 0 s r k j 0) (fun q => q = (s, wnt k j)) := by
  unfold wnt
  refine QW_s ?_
  simp only [g_22]
  refine QW_g hk ?_
  refine QW_by (fun z => ?_) (fun z => ?_)
  · rw [if_pos z]
    refine QW_s ?_
    simp only [g_22]
    exact QW_ret rfl
  · rw [if_neg z]
    refine QW_p (k_oa ho (by omega) (by omega) (by decide)) ?_
    refine QW_s ?_
    simp only [g_22]
    exact QW_ret rfl
theorem d_25 (hs : SH s) (hn : 0 ≤ P_n T ∧ P_n T ≤ 300) (h4 : q_F s 1 4 = P_n T) (hi : q_in i) : QW (fun n => g_25 o n 0 s 1 i 0) (fun q => q = (s, if 0 ≤ i ∧ i < P_n T then 1 else 0)) := by
  have K1 : ¬ (0 ≤ i ∧ i < P_n T) → QW (fun n => g_25 o n 1 s 0 0 0) (fun q => q = (s, if 0 ≤ i ∧ i < P_n T then 1 else 0)) := fun z => by
    rw [if_neg z]
    refine QW_s ?_
    simp only [g_25]
    refine QW_s ?_
    simp only [g_25]
    refine QW_g (by decide) ?_
    exact QW_ret rfl
  refine QW_s ?_
  simp only [g_25]
  refine QW_g hi ?_
  refine QW_by (fun c1 => K1 (by omega)) (fun c1 => ?_)
  refine QW_p (k_gi (hs _ _ rfl) rfl) ?_
  rw [h4]
  refine QW_g ⟨hi, by unfold q_in; omega⟩ ?_
  refine QW_by (fun c2 => K1 (by omega)) (fun c2 => ?_)
  rw [if_pos (by omega)]
  refine QW_s ?_
  simp only [g_25]
  refine QW_g (by decide) ?_
  exact QW_ret rfl
theorem ck_lt {w : Int} (h : (0 ≤ w ∧ w ≤ 21) ∨ (100 ≤ w ∧ w ≤ 102)) : q_in (ck w) ∧ 0 ≤ ck w ∧ (ck w < 10 ↔ w < 10) ∧ (ck w < 30 ↔ w < 100) ∧ (ck w < 22 ↔ w < 100) := by
  unfold ck q_in
  by_cases z : 100 ≤ w
  · rw [if_pos z]; omega
  · rw [if_neg z]; omega
theorem d_24 (hs : SH s) (hN : NRc T s) (hV : NV T) (hi : q_in i) : QW (fun n => g_24 o n 0 s 1 i 0) (fun q => q = (s, if eE T i = true then 1 else 0)) := by
  obtain ⟨n0, n1, h4, hr, _⟩ := hN
  have eq : (eE T i = true) ↔ (0 ≤ i ∧ i < P_n T ∧ (P_w T i < 10 ∨ 100 ≤ P_w T i)) := decide_eq_true_iff
  have K1 : eE T i = true → QW (fun n => g_24 o n 1 s 0 0 0) (fun q => q = (s, if eE T i = true then 1 else 0)) := fun z => by
    rw [if_pos z]
    refine QW_s ?_
    simp only [g_24]
    refine QW_s ?_
    simp only [g_24]
    refine QW_g (by decide) ?_
    exact QW_ret rfl
  have K2 : ¬ eE T i = true → QW (fun n => g_24 o n 2 s 0 0 0) (fun q => q = (s, if eE T i = true then 1 else 0)) := fun z => by
    rw [if_neg z]
    refine QW_s ?_
    simp only [g_24]
    refine QW_s ?_
    simp only [g_24]
    refine QW_g (by decide) ?_
    exact QW_ret rfl
  refine QW_s ?_
  simp only [g_24]
  refine QW_p (k_rc (hs _ _ rfl)) ?_
  refine QW_e (d_25 hs ⟨n0, n1⟩ h4 hi) ?_
  refine QW_g qin01 ?_
  refine QW_by (fun z => K2 (by rw [i10] at z; rw [eq]; omega)) (fun z => ?_)
  have zi : 0 ≤ i ∧ i < P_n T := by
    rw [i10] at z
    omega
  have k := ck_lt (NK_w (hV i zi.1 zi.2))
  have e := (hr i zi.1 zi.2).1.1
  refine QW_p (k_gv (hs _ _ rfl) rfl rfl) ?_
  refine QW_p (k_ia (hs _ _ rfl) (by omega) (by omega) (by decide)) ?_
  rw [e]
  refine QW_g k.1 ?_
  refine QW_by (fun c3 => K1 (by rw [eq]; omega)) (fun c3 => ?_)
  refine QW_p (k_gv (hs _ _ rfl) rfl rfl) ?_
  refine QW_p (k_ia (hs _ _ rfl) (by omega) (by omega) (by decide)) ?_
  rw [e]
  refine QW_g k.1 ?_
  exact QW_by (fun c4 => K2 (by rw [eq]; omega)) (fun c4 => K1 (by rw [eq]; omega))
theorem d_26 (hs : SH s) (hN : NRc T s) (hV : NV T) (hi : q_in i) : QW (fun n => g_26 o n 0 s 1 i 0) (fun q => q = (s, if eS T i = true then 1 else 0)) := by
  obtain ⟨n0, n1, h4, hr, _⟩ := hN
  have eq : (eS T i = true) ↔ (0 ≤ i ∧ i < P_n T ∧ ¬ (P_w T i < 10 ∨ 100 ≤ P_w T i)) := decide_eq_true_iff
  have K2 : ¬ eS T i = true → QW (fun n => g_26 o n 1 s 0 0 0) (fun q => q = (s, if eS T i = true then 1 else 0)) := fun z => by
    rw [if_neg z]
    refine QW_s ?_
    simp only [g_26]
    refine QW_s ?_
    simp only [g_26]
    refine QW_g (by decide) ?_
    exact QW_ret rfl
  refine QW_s ?_
  simp only [g_26]
  refine QW_p (k_rc (hs _ _ rfl)) ?_
  refine QW_e (d_25 hs ⟨n0, n1⟩ h4 hi) ?_
  refine QW_g qin01 ?_
  refine QW_by (fun z => K2 (by rw [i10] at z; rw [eq]; omega)) (fun z => ?_)
  have zi : 0 ≤ i ∧ i < P_n T := by
    rw [i10] at z
    omega
  have k := ck_lt (NK_w (hV i zi.1 zi.2))
  have e := (hr i zi.1 zi.2).1.1
  refine QW_p (k_gv (hs _ _ rfl) rfl rfl) ?_
  refine QW_p (k_ia (hs _ _ rfl) (by omega) (by omega) (by decide)) ?_
  rw [e]
  refine QW_g k.1 ?_
  refine QW_by (fun c3 => K2 (by rw [eq]; omega)) (fun c3 => ?_)
  refine QW_p (k_gv (hs _ _ rfl) rfl rfl) ?_
  refine QW_p (k_ia (hs _ _ rfl) (by omega) (by omega) (by decide)) ?_
  rw [e]
  refine QW_g k.1 ?_
  refine QW_by (fun c4 => K2 (by rw [eq]; omega)) (fun c4 => ?_)
  have yes : eS T i = true := by rw [eq]; omega
  refine QW_s ?_
  simp only [g_26]
  refine QW_g (by decide) ?_
  refine QW_ret ?_
  rw [if_pos yes]
theorem d_23 (hs : SH s) (hN : NRc T s) (hV : NV T) {x p : Int} (hx : q_in x) (hp : q_in p) : QW (fun n => g_23 o n 0 s 1 x p 0) (fun q => q = (s, if fitA T x p = true then 1 else 0)) := by
  refine QW_s ?_
  simp only [g_23]
  refine QW_g hx ?_
  refine QW_by (fun z => ?_) (fun z => ?_)
  · have e : fitA T x p = true := by
      unfold fitA
      rw [if_neg (by omega), if_neg (by omega), if_neg (by omega), if_neg (by omega), if_neg (by omega), if_neg (by omega)]
    rw [if_pos e]
    exact QW_ret rfl
  refine QW_by (fun z1 => ?_) (fun z1 => ?_)
  · have e : fitA T x p = eE T p := by unfold fitA; rw [if_pos z1]
    rw [e]
    refine QW_p (k_rc (hs _ _ rfl)) ?_
    refine QW_e (d_24 hs hN hV hp) ?_
    refine QW_g if01 ?_
    exact QW_ret rfl
  refine QW_by (fun z2 => ?_) (fun z2 => ?_)
  · have e : fitA T x p = eS T p := by unfold fitA; rw [if_neg z1, if_pos z2]
    rw [e]
    refine QW_p (k_rc (hs _ _ rfl)) ?_
    refine QW_e (d_26 hs hN hV hp) ?_
    refine QW_g if01 ?_
    exact QW_ret rfl
  refine QW_by (fun z3 => ?_) (fun z3 => ?_)
  · have e : fitA T x p = (decide (p = -1) || eS T p) := by unfold fitA; rw [if_neg z1, if_neg z2, if_pos z3]
    rw [e]
    have K1 : (decide (p = -1) || eS T p) = true → QW (fun n => g_23 o n 1 s 0 0 0 0) (fun q => q = (s, if (decide (p = -1) || eS T p) = true then 1 else 0)) := fun y => by
      rw [if_pos y]
      refine QW_s ?_
      simp only [g_23]
      refine QW_s ?_
      simp only [g_23]
      refine QW_g (by decide) ?_
      exact QW_ret rfl
    refine QW_g hp ?_
    refine QW_by (fun y => K1 (by rw [decide_eq_true y]; rfl)) (fun y => ?_)
    refine QW_p (k_rc (hs _ _ rfl)) ?_
    refine QW_e (d_26 hs hN hV hp) ?_
    refine QW_g qin01 ?_
    refine QW_by (fun u => ?_) (fun u => K1 (by rw [tt 0 u, Bool.or_true]))
    rw [if_neg (show ¬ (decide (p = -1) || eS T p) = true by rw [ff 0 u, decide_eq_false y]; decide)]
    refine QW_s ?_
    simp only [g_23]
    refine QW_g (by decide) ?_
    exact QW_ret rfl
  refine QW_by (fun z4 => ?_) (fun z4 => ?_)
  · have e : fitA T x p = i8 8 p := by unfold fitA; rw [if_neg z1, if_neg z2, if_neg z3, if_pos z4]
    rw [e]
    have K1 : ¬ (0 ≤ p ∧ p < 8) → QW (fun n => g_23 o n 3 s 0 0 0 0) (fun q => q = (s, if i8 8 p = true then 1 else 0)) := fun y => by
      rw [show i8 8 p = false from decide_eq_false y, if_neg (by decide)]
      refine QW_s ?_
      simp only [g_23]
      refine QW_s ?_
      simp only [g_23]
      refine QW_g (by decide) ?_
      exact QW_ret rfl
    refine QW_g hp ?_
    refine QW_by (fun y => K1 (by omega)) (fun y => ?_)
    refine QW_g hp ?_
    refine QW_by (fun u => K1 (by omega)) (fun u => ?_)
    rw [show i8 8 p = true from decide_eq_true (by omega), if_pos rfl]
    refine QW_s ?_
    simp only [g_23]
    refine QW_g (by decide) ?_
    exact QW_ret rfl
  refine QW_by (fun z5 => ?_) (fun z5 => ?_)
  · have e : fitA T x p = i8 16 p := by unfold fitA; rw [if_neg z1, if_neg z2, if_neg z3, if_neg z4, if_pos z5]
    rw [e]
    have K1 : ¬ (0 ≤ p ∧ p < 16) → QW (fun n => g_23 o n 7 s 0 0 0 0) (fun q => q = (s, if i8 16 p = true then 1 else 0)) := fun y => by
      rw [show i8 16 p = false from decide_eq_false y, if_neg (by decide)]
      refine QW_s ?_
      simp only [g_23]
      refine QW_s ?_
      simp only [g_23]
      refine QW_g (by decide) ?_
      exact QW_ret rfl
    refine QW_g hp ?_
    refine QW_by (fun y => K1 (by omega)) (fun y => ?_)
    refine QW_g hp ?_
    refine QW_by (fun u => K1 (by omega)) (fun u => ?_)
    rw [show i8 16 p = true from decide_eq_true (by omega), if_pos rfl]
    refine QW_s ?_
    simp only [g_23]
    refine QW_g (by decide) ?_
    exact QW_ret rfl
  refine QW_it (by omega) ?_
  have z6 : x = 6 := by omega
  have e : fitA T x p = i8 8 p := by unfold fitA; rw [if_neg z1, if_neg z2, if_neg z3, if_neg z4, if_neg z5, if_pos z6]
  rw [e]
  have K1 : ¬ (0 ≤ p ∧ p < 8) → QW (fun n => g_23 o n 5 s 0 0 0 0) (fun q => q = (s, if i8 8 p = true then 1 else 0)) := fun y => by
    rw [show i8 8 p = false from decide_eq_false y, if_neg (by decide)]
    refine QW_s ?_
    simp only [g_23]
    refine QW_s ?_
    simp only [g_23]
    refine QW_g (by decide) ?_
    exact QW_ret rfl
  refine QW_g hp ?_
  refine QW_by (fun y => K1 (by omega)) (fun y => ?_)
  refine QW_g hp ?_
  refine QW_by (fun u => K1 (by omega)) (fun u => ?_)
  rw [show i8 8 p = true from decide_eq_true (by omega), if_pos rfl]
  refine QW_s ?_
  simp only [g_23]
  refine QW_g (by decide) ?_
  exact QW_ret rfl
/-- hasPlaces -/
theorem d_28 (ho : o 1 = some (66, fun i => x_WANTED.getD i 0)) (hs : SH s) (hK : NK T i) (hR : NCr T s i) (i0 : 0 ≤ i ∧ i < 300) {j : Int} (j0 : 0 ≤ j) (j3 : j < 3) : QW (fun n => g_28 o n 0 s 1 i j 0) (fun q => q = (s, if prt T i j = -1 then 0 else 1)) := by
  obtain ⟨r1, r2, r3, _⟩ := hR
  obtain ⟨w1, w2, w3, w4, w5, w6⟩ := wn_prt hK j0 j3
  have k := ck_lt (NK_w hK)
  have hx : q_in (wnt (ck (P_w T i)) j) := by unfold q_in; omega
  refine QW_s ?_
  simp only [g_28]
  refine QW_p (k_gv (hs _ _ rfl) rfl rfl) ?_
  refine QW_p (k_ia (hs _ _ rfl) (by omega) (by omega) (by decide)) ?_
  rw [r1]
  refine QW_p (k_rc (hs _ _ rfl)) ?_
  refine QW_e (d_22 ho k.1 k.2.1 j0 j3) ?_
  refine QW_g hx ?_
  have K2 : ¬ prt T i j = -1 → QW (fun n => g_28 o n 2 s 0 0 0 0) (fun q => q = (s, if prt T i j = -1 then 0 else 1)) := fun y => by
    rw [if_neg y]
    refine QW_s ?_
    simp only [g_28]
    refine QW_s ?_
    simp only [g_28]
    refine QW_g (by decide) ?_
    exact QW_ret rfl
  refine QW_by (fun z => ?_) (fun z => ?_)
  · refine QW_g hx ?_
    refine QW_by (fun y => K2 (w1 (Or.inl y))) (fun y => ?_)
    refine QW_g hx ?_
    refine QW_by (fun u => ?_) (fun u => K2 (w1 (Or.inr (Decidable.not_not.mp u))))
    rw [if_pos (w3 y u z)]
    refine QW_s ?_
    simp only [g_28]
    refine QW_g (by decide) ?_
    exact QW_ret rfl
  · obtain ⟨e1, e2, e3⟩ := w2 (Decidable.not_not.mp z)
    have e := r3 e1
    rw [← e3, ← e2] at e
    refine QW_p (k_gv (hs _ _ rfl) rfl rfl) ?_
    refine QW_p (k_ia (hs _ _ rfl) (by omega) (by omega) (by decide)) ?_
    rw [e]
    refine QW_g (by unfold q_in; by_cases y : prt T i j = -1 <;> omega) ?_
    refine QW_by (fun y => ?_) (fun y => ?_)
    · rw [if_pos y]
      refine QW_s ?_
      simp only [g_28]
      refine QW_g (by decide) ?_
      exact QW_ret rfl
    · rw [if_neg y]
      refine QW_s ?_
      simp only [g_28]
      refine QW_g (by decide) ?_
      exact QW_ret rfl
end CNE
