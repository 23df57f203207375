/-! THE REFERENCE'S leaf AND node -/
def eE (T : PT) (i : Int) : Bool := decide (0 ≤ i ∧ i < P_n T ∧ (P_w T i < 10 ∨ 100 ≤ P_w T i))
def eS (T : PT) (i : Int) : Bool := decide (0 ≤ i ∧ i < P_n T ∧ ¬ (P_w T i < 10 ∨ 100 ≤ P_w T i))
def i8 (n i : Int) : Bool := decide (0 ≤ i ∧ i < n)
/-- what a node is kept as: its number and its parts -/
def ndA (T : PT) (w a b c : Int) : Option (Int × Int × Int × Int) :=
  if 0 ≤ w ∧ w ≤ 5 then (if (eE T a && eE T b) = true then some (0, a, b, -1) else none)
  else if w = 6 ∨ w = 12 then (if eE T a = true then some (0, a, -1, -1) else none)
  else if w = 10 then (if (i8 8 a && eE T b) = true then some (a, b, -1, -1) else none)
  else if w = 11 then (if (i8 16 a && eE T b) = true then some (a, b, -1, -1) else none)
  else if w = 13 then (if (i8 8 a && eE T b && eE T c) = true then some (a, b, c, -1) else none)
  else if w = 14 ∨ w = 18 then (if (eS T a && eS T b) = true then some (0, a, b, -1) else none)
  else if w = 15 then (if (eE T a && eS T b && (decide (c = -1) || eS T c)) = true then some (0, a, b, c) else none)
  else if w = 16 then (if (eE T a && eS T b && eS T c) = true then some (0, a, b, c) else none)
  else if w = 17 then (if (eE T a && eS T b) = true then some (0, a, b, -1) else none)
  else if w = 19 then (if i8 8 a = true then some (a, -1, -1, -1) else none)
  else if w = 20 then (if (i8 8 a && eS T b) = true then some (a, b, -1, -1) else none)
  else if w = 21 then (if eS T a = true then some (0, a, -1, -1) else none)
  else none
/-- one more -/
def addN (T : PT) (w : Int) (v : Int64) (a b c : Int) : PT := (P_n T + 1, upN (P_w T) (P_n T) w, upN (P_v T) (P_n T) v, upN (P_1 T) (P_n T) a, upN (P_2 T) (P_n T) b, upN (P_3 T) (P_n T) c, P_u T)
/-- the reference's nodes -/
def NRr (T : PT) (s : Q_S) : Prop := 0 ≤ P_n T ∧ P_n T ≤ 300 ∧ q_F s 38 1 = P_n T ∧ ∀ i, 0 ≤ i → i < P_n T → (0 ≤ P_w T i ∧ P_w T i ≤ 200) ∧ q_I s 39 i = P_w T i ∧ q_L s 40 i = P_v T i ∧ q_I s 41 i = P_1 T i ∧ q_I s 42 i = P_2 T i ∧ q_I s 43 i = P_3 T i
def rAdd (s : Q_S) (w : Int) (v : Int64) (a b c : Int) : Q_S := q_sf (q_si (q_si (q_si (q_sl (q_si s 39 (q_F s 38 1) w) 40 (q_F s 38 1) v) 41 (q_F s 38 1) a) 42 (q_F s 38 1) b) 43 (q_F s 38 1) c) 38 1 (q_F s 38 1 + 1)
def pS (s : Q_S) (ok w v a b c : Int) : Q_S × Int := if ok = 0 then (s, -1) else if q_F s 38 1 = 300 then (s, -2) else (rAdd s w (Int64.ofInt v) a b c, q_F s 38 1)
section RND
variable {o : X_O} {T : PT} {s : Q_S}
theorem i10 {p : Prop} [Decidable p] : ((if p then (1 : Int) else 0) = 0) ↔ ¬ p := by
  by_cases h : p
  · rw [if_pos h]; exact ⟨fun z => absurd z (by decide), fun z => absurd h z⟩
  · rw [if_neg h]; exact ⟨fun _ => h, fun _ => rfl⟩
theorem qin01 {p : Prop} [Decidable p] : q_in (if p then (1 : Int) else 0) := by
  by_cases h : p
  · rw [if_pos h]; decide
  · rw [if_neg h]; decide
theorem m_96 (hs : SH s) (hN : NRr T s) {i : Int} (hi : q_in i) : QW (fun n => g_96 o n 0 s 38 i 0) (fun q => q = (s, if eE T i = true then 1 else 0)) := by
  obtain ⟨n0, n1, h1, h⟩ := hN
  have K2 : ¬ eE T i = true → QW (fun n => g_96 o n 2 s 0 0 0) (fun q => q = (s, if eE T i = true then 1 else 0)) := fun z => by
    refine QW_s ?_
    simp only [g_96]
    refine QW_s ?_
    simp only [g_96]
    refine QW_g (by decide) ?_
    rw [if_neg z]
    exact QW_ret rfl
  have K1 : eE T i = true → QW (fun n => g_96 o n 1 s 0 0 0) (fun q => q = (s, if eE T i = true then 1 else 0)) := fun z => by
    refine QW_s ?_
    simp only [g_96]
    refine QW_s ?_
    simp only [g_96]
    refine QW_g (by decide) ?_
    rw [if_pos z]
    exact QW_ret rfl
  have eq : (eE T i = true) ↔ (0 ≤ i ∧ i < P_n T ∧ (P_w T i < 10 ∨ 100 ≤ P_w T i)) := decide_eq_true_iff
  refine QW_s ?_
  simp only [g_96]
  refine QW_g hi ?_
  refine QW_by (fun c1 => K2 (by rw [eq]; omega)) (fun c1 => ?_)
  refine QW_p (k_gi (hs _ _ rfl) rfl) ?_
  rw [h1]
  refine QW_g ⟨hi, by unfold q_in; omega⟩ ?_
  refine QW_by (fun c2 => K2 (by rw [eq]; omega)) (fun c2 => ?_)
  obtain ⟨b0, b1, _⟩ := h i (by omega) (by omega)
  refine QW_p (k_gv (hs _ _ rfl) rfl rfl) ?_
  refine QW_p (k_ia (hs _ _ rfl) (by omega) (by omega) (by decide)) ?_
  rw [b1]
  refine QW_g (by unfold q_in; omega) ?_
  refine QW_by (fun c3 => K1 (by rw [eq]; omega)) (fun c3 => ?_)
  refine QW_p (k_gv (hs _ _ rfl) rfl rfl) ?_
  refine QW_p (k_ia (hs _ _ rfl) (by omega) (by omega) (by decide)) ?_
  rw [b1]
  refine QW_g (by unfold q_in; omega) ?_
  exact QW_by (fun c4 => K2 (by rw [eq]; omega)) (fun c4 => K1 (by rw [eq]; omega))
theorem m_98 (hs : SH s) (hN : NRr T s) {i : Int} (hi : q_in i) : QW (fun n => g_98 o n 0 s 38 i 0) (fun q => q = (s, if eS T i = true then 1 else 0)) := by
  obtain ⟨n0, n1, h1, h⟩ := hN
  have K2 : ¬ eS T i = true → QW (fun n => g_98 o n 1 s 0 0 0) (fun q => q = (s, if eS T i = true then 1 else 0)) := fun z => by
    refine QW_s ?_
    simp only [g_98]
    refine QW_s ?_
    simp only [g_98]
    refine QW_g (by decide) ?_
    rw [if_neg z]
    exact QW_ret rfl
  have eq : (eS T i = true) ↔ (0 ≤ i ∧ i < P_n T ∧ ¬ (P_w T i < 10 ∨ 100 ≤ P_w T i)) := decide_eq_true_iff
  refine QW_s ?_
  simp only [g_98]
  refine QW_g hi ?_
  refine QW_by (fun c1 => K2 (by rw [eq]; omega)) (fun c1 => ?_)
  refine QW_p (k_gi (hs _ _ rfl) rfl) ?_
  rw [h1]
  refine QW_g ⟨hi, by unfold q_in; omega⟩ ?_
  refine QW_by (fun c2 => K2 (by rw [eq]; omega)) (fun c2 => ?_)
  obtain ⟨b0, b1, _⟩ := h i (by omega) (by omega)
  refine QW_p (k_gv (hs _ _ rfl) rfl rfl) ?_
  refine QW_p (k_ia (hs _ _ rfl) (by omega) (by omega) (by decide)) ?_
  rw [b1]
  refine QW_g (by unfold q_in; omega) ?_
  refine QW_by (fun c3 => K2 (by rw [eq]; omega)) (fun c3 => ?_)
  refine QW_p (k_gv (hs _ _ rfl) rfl rfl) ?_
  refine QW_p (k_ia (hs _ _ rfl) (by omega) (by omega) (by decide)) ?_
  rw [b1]
  refine QW_g (by unfold q_in; omega) ?_
  refine QW_by (fun c4 => K2 (by rw [eq]; omega)) (fun c4 => ?_)
  refine QW_s ?_
  simp only [g_98]
  refine QW_g (by decide) ?_
  rw [if_pos (by rw [eq]; omega)]
  exact QW_ret rfl
theorem m_97 (hs : SH s) (hn : 0 ≤ q_F s 38 1 ∧ q_F s 38 1 ≤ 300) {ok w v a b c : Int} (hk : q_in ok) (hv : q_in v) : QW (fun n => g_97 o n 0 s 38 ok w v a b c 0) (fun q => q = pS s ok w v a b c) := by
  unfold pS
  refine QW_s ?_
  simp only [g_97]
  refine QW_g hk ?_
  refine QW_by (fun z => ?_) (fun z => ?_)
  · rw [if_pos z]
    refine QW_s ?_
    simp only [g_97]
    exact QW_ret rfl
  · rw [if_neg z]
    refine QW_g hv ?_
    refine QW_p (k_rc (hs _ _ rfl)) ?_
    refine QW_c (m_94 hs hn) (fun q hq => ?_)
    refine QW_s ?_
    simp only [g_97]
    refine QW_ret ?_
    exact hq
theorem m_93 (hs : SH s) (hn : 0 ≤ q_F s 38 1 ∧ q_F s 38 1 ≤ 300) {i : Int} {v : Int64} (hi : q_in i) : QW (fun n => g_93 o n 0 s 38 i v) (fun q => q = if (0 ≤ i ∧ i ≤ 2) ∧ (i = 0 ∨ (0 ≤ v ∧ v ≤ 15)) then (if q_F s 38 1 = 300 then (q_sf s 38 0 0, -2) else (rAdd (q_sf s 38 0 0) (100 + i) v (-1) (-1) (-1), q_F s 38 1)) else (q_sf s 38 0 0, -1)) := by
  have hs1 : SH (q_sf s 38 0 0) := fun a t x => hs a t x
  have e1 : q_F (q_sf s 38 0 0) 38 1 = q_F s 38 1 := by rw [q_F_sf, if_neg (by decide)]
  have K1 : ¬ ((0 ≤ i ∧ i ≤ 2) ∧ (i = 0 ∨ (0 ≤ v ∧ v ≤ 15))) → QW (fun n => g_93 o n 1 (q_sf s 38 0 0) 0 0 0) (fun q => q = if (0 ≤ i ∧ i ≤ 2) ∧ (i = 0 ∨ (0 ≤ v ∧ v ≤ 15)) then (if q_F s 38 1 = 300 then (q_sf s 38 0 0, -2) else (rAdd (q_sf s 38 0 0) (100 + i) v (-1) (-1) (-1), q_F s 38 1)) else (q_sf s 38 0 0, -1)) := fun z => by
    refine QW_s ?_
    simp only [g_93, if_neg z]
    exact QW_ret rfl
  have K2 : ((0 ≤ i ∧ i ≤ 2) ∧ (i = 0 ∨ (0 ≤ v ∧ v ≤ 15))) → QW (fun n => g_93 o n 2 (q_sf s 38 0 0) 38 i v) (fun q => q = if (0 ≤ i ∧ i ≤ 2) ∧ (i = 0 ∨ (0 ≤ v ∧ v ≤ 15)) then (if q_F s 38 1 = 300 then (q_sf s 38 0 0, -2) else (rAdd (q_sf s 38 0 0) (100 + i) v (-1) (-1) (-1), q_F s 38 1)) else (q_sf s 38 0 0, -1)) := fun z => by
    refine QW_s ?_
    simp only [g_93, if_pos z]
    refine QW_p (k_rc (hs1 _ _ rfl)) ?_
    refine QW_c (m_94 hs1 (by rw [e1]; exact hn)) (fun q hq => ?_)
    refine QW_ret ?_
    rw [e1] at hq
    unfold rAdd
    rw [e1]
    exact hq
  refine QW_s ?_
  simp only [g_93]
  refine QW_p (k_pi (hs _ _ rfl) rfl rfl) ?_
  refine QW_g hi ?_
  refine QW_by (fun c1 => K1 (fun z => by omega)) (fun c1 => ?_)
  refine QW_g hi ?_
  refine QW_by (fun c2 => K1 (fun z => by omega)) (fun c2 => ?_)
  refine QW_g hi ?_
  refine QW_by (fun c3 => K2 ⟨by omega, Or.inl (by omega)⟩) (fun c3 => ?_)
  refine QW_by (fun c4 => K1 (fun z => ?_)) (fun c4 => ?_)
  · rcases z.2 with y | y
    · omega
    · exact absurd y.1 (Int64.not_le.mpr c4)
  · refine QW_by (fun c5 => K2 ⟨by omega, Or.inr ⟨Int64.not_lt.mp c4, c5⟩⟩) (fun c5 => K1 (fun z => ?_))
    rcases z.2 with y | y
    · omega
    · exact c5 y.2
end RND
