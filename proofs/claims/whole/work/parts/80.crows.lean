/-! THE CLASS: its rows, and what is reckoned by them -/
def ck (w : Int) : Int := if 100 ≤ w then w - 70 else w
def numC (P : PT) (p : Int) : Int64 := if P_w P p = 15 then (if P_3 P p = -1 then 0 else 1) else P_v P p
/-- what comes when a statement is over: a place, or -1 - p: p's part is over -/
def TH (P : PT) (th : Int → Int) : Prop := ∀ p, 0 ≤ p → p < P_n P → isS (P_w P p) → th p =
  if P_u P p = -1 then -1 - P_n P
  else if P_w P (P_u P p) = 14 then (if p = P_1 P (P_u P p) then P_2 P (P_u P p) else th (P_u P p))
  else if P_w P (P_u P p) = 15 then th (P_u P p)
  else if P_w P (P_u P p) = 16 then (if p = P_2 P (P_u P p) then -1 - P_u P p else th (P_u P p))
  else if P_w P (P_u P p) = 21 then (if isPh P (P_u P p) = true then -1 - P_u P p else th (P_u P p))
  else -1 - P_u P p
/-- parts come before what they are parts of -/
def RK (P : PT) (sz rk br : Int → Int) : Prop := ∀ p, 0 ≤ p → p < P_n P → isE (P_w P p) → 0 ≤ rk p - sz p + 1 ∧ rk p < P_n P ∧ br (rk p) = p ∧
  (P_w P p = 6 → rk (p + 1) = rk p - 1) ∧ (0 ≤ P_w P p → P_w P p ≤ 5 → rk (p + 1 + sz (p + 1)) = rk p - 1 ∧ rk (p + 1) = rk p - 1 - sz (p + 1 + sz (p + 1)))
/-- the shapes of a row's cells -/
def shR0 (r : Nat) : Y_T := .inr (3, [some (.ref (r + 1)), some (.ref (r + 2)), some (.ref (r + 3)), some (.ref (r + 4)), some (.ref (r + 5)), some (.ref (r + 6)), some (.ref (r + 7)), none, none, none])
def shRa (n np : Nat) : Nat → Option Y_T
  | 1 => some (.inl (.int, n, fun _ => none))
  | 2 => some (.inl (.long, n, fun _ => none))
  | 3 => some (.inl (.int, n, fun _ => none))
  | 4 => some (.inl (.int, n, fun _ => none))
  | 5 => some (.inl (.int, n, fun _ => none))
  | 6 => some (.inl (.int, n, fun _ => none))
  | 7 => some (.inl (.int, np, fun _ => none))
  | _ => none
def RSh (s : Q_S) (r n np : Nat) : Prop := q_T s r = some (shR0 r) ∧ ∀ i t, shRa n np i = some t → q_T s (r + i) = some t
/-- rows that hold a program -/
def RW (s : Q_S) (r : Nat) (P : PT) (sz th : Int → Int) : Prop := ∃ n np : Nat, RSh s r n np ∧ (n : Int) = P_n P ∧ np ≤ 500 ∧ q_F s r 7 = n ∧ q_F s r 8 = np ∧
  (∀ p, 0 ≤ p → p < P_n P → q_I s (r + 1) p = ck (P_w P p) ∧ q_L s (r + 2) p = numC P p ∧ q_I s (r + 3) p = sz p ∧ (isS (P_w P p) → q_I s (r + 4) p = th p)) ∧
  RK P sz (q_I s (r + 5)) (q_I s (r + 6)) ∧
  (∀ k, 1 ≤ k → k ≤ np → q_I s (r + 7) (k - 1) = phA P 501 0 k ∧ 0 ≤ phA P 501 0 k) ∧ (∀ k, np < k → phA P 501 0 k = -1)
/-- the run's cell -/
def sh20 (rw wt : Value) : Y_T := .inr (4, [none, some rw, some wt, none, none, none, none, none, some (.ref 21), some (.ref 22), some (.ref 23), some (.ref 24)])
/-- the walker's stack written over -/
def setK (s : Q_S) (f : Int → Int64) : Q_S := (s.1, s.2.1, s.2.2.1, s.2.2.2.1, fun c j => if c = 36 then f j else q_L s c j)
/-- a run held -/
def c_flt (s : Q_S) (k p : Int) : Q_S := q_sf (q_sf (q_sf (q_sf s 20 0 2) 20 5 (q_F s 20 3)) 20 6 k) 20 7 p
section CRK
variable {o : X_O} {s : Q_S} {r n np : Nat} {wt : Value} {P : PT} {sz th : Int → Int}
theorem setK_L {f : Int → Int64} {c : Nat} {j : Int} : q_L (setK s f) c j = if c = 36 then f j else q_L s c j := rfl
theorem setK_I {f : Int → Int64} {c : Nat} {j : Int} : q_I (setK s f) c j = q_I s c j := rfl
theorem setK_F {f : Int → Int64} {c h : Nat} : q_F (setK s f) c h = q_F s c h := rfl
theorem setK_T {f : Int → Int64} {c : Nat} : q_T (setK s f) c = q_T s c := rfl
theorem setK_sl {f : Int → Int64} {j : Int} {v : Int64} : q_sl (setK s f) 36 j v = setK s (upF f j v) := by
  unfold setK q_sl upF
  refine congrArg (fun z => (s.1, s.2.1, s.2.2.1, s.2.2.2.1, z)) (funext fun c => funext fun i => ?_)
  by_cases h : c = 36
  · by_cases g : i = j
    · simp [h, g]
    · simp [h, g]
  · simp [h, q_L]
theorem setK_self : setK s (q_L s 36) = s := by
  unfold setK
  have e : (fun c j => if c = 36 then q_L s 36 j else q_L s c j) = s.2.2.2.2 := funext fun c => funext fun j => by
    by_cases h : c = 36
    · rw [if_pos h, h]; rfl
    · rw [if_neg h]; rfl
  rw [e]
theorem d_43 {rw wt : Value} (h20 : q_T s 20 = some (sh20 rw wt)) (h0 : 0 ≤ q_F s 20 0 ∧ q_F s 20 0 ≤ 3) {t : Int} : QW (fun n => g_43 o n 0 s 20 t) (fun q => q = (s, if q_F s 20 0 = 1 then 1 else 0)) := by
  refine QW_s ?_
  simp only [g_43]
  refine QW_p (k_gi h20 rfl) ?_
  refine QW_g (by omega) ?_
  refine QW_by (fun c => ?_) (fun c => ?_)
  · refine QW_s ?_
    simp only [g_43]
    refine QW_g (by simp) ?_
    rw [if_neg c]
    exact QW_ret rfl
  · refine QW_s ?_
    simp only [g_43]
    refine QW_g (by simp) ?_
    rw [if_pos (by omega)]
    exact QW_ret rfl
theorem d_44 {rw wt : Value} (h20 : q_T s 20 = some (sh20 rw wt)) {k p : Int} : QW (fun n => g_44 o n 0 s 20 k p) (fun q => q = (c_flt s k p, ())) := by
  refine QW_s ?_
  simp only [g_44]
  refine QW_p (k_pi h20 rfl rfl) ?_
  refine QW_p (k_gi h20 rfl) ?_
  refine QW_p (k_pi h20 rfl rfl) ?_
  refine QW_p (k_pi h20 rfl rfl) ?_
  refine QW_p (k_pi h20 rfl rfl) ?_
  exact QW_ret (by unfold c_flt; simp only [q_F_sf]; rfl)
theorem d_67 (hs : SH s) {rw wt : Value} (h20 : q_T s 20 = some (sh20 rw wt)) {p : Int} {a b : Int64} : QW (fun n => g_67 o n 0 s 35 p a b) (fun q => q = if b = 0 then (c_flt s 1 p, 0) else (s, a / b)) := by
  refine QW_s ?_
  simp only [g_67]
  refine QW_by (fun c => ?_) (fun c => ?_)
  · rw [if_neg c]
    refine QW_g c ?_
    exact QW_ret rfl
  · rw [if_pos (Decidable.of_not_not c)]
    refine QW_p (k_gv (hs _ _ rfl) rfl rfl) ?_
    refine QW_p (k_rc h20) ?_
    refine QW_e (d_44 h20) ?_
    exact QW_ret rfl
theorem tbl_o {x : Int} (h0 : 0 ≤ x) (h1 : x ≤ 9) : (x_TABLE.getD x.toNat 0).toInt = tbl x := by
  have h : x = 0 ∨ x = 1 ∨ x = 2 ∨ x = 3 ∨ x = 4 ∨ x = 5 ∨ x = 6 ∨ x = 7 ∨ x = 8 ∨ x = 9 := by omega
  rcases h with rfl | rfl | rfl | rfl | rfl | rfl | rfl | rfl | rfl | rfl <;> rfl
theorem k_oa {a n : Nat} {f : Nat → Int32} {j : Int} (h : o a = some (n, f)) (h0 : 0 ≤ j) (h1 : j < n) (h2 : n ≤ 67108864) : q_ia o s (.retAddr a) j = some (f j.toNat).toInt := by
  simp only [q_ia, h]
  rw [if_pos ⟨h0, h1, by omega⟩]
theorem k_ol {a n : Nat} {f : Nat → Int32} (h : o a = some (n, f)) : q_ln o s (.retAddr a) = some (n : Int) := by
  simp only [q_ln, h]
theorem d_65 (hs : SH s) (ho : o 2 = some (10, fun i => x_TABLE.getD i 0)) {rw wt : Value} (h20 : q_T s 20 = some (sh20 rw wt)) {p : Int} {x : Int64} : QW (fun n => g_65 o n 0 s 35 x p) (fun q => q = if x < 0 ∨ 9 < x then (c_flt s 2 p, 0) else (s, Int64.ofInt (tbl x.toInt))) := by
  have K : QW (fun n => g_65 o n 1 s 35 0 p) (fun q => q = (c_flt s 2 p, 0)) := by
    refine QW_s ?_
    simp only [g_65]
    refine QW_p (k_gv (hs _ _ rfl) rfl rfl) ?_
    refine QW_p (k_rc h20) ?_
    refine QW_e (d_44 h20) ?_
    exact QW_ret rfl
  refine QW_s ?_
  simp only [g_65]
  refine QW_by (fun c => ?_) (fun c => ?_)
  · rw [if_pos (Or.inl c)]
    exact K
  · refine QW_p (k_ol ho) ?_
    refine QW_g (by decide) ?_
    refine QW_by (fun c1 => ?_) (fun c1 => ?_)
    · have c2 : x < 10 := c1
      have c3 : x ≤ 9 := by
        rw [Int64.lt_iff_toInt_lt] at c2
        rw [Int64.le_iff_toInt_le]
        have e9 : (9 : Int64).toInt = 9 := rfl
        have e10 : (10 : Int64).toInt = 10 := rfl
        omega
      obtain ⟨a0, a1⟩ := i64_small c c3
      rw [if_neg (fun z => z.elim c (fun z => i64_9.mp z c3))]
      refine QW_p (k_oa ho a0 (by omega) (by decide)) ?_
      rw [tbl_o a0 a1]
      have := tbl_le x.toInt
      refine QW_g (by omega) ?_
      exact QW_ret rfl
    · have c2 : ¬ x < 10 := c1
      rw [if_pos (Or.inr (by
        rw [Int64.lt_iff_toInt_lt] at c2 ⊢
        have e9 : (9 : Int64).toInt = 9 := rfl
        have e10 : (10 : Int64).toInt = 10 := rfl
        omega))]
      exact K
theorem d_64 (hs : SH s) {rw wt : Value} (h20 : q_T s 20 = some (sh20 rw wt)) {w : Int} {x : Int64} (h0 : 100 ≤ w ∧ w ≤ 102) (h1 : w ≠ 100 → rgI x 16) : QW (fun n => g_64 o n 0 s 35 (ck w) x) (fun q => q = (s, if w = 100 then x else if w = 101 then q_L s 19 x.toInt else q_L s 21 x.toInt)) := by
  have e : ck w = w - 70 := if_pos h0.1
  rw [e]
  refine QW_s ?_
  simp only [g_64]
  refine QW_g (by omega) ?_
  refine QW_by (fun c => ?_) (fun c => ?_)
  · have h2 := h1 (by omega)
    unfold rgI at h2
    rw [if_neg (by omega), if_pos (by omega)]
    refine QW_p (k_gv (hs _ _ rfl) rfl rfl) ?_
    refine QW_p (k_la (hs _ _ rfl) h2.1 h2.2 (by decide)) ?_
    exact QW_ret rfl
  · refine QW_by (fun c1 => ?_) (fun c1 => ?_)
    · have h2 := h1 (by omega)
      unfold rgI at h2
      rw [if_neg (by omega), if_neg (by omega)]
      refine QW_p (k_gv (hs _ _ rfl) rfl rfl) ?_
      refine QW_p (k_gv h20 rfl rfl) ?_
      refine QW_p (k_la (hs _ _ rfl) h2.1 h2.2 (by decide)) ?_
      exact QW_ret rfl
    · rw [if_pos (by omega)]
      exact QW_ret rfl
/-- what a fault or a number leaves -/
def oaS (s : Q_S) (x : Int64 ⊕ (Int × Int)) : Q_S × Int64 := match x with
  | .inl v => (s, v)
  | .inr y => (c_flt s y.1 y.2, 0)
theorem d_66 (hs : SH s) (h20 : q_T s 20 = some (sh20 (.ref r) wt)) (hR0 : q_T s r = some (shR0 r)) (hRa : ∀ i t, shRa n np i = some t → q_T s (r + i) = some t) (hn : n ≤ 500) {p w : Int} {a b t : Int64} (hp0 : 0 ≤ p) (hp1 : p < n) (hw : q_I s (r + 1) p = w) (h0 : 0 ≤ w) (h1 : w ≤ 5) : QW (fun n => g_66 o n 0 s 35 p a b t) (fun q => q = oaS s (opA w a b p)) := by
  have K1 : ∀ v, QW (fun n => g_66 o n 1 s 0 0 0 0 v) (fun q => q = (s, v)) := fun v => by
    refine QW_s ?_
    simp only [g_66]
    exact QW_ret rfl
  have K2 : ∀ v, QW (fun n => g_66 o n 2 s 0 0 0 0 v) (fun q => q = (s, v)) := fun v => by
    refine QW_s ?_
    simp only [g_66]
    exact QW_ret rfl
  refine QW_s ?_
  simp only [g_66]
  refine QW_p (k_gv (hs _ _ rfl) rfl rfl) ?_
  refine QW_p (k_gv h20 rfl rfl) ?_
  refine QW_p (k_gv hR0 rfl rfl) ?_
  refine QW_p (k_ia (hRa _ _ rfl) hp0 hp1 (by omega)) ?_
  rw [hw]
  refine QW_g (by omega) ?_
  refine QW_if (by omega) ?_
  have hc : w = 0 ∨ w = 1 ∨ w = 2 ∨ w = 3 ∨ w = 4 ∨ w = 5 := by omega
  rcases hc with rfl | rfl | rfl | rfl | rfl | rfl
  · refine QW_it rfl ?_
    exact QW_ret rfl
  · refine QW_if (by decide) ?_
    refine QW_it rfl ?_
    exact QW_ret rfl
  · refine QW_if (by decide) ?_
    refine QW_if (by decide) ?_
    refine QW_it rfl ?_
    exact QW_ret rfl
  · refine QW_if (by decide) ?_
    refine QW_if (by decide) ?_
    refine QW_if (by decide) ?_
    refine QW_it rfl ?_
    refine QW_p (k_rc (hs _ _ rfl)) ?_
    refine QW_e (d_67 hs h20) ?_
    refine QW_ret ?_
    by_cases c : b = 0
    · simp [oaS, opA, c]
    · simp [oaS, opA, c]
  · refine QW_if (by decide) ?_
    refine QW_if (by decide) ?_
    refine QW_if (by decide) ?_
    refine QW_if (by decide) ?_
    refine QW_it rfl ?_
    refine QW_by (fun c => ?_) (fun c => ?_)
    · refine QW_m (K1 0) (fun q e => ?_)
      rw [e]
      have c1 : ¬ a < b := by
        rw [Int64.lt_iff_toInt_lt]
        rw [Int64.le_iff_toInt_le] at c
        omega
      simp [oaS, opA, c1]
    · refine QW_m (K1 1) (fun q e => ?_)
      rw [e]
      have c1 : a < b := by
        rw [Int64.lt_iff_toInt_lt]
        rw [Int64.le_iff_toInt_le] at c
        omega
      simp [oaS, opA, c1]
  · refine QW_if (by decide) ?_
    refine QW_if (by decide) ?_
    refine QW_if (by decide) ?_
    refine QW_if (by decide) ?_
    refine QW_if (by decide) ?_
    refine QW_it rfl ?_
    refine QW_by (fun c => ?_) (fun c => ?_)
    · refine QW_m (K2 0) (fun q e => ?_)
      rw [e]
      simp [oaS, opA, c]
    · refine QW_m (K2 1) (fun q e => ?_)
      rw [e]
      simp [oaS, opA, Decidable.of_not_not c]
end CRK
