/-! THE CONSTRUCTORS -/
def shX : Nat → Option Y_T
  | 18 => some (.inl (.object "StepRows$Rows", 20, fun _ => none))
  | 20 => some (sh20 .null .null)
  | 24 => some (shF0 24)
  | 25 => some (.inl (.int, 16, fun _ => none))
  | 26 => some (.inl (.int, 16, fun _ => none))
  | 27 => some (.inl (.int, 16, fun _ => none))
  | 28 => some (.inl (.int, 16, fun _ => none))
  | 29 => some (.inl (.int, 16, fun _ => none))
  | 30 => some (.inl (.int, 16, fun _ => none))
  | 31 => some (.inl (.int, 16, fun _ => none))
  | 32 => some (.inl (.long, 16, fun _ => none))
  | 33 => some (.inl (.long, 16, fun _ => none))
  | 34 => some (.inl (.long, 16, fun _ => none))
  | 37 => some (.inl (.object "StepRows$Run", 8, fun _ => none))
  | _ => none
def shI (a : Nat) : Option Y_T := match sh a with
  | some t => some t
  | none => shX a
def upE (E : Nat → Option Y_T) (a : Nat) (t : Option Y_T) : Nat → Option Y_T := fun b => if b = a then t else E b
def eff (E : Nat → Option Y_T) (a : Nat) : Option Y_T := match E a with
  | some t => some t
  | none => shI a
/-- fields that constructors set -/
def excP (c : Nat) (j : Int) : Prop := (c = 20 ∧ j = 0) ∨ (c = 24 ∧ (j = 10 ∨ j = 11)) ∨ (c = 38 ∧ (j = 17 ∨ j = 21))
def ZZ (s : Q_S) : Prop := (∀ c j, q_L s c j = 0) ∧ ∀ c j, ¬ excP c j → q_I s c j = 0
/-- k cells made, those of E not yet whole -/
def CIn (k : Nat) (E : Nat → Option Y_T) (z : Nat) (s : Q_S) : Prop := s.1 = k ∧ s.2.1 ≤ z ∧ (∀ a t, a < k → eff E a = some t → q_T s a = some t) ∧ ZZ s
section CTR
variable {o : X_O} {β : Type} {k z : Nat} {E : Nat → Option Y_T} {s : Q_S} {Q : β → Prop} {K : Nat → Q_S → Option β}
theorem upE_s {a : Nat} {t : Option Y_T} : upE E a t a = t := if_pos rfl
theorem upE_o {a b : Nat} {t : Option Y_T} (h : b ≠ a) : upE E a t b = E b := if_neg h
theorem eff_s {a : Nat} {t : Y_T} : eff (upE E a (some t)) a = some t := by unfold eff; rw [upE_s]
theorem eff_o {a b : Nat} {t : Option Y_T} (h : b ≠ a) : eff (upE E a t) b = eff E b := by unfold eff; rw [upE_o h]
theorem eff_n {a : Nat} (h : E a = none) : eff E a = shI a := by unfold eff; rw [h]
theorem ZZ.nw {sl : Nat} {t : Y_T} (h : ZZ s) : ZZ (q_nw s sl t) := ⟨fun c j => by
    rw [q_L_nw]
    by_cases y : c = s.1
    · rw [if_pos y]
    · rw [if_neg y]; exact h.1 c j, fun c j hc => by
    rw [q_I_nw]
    by_cases y : c = s.1
    · rw [if_pos y]
    · rw [if_neg y]; exact h.2 c j hc⟩
/-- a row made and put into a field of the object F -/
theorem ci_A {F ci f R : Nat} {fs : List (Option Value)} {ty : FieldType} {u : Value} {r : Int} (h : CIn k (upE E F (some (.inr (ci, fs)))) z s) (hr : r = (R : Int)) (hR : R ≤ 67108864) (hF : F < k) (hE : E k = none) (hk : shI k = some (.inl (ty, R, fun _ => none))) (h1 : fs[f]? = some (some u)) (hty : x_fit (x_fty ci f) (.ref k) = true) (g : ∀ s', CIn (k + 1) (upE E F (some (.inr (ci, fs.set f (some (.ref k)))))) (z + R) s' → (∀ c j, c ≠ k → q_I s' c j = q_I s c j) → QW (fun n => K n s') Q) :
    QW (fun n => (q_na s ty r).bind fun s1 => (q_pr s1 ci (.ref F) f (.ref s.1)).bind fun s3 => K n s3) Q := by
  subst hr
  obtain ⟨e1, e2, e3, e4⟩ := h
  refine QW_p (k_na (by omega) (by omega)) ?_
  rw [show ((R : Int)).toNat = R by omega]
  have t3 : q_T (q_nw s R (.inl (ty, R, fun _ => none))) F = some (.inr (ci, fs)) := by
    rw [q_T_nw, if_neg (by omega)]
    exact e3 F _ hF eff_s
  rw [e1]
  refine QW_p (k_pr t3 h1 hty) ?_
  refine g _ ?_ (fun c j hc => by rw [q_I_st, q_I_nw, if_neg (by omega)])
  refine ⟨by show s.1 + 1 = k + 1; omega, by show s.2.1 + R ≤ z + R; omega, fun a t ha et => ?_, (show ZZ (q_nw s R (.inl (ty, R, fun _ => none))) from ZZ.nw e4)⟩
  by_cases y : a = F
  · subst y
    rw [eff_s] at et
    rw [q_T_st, if_pos rfl, et]
  · rw [eff_o y] at et
    rw [q_T_st, if_neg y, q_T_nw]
    by_cases w : a = k
    · rw [if_pos (by omega)]
      rw [w, eff_n hE, hk] at et
      exact et
    · rw [if_neg (by omega)]
      exact e3 a t (by omega) (by rw [eff_o y]; exact et)
/-- a row of references, likewise -/
theorem ci_N {F ci f R : Nat} {fs : List (Option Value)} {C : String} {u : Value} {r : Int} (h : CIn k (upE E F (some (.inr (ci, fs)))) z s) (hr : r = (R : Int)) (hR : R ≤ 67108864) (hF : F < k) (hE : E k = none) (hk : shI k = some (.inl (.object C, R, fun _ => none))) (h1 : fs[f]? = some (some u)) (hty : x_fit (x_fty ci f) (.ref k) = true) (g : ∀ s', CIn (k + 1) (upE E F (some (.inr (ci, fs.set f (some (.ref k)))))) (z + R) s' → (∀ c j, c ≠ k → q_I s' c j = q_I s c j) → QW (fun n => K n s') Q) :
    QW (fun n => (q_nr s C r).bind fun s1 => (q_pr s1 ci (.ref F) f (.ref s.1)).bind fun s3 => K n s3) Q := ci_A (ty := .object C) h hr hR hF hE hk h1 hty g
/-- a value put into a field of the object F -/
theorem ci_P {F ci f : Nat} {fs : List (Option Value)} {u v : Value} (h : CIn k (upE E F (some (.inr (ci, fs)))) z s) (hF : F < k) (h1 : fs[f]? = some (some u)) (hty : x_fit (x_fty ci f) v = true) (g : ∀ s', CIn k (upE E F (some (.inr (ci, fs.set f (some v))))) z s' → (∀ c j, q_I s' c j = q_I s c j) → QW (fun n => K n s') Q) :
    QW (fun n => (q_pr s ci (.ref F) f v).bind fun s3 => K n s3) Q := by
  obtain ⟨e1, e2, e3, e4⟩ := h
  refine QW_p (k_pr (e3 F _ hF eff_s) h1 hty) ?_
  refine g _ ?_ (fun c j => rfl)
  refine ⟨e1, e2, fun a t ha et => ?_, e4⟩
  by_cases y : a = F
  · subst y
    rw [eff_s] at et
    rw [q_T_st, if_pos rfl, et]
  · rw [eff_o y] at et
    rw [q_T_st, if_neg y]
    exact e3 a t ha (by rw [eff_o y]; exact et)
/-- an object made -/
theorem ci_O {ci : Nat} (h : CIn k E z s) (g : ∀ s', CIn (k + 1) (upE E k (some (.inr (ci, y_shp ci)))) (z + (x_dfl ci).length) s' → (∀ c j, c ≠ k → q_I s' c j = q_I s c j) → QW (fun n => K n s') Q) : QW (fun n => (q_no s ci).bind fun s1 => K n s1) Q := by
  obtain ⟨e1, e2, e3, e4⟩ := h
  refine QW_p (show q_no s ci = some (q_nw s (x_dfl ci).length (.inr (ci, y_shp ci))) from rfl) ?_
  refine g _ ?_ (fun c j hc => by rw [q_I_nw, if_neg (by omega)])
  refine ⟨by show s.1 + 1 = k + 1; omega, by show s.2.1 + (x_dfl ci).length ≤ z + (x_dfl ci).length; omega, fun a t ha et => ?_, ZZ.nw e4⟩
  rw [q_T_nw]
  by_cases w : a = k
  · rw [if_pos (by omega)]
    rw [w, eff_s] at et
    exact et
  · rw [if_neg (by omega)]
    rw [eff_o w] at et
    exact e3 a t (by omega) et
/-- a number put into a field -/
theorem ci_I {F ci f : Nat} {fs : List (Option Value)} {x : Int} (h : CIn k (upE E F (some (.inr (ci, fs)))) z s) (hF : F < k) (h1 : fs[f]? = some none) (hty : x_fty ci f = .int) (hx : excP F f) (g : ∀ s', CIn k (upE E F (some (.inr (ci, fs)))) z s' → q_F s' F f = x → (∀ c j, ¬ (c = F ∧ j = (f : Int)) → q_I s' c j = q_I s c j) → QW (fun n => K n s') Q) : QW (fun n => (q_pi s ci (.ref F) f x).bind fun s3 => K n s3) Q := by
  obtain ⟨e1, e2, e3, e4⟩ := h
  refine QW_p (k_pi (e3 F _ hF eff_s) h1 hty) ?_
  refine g _ ⟨e1, e2, e3, e4.1, fun c j hc => ?_⟩ (by rw [q_F_sf, if_pos ⟨rfl, rfl⟩]) (fun c j hc => by rw [q_I_sf, if_neg hc])
  rw [q_I_sf, if_neg (fun y => hc (by rw [y.1, y.2]; exact hx))]
  exact e4.2 c j hc
/-- an object is whole -/
theorem ci_C {F : Nat} {t : Y_T} (h : CIn k (upE E F (some t)) z s) (ht : shI F = some t) (hE : E F = none) : CIn k E z s := by
  obtain ⟨e1, e2, e3, e4⟩ := h
  refine ⟨e1, e2, fun a t' ha et => e3 a t' ha ?_, e4⟩
  by_cases y : a = F
  · subst y
    rw [eff_n hE, ht] at et
    rw [eff_s]
    exact et
  · rw [eff_o y]
    exact et
theorem k_19 (h : CIn 2 (upE E 1 (some (.inr (1, y_shp 1)))) z s) (hE : ∀ a, 1 ≤ a → E a = none) : QW (fun n => g_19 o n 0 s 1) (fun q => CIn 6 E (z + 300 + 900 + 300 + 300) q.1) := by
  refine QW_s ?_
  simp only [g_19]
  refine ci_A (k := 2) (F := 1) (R := 300) h rfl (by decide) (by decide) (hE 2 (by decide)) rfl rfl rfl (fun s1 h1 _ => ?_)
  refine ci_A (k := 3) (F := 1) (R := 900) h1 rfl (by decide) (by decide) (hE 3 (by decide)) rfl rfl rfl (fun s2 h2 _ => ?_)
  refine ci_A (k := 4) (F := 1) (R := 300) h2 rfl (by decide) (by decide) (hE 4 (by decide)) rfl rfl rfl (fun s3 h3 _ => ?_)
  refine ci_A (k := 5) (F := 1) (R := 300) h3 rfl (by decide) (by decide) (hE 5 (by decide)) rfl rfl rfl (fun s4 h4 _ => ?_)
  exact QW_ret (ci_C h4 rfl (hE 1 (by decide)))
theorem k_36 (h : CIn 8 (upE E 7 (some (.inr (3, y_shp 3)))) z s) (hE : ∀ a, 7 ≤ a → E a = none) : QW (fun n => g_36 o n 0 s 7 500 500) (fun q => CIn 15 E (z + 500 + 500 + 500 + 500 + 500 + 500 + 500) q.1) := by
  refine QW_s ?_
  simp only [g_36]
  refine ci_A (k := 8) (F := 7) (R := 500) h rfl (by decide) (by decide) (hE 8 (by decide)) rfl rfl rfl (fun s1 h1 _ => ?_)
  refine ci_A (k := 9) (F := 7) (R := 500) h1 rfl (by decide) (by decide) (hE 9 (by decide)) rfl rfl rfl (fun s2 h2 _ => ?_)
  refine ci_A (k := 10) (F := 7) (R := 500) h2 rfl (by decide) (by decide) (hE 10 (by decide)) rfl rfl rfl (fun s3 h3 _ => ?_)
  refine ci_A (k := 11) (F := 7) (R := 500) h3 rfl (by decide) (by decide) (hE 11 (by decide)) rfl rfl rfl (fun s4 h4 _ => ?_)
  refine ci_A (k := 12) (F := 7) (R := 500) h4 rfl (by decide) (by decide) (hE 12 (by decide)) rfl rfl rfl (fun s5 h5 _ => ?_)
  refine ci_A (k := 13) (F := 7) (R := 500) h5 rfl (by decide) (by decide) (hE 13 (by decide)) rfl rfl rfl (fun s6 h6 _ => ?_)
  refine ci_A (k := 14) (F := 7) (R := 500) h6 rfl (by decide) (by decide) (hE 14 (by decide)) rfl rfl rfl (fun s7 h7 _ => ?_)
  exact QW_ret (ci_C h7 rfl (hE 7 (by decide)))
theorem k_30 (h : CIn 7 (upE E 6 (some (.inr (2, y_shp 2)))) z s) (hE : ∀ a, 6 ≤ a → E a = none) : QW (fun n => g_30 o n 0 s 6 (.ref 1)) (fun q => CIn 18 E (z + 10 + 500 + 500 + 500 + 500 + 500 + 500 + 500 + 500 + 500 + 500) q.1) := by
  have hn := h.1
  have hE6 : ∀ a, 7 ≤ a → upE E 6 (some (.inr (2, y_shp 2))) a = none := fun a ha => by rw [upE_o (by omega)]; exact hE a (by omega)
  refine QW_s ?_
  simp only [g_30]
  rw [hn]
  refine ci_O h (fun s1 h1 _ => ?_)
  refine QW_c (k_36 h1 hE6) (fun q2 h2 => ?_)
  refine ci_P h2 (by decide) rfl rfl (fun s3 h3 _ => ?_)
  refine ci_A (k := 15) (F := 6) (R := 500) h3 rfl (by decide) (by decide) (hE 15 (by decide)) rfl rfl rfl (fun s4 h4 _ => ?_)
  refine ci_A (k := 16) (F := 6) (R := 500) h4 rfl (by decide) (by decide) (hE 16 (by decide)) rfl rfl rfl (fun s5 h5 _ => ?_)
  refine ci_A (k := 17) (F := 6) (R := 500) h5 rfl (by decide) (by decide) (hE 17 (by decide)) rfl rfl rfl (fun s6 h6 _ => ?_)
  refine ci_P h6 (by decide) rfl rfl (fun s7 h7 _ => ?_)
  exact QW_ret (ci_C h7 rfl (hE 6 (by decide)))
theorem k_47 (h : CIn 25 (upE E 24 (some (.inr (5, y_shp 5)))) z s) (hE : ∀ a, 24 ≤ a → E a = none) : QW (fun n => g_47 o n 0 s 24 16) (fun q => CIn 35 E (z + 16 + 16 + 16 + 16 + 16 + 16 + 16 + 16 + 16 + 16) q.1 ∧ q_F q.1 20 0 = q_F s 20 0) := by
  refine QW_s ?_
  simp only [g_47]
  have h0 : q_F s 20 0 = q_F s 20 0 := rfl
  refine ci_A (k := 25) (F := 24) (R := 16) h rfl (by decide) (by decide) (hE 25 (by decide)) rfl rfl rfl (fun s1 h1 e1 => ?_)
  refine ci_A (k := 26) (F := 24) (R := 16) h1 rfl (by decide) (by decide) (hE 26 (by decide)) rfl rfl rfl (fun s2 h2 e2 => ?_)
  refine ci_A (k := 27) (F := 24) (R := 16) h2 rfl (by decide) (by decide) (hE 27 (by decide)) rfl rfl rfl (fun s3 h3 e3 => ?_)
  refine ci_A (k := 28) (F := 24) (R := 16) h3 rfl (by decide) (by decide) (hE 28 (by decide)) rfl rfl rfl (fun s4 h4 e4 => ?_)
  refine ci_A (k := 29) (F := 24) (R := 16) h4 rfl (by decide) (by decide) (hE 29 (by decide)) rfl rfl rfl (fun s5 h5 e5 => ?_)
  refine ci_A (k := 30) (F := 24) (R := 16) h5 rfl (by decide) (by decide) (hE 30 (by decide)) rfl rfl rfl (fun s6 h6 e6 => ?_)
  refine ci_A (k := 31) (F := 24) (R := 16) h6 rfl (by decide) (by decide) (hE 31 (by decide)) rfl rfl rfl (fun s7 h7 e7 => ?_)
  refine ci_A (k := 32) (F := 24) (R := 16) h7 rfl (by decide) (by decide) (hE 32 (by decide)) rfl rfl rfl (fun s8 h8 e8 => ?_)
  refine ci_A (k := 33) (F := 24) (R := 16) h8 rfl (by decide) (by decide) (hE 33 (by decide)) rfl rfl rfl (fun s9 h9 e9 => ?_)
  refine ci_A (k := 34) (F := 24) (R := 16) h9 rfl (by decide) (by decide) (hE 34 (by decide)) rfl rfl rfl (fun s10 h10 e10 => ?_)
  refine ci_I h10 (by decide) rfl rfl (Or.inr (Or.inl ⟨rfl, Or.inl rfl⟩)) (fun s11 h11 f11 e11 => ?_)
  refine ci_I h11 (by decide) rfl rfl (Or.inr (Or.inl ⟨rfl, Or.inr rfl⟩)) (fun s12 h12 f12 e12 => ?_)
  refine QW_ret ⟨ci_C h12 rfl (hE 24 (by decide)), ?_⟩
  show q_I s12 20 0 = q_I s 20 0
  rw [e12 20 0 (by omega), e11 20 0 (by omega), e10 20 0 (by omega), e9 20 0 (by omega), e8 20 0 (by omega), e7 20 0 (by omega), e6 20 0 (by omega), e5 20 0 (by omega), e4 20 0 (by omega), e3 20 0 (by omega), e2 20 0 (by omega), e1 20 0 (by omega)]
theorem k_41 (h : CIn 21 (upE E 20 (some (.inr (4, y_shp 4)))) z s) (hE : ∀ a, 20 ≤ a → E a = none) : QW (fun n => g_41 o n 0 s 20 16) (fun q => CIn 35 E (z + 16 + 8 + 8 + 14 + 16 + 16 + 16 + 16 + 16 + 16 + 16 + 16 + 16 + 16) q.1 ∧ q_F q.1 20 0 = 3) := by
  refine QW_s ?_
  simp only [g_41]
  refine ci_I h (by decide) rfl rfl (Or.inl ⟨rfl, rfl⟩) (fun s1 h1 f1 _ => ?_)
  refine ci_A (k := 21) (F := 20) (R := 16) h1 rfl (by decide) (by decide) (hE 21 (by decide)) rfl rfl rfl (fun s2 h2 e2 => ?_)
  refine ci_A (k := 22) (F := 20) (R := 8) h2 rfl (by decide) (by decide) (hE 22 (by decide)) rfl rfl rfl (fun s3 h3 e3 => ?_)
  refine ci_A (k := 23) (F := 20) (R := 8) h3 rfl (by decide) (by decide) (hE 23 (by decide)) rfl rfl rfl (fun s4 h4 e4 => ?_)
  have hn := h4.1
  rw [hn]
  have hE2 : ∀ a, 24 ≤ a → upE E 20 (some (.inr (4, (((y_shp 4).set 8 (some (.ref 21))).set 9 (some (.ref 22))).set 10 (some (.ref 23))))) a = none := fun a ha => by rw [upE_o (by omega)]; exact hE a (by omega)
  refine ci_O h4 (fun s5 h5 e5 => ?_)
  refine QW_c (k_47 h5 hE2) (fun q6 h6 => ?_)
  refine ci_P h6.1 (by decide) rfl rfl (fun s7 h7 e7 => ?_)
  refine QW_ret ⟨ci_C h7 rfl (hE 20 (by decide)), ?_⟩
  have f4 : q_F s4 20 0 = 3 := ((e4 20 0 (by omega)).trans ((e3 20 0 (by omega)).trans (e2 20 0 (by omega)))).trans f1
  exact ((e7 20 0).trans h6.2).trans ((e5 20 0 (by omega)).trans f4)
theorem k_60 (h : CIn 36 (upE E 35 (some (.inr (6, y_shp 6)))) z s) (hE : ∀ a, 20 ≤ a → E a = none) : QW (fun n => g_60 o n 0 s 35 (.ref 20) (.ref 19)) (fun q => CIn 37 E (z + 500) q.1 ∧ ∀ j, q_I q.1 20 j = q_I s 20 j) := by
  refine QW_s ?_
  simp only [g_60]
  refine ci_A (k := 36) (F := 35) (R := 500) h rfl (by decide) (by decide) (hE 36 (by decide)) rfl rfl rfl (fun s1 h1 e1 => ?_)
  refine ci_P h1 (by decide) rfl rfl (fun s2 h2 e2 => ?_)
  have t20 : q_T s2 20 = some (sh20 .null .null) := h2.2.2.1 20 _ (by decide) (by rw [eff_o (by decide), eff_n (hE 20 (by decide))]; rfl)
  refine QW_p (k_gv t20 rfl rfl) ?_
  refine ci_P h2 (by decide) rfl rfl (fun s3 h3 e3 => ?_)
  refine ci_P h3 (by decide) rfl rfl (fun s4 h4 e4 => ?_)
  exact QW_ret ⟨ci_C h4 rfl (hE 35 (by decide)), fun j => ((e4 20 j).trans (e3 20 j)).trans ((e2 20 j).trans (e1 20 j (by omega)))⟩
theorem CIn.le {z' : Nat} (h : CIn k E z s) (hz : z ≤ z') : CIn k E z' s := ⟨h.1, Nat.le_trans h.2.1 hz, h.2.2⟩
set_option maxHeartbeats 1000000 in
theorem k_0 (h : CIn 1 (upE (fun _ => none) 0 (some (.inr (0, y_shp 0)))) z s) : QW (fun n => g_0 o n 0 s 0) (fun q => CIn 38 (fun _ => none) (z + 30000) q.1 ∧ q_F q.1 20 0 = 3) := by
  have hE0 : ∀ {t : Option Y_T} (a : Nat), 1 ≤ a → upE (fun _ => none) 0 t a = none := fun a ha => by rw [upE_o (by omega)]
  refine QW_s ?_
  simp only [g_0]
  rw [h.1]
  refine ci_O h (fun s1 h1 _ => ?_)
  refine QW_c (k_19 h1 (fun a ha => hE0 a ha)) (fun q2 h2 => ?_)
  refine ci_P h2 (by decide) rfl rfl (fun s3 h3 _ => ?_)
  rw [h3.1]
  refine ci_O h3 (fun s4 h4 _ => ?_)
  refine QW_p (k_gv (h4.2.2.1 0 _ (by decide) (by rw [eff_o (by decide), eff_s])) rfl rfl) ?_
  refine QW_c (k_30 h4 (fun a ha => hE0 a (by omega))) (fun q5 h5 => ?_)
  refine ci_P h5 (by decide) rfl rfl (fun s6 h6 _ => ?_)
  refine ci_N (k := 18) (F := 0) (R := 20) h6 rfl (by decide) (by decide) rfl rfl rfl rfl (fun s7 h7 _ => ?_)
  refine ci_A (k := 19) (F := 0) (R := 16) h7 rfl (by decide) (by decide) rfl rfl rfl rfl (fun s8 h8 _ => ?_)
  rw [h8.1]
  refine ci_O h8 (fun s9 h9 _ => ?_)
  refine QW_c (k_41 h9 (fun a ha => hE0 a (by omega))) (fun q10 h10 => ?_)
  refine ci_P h10.1 (by decide) rfl rfl (fun s11 h11 e11 => ?_)
  rw [h11.1]
  refine ci_O h11 (fun s12 h12 e12 => ?_)
  refine QW_p (k_gv (h12.2.2.1 0 _ (by decide) (by rw [eff_o (by decide), eff_s])) rfl rfl) ?_
  refine QW_p (k_gv (h12.2.2.1 0 _ (by decide) (by rw [eff_o (by decide), eff_s])) rfl rfl) ?_
  refine QW_c (k_60 h12 (fun a ha => hE0 a (by omega))) (fun q13 h13 => ?_)
  refine ci_P h13.1 (by decide) rfl rfl (fun s14 h14 e14 => ?_)
  refine ci_N (k := 37) (F := 0) (R := 8) h14 rfl (by decide) (by decide) rfl rfl rfl rfl (fun s15 h15 e15 => ?_)
  refine QW_ret ⟨(ci_C h15 rfl rfl).le ?_, ?_⟩
  · have l1 : (x_dfl 1).length = 5 := rfl
    have l2 : (x_dfl 2).length = 6 := rfl
    have l4 : (x_dfl 4).length = 12 := rfl
    have l6 : (x_dfl 6).length = 7 := rfl
    omega
  · exact ((e15 20 0 (by omega)).trans ((e14 20 0).trans (h13.2 0))).trans ((e12 20 0 (by omega)).trans ((e11 20 0).trans h10.2))
set_option maxHeartbeats 2000000 in
theorem k_91 (h : CIn 39 (upE (fun _ => none) 38 (some (.inr (7, y_shp 7)))) z s) (hst : q_F s 20 0 = 3) : QW (fun n => g_91 o n 0 s 38) (fun q => CIn 80 (fun _ => none) (z + 600000) q.1 ∧ q_F q.1 20 0 = 3 ∧ q_F q.1 38 17 = 3) := by
  refine QW_s ?_
  simp only [g_91]
  refine ci_A (k := 39) (F := 38) (R := 300) h rfl (by decide) (by decide) rfl rfl rfl rfl (fun s1 h1 e1 => ?_)
  refine ci_A (k := 40) (F := 38) (R := 300) h1 rfl (by decide) (by decide) rfl rfl rfl rfl (fun s2 h2 e2 => ?_)
  refine ci_A (k := 41) (F := 38) (R := 300) h2 rfl (by decide) (by decide) rfl rfl rfl rfl (fun s3 h3 e3 => ?_)
  refine ci_A (k := 42) (F := 38) (R := 300) h3 rfl (by decide) (by decide) rfl rfl rfl rfl (fun s4 h4 e4 => ?_)
  refine ci_A (k := 43) (F := 38) (R := 300) h4 rfl (by decide) (by decide) rfl rfl rfl rfl (fun s5 h5 e5 => ?_)
  refine ci_A (k := 44) (F := 38) (R := 16) h5 rfl (by decide) (by decide) rfl rfl rfl rfl (fun s6 h6 e6 => ?_)
  refine ci_A (k := 45) (F := 38) (R := 20) h6 rfl (by decide) (by decide) rfl rfl rfl rfl (fun s7 h7 e7 => ?_)
  refine ci_A (k := 46) (F := 38) (R := 10000) h7 rfl (by decide) (by decide) rfl rfl rfl rfl (fun s8 h8 e8 => ?_)
  refine ci_A (k := 47) (F := 38) (R := 10000) h8 rfl (by decide) (by decide) rfl rfl rfl rfl (fun s9 h9 e9 => ?_)
  refine ci_A (k := 48) (F := 38) (R := 10000) h9 rfl (by decide) (by decide) rfl rfl rfl rfl (fun s10 h10 e10 => ?_)
  refine ci_A (k := 49) (F := 38) (R := 10000) h10 rfl (by decide) (by decide) rfl rfl rfl rfl (fun s11 h11 e11 => ?_)
  refine ci_A (k := 50) (F := 38) (R := 10000) h11 rfl (by decide) (by decide) rfl rfl rfl rfl (fun s12 h12 e12 => ?_)
  refine ci_A (k := 51) (F := 38) (R := 10000) h12 rfl (by decide) (by decide) rfl rfl rfl rfl (fun s13 h13 e13 => ?_)
  refine ci_I h13 (by decide) rfl rfl (Or.inr (Or.inr ⟨rfl, Or.inl rfl⟩)) (fun s14 h14 f14 e14 => ?_)
  refine ci_I h14 (by decide) rfl rfl (Or.inr (Or.inr ⟨rfl, Or.inr rfl⟩)) (fun s15 h15 f15 e15 => ?_)
  refine ci_A (k := 52) (F := 38) (R := 8) h15 rfl (by decide) (by decide) rfl rfl rfl rfl (fun s16 h16 e16 => ?_)
  refine ci_A (k := 53) (F := 38) (R := 16) h16 rfl (by decide) (by decide) rfl rfl rfl rfl (fun s17 h17 e17 => ?_)
  refine ci_A (k := 54) (F := 38) (R := 8) h17 rfl (by decide) (by decide) rfl rfl rfl rfl (fun s18 h18 e18 => ?_)
  refine ci_A (k := 55) (F := 38) (R := 6144) h18 rfl (by decide) (by decide) rfl rfl rfl rfl (fun s19 h19 e19 => ?_)
  refine ci_A (k := 56) (F := 38) (R := 6144) h19 rfl (by decide) (by decide) rfl rfl rfl rfl (fun s20 h20 e20 => ?_)
  refine ci_A (k := 57) (F := 38) (R := 6144) h20 rfl (by decide) (by decide) rfl rfl rfl rfl (fun s21 h21 e21 => ?_)
  refine ci_A (k := 58) (F := 38) (R := 6144) h21 rfl (by decide) (by decide) rfl rfl rfl rfl (fun s22 h22 e22 => ?_)
  refine ci_A (k := 59) (F := 38) (R := 6144) h22 rfl (by decide) (by decide) rfl rfl rfl rfl (fun s23 h23 e23 => ?_)
  refine ci_A (k := 60) (F := 38) (R := 6144) h23 rfl (by decide) (by decide) rfl rfl rfl rfl (fun s24 h24 e24 => ?_)
  refine ci_A (k := 61) (F := 38) (R := 6144) h24 rfl (by decide) (by decide) rfl rfl rfl rfl (fun s25 h25 e25 => ?_)
  refine ci_A (k := 62) (F := 38) (R := 104) h25 rfl (by decide) (by decide) rfl rfl rfl rfl (fun s26 h26 e26 => ?_)
  refine ci_A (k := 63) (F := 38) (R := 104) h26 rfl (by decide) (by decide) rfl rfl rfl rfl (fun s27 h27 e27 => ?_)
  refine ci_A (k := 64) (F := 38) (R := 104) h27 rfl (by decide) (by decide) rfl rfl rfl rfl (fun s28 h28 e28 => ?_)
  refine ci_A (k := 65) (F := 38) (R := 104) h28 rfl (by decide) (by decide) rfl rfl rfl rfl (fun s29 h29 e29 => ?_)
  refine ci_A (k := 66) (F := 38) (R := 104) h29 rfl (by decide) (by decide) rfl rfl rfl rfl (fun s30 h30 e30 => ?_)
  refine ci_A (k := 67) (F := 38) (R := 104) h30 rfl (by decide) (by decide) rfl rfl rfl rfl (fun s31 h31 e31 => ?_)
  refine ci_A (k := 68) (F := 38) (R := 104) h31 rfl (by decide) (by decide) rfl rfl rfl rfl (fun s32 h32 e32 => ?_)
  refine ci_A (k := 69) (F := 38) (R := 104) h32 rfl (by decide) (by decide) rfl rfl rfl rfl (fun s33 h33 e33 => ?_)
  refine ci_A (k := 70) (F := 38) (R := 64) h33 rfl (by decide) (by decide) rfl rfl rfl rfl (fun s34 h34 e34 => ?_)
  refine ci_A (k := 71) (F := 38) (R := 128) h34 rfl (by decide) (by decide) rfl rfl rfl rfl (fun s35 h35 e35 => ?_)
  refine ci_A (k := 72) (F := 38) (R := 192) h35 rfl (by decide) (by decide) rfl rfl rfl rfl (fun s36 h36 e36 => ?_)
  refine ci_A (k := 73) (F := 38) (R := 245760) h36 rfl (by decide) (by decide) rfl rfl rfl rfl (fun s37 h37 e37 => ?_)
  refine ci_A (k := 74) (F := 38) (R := 49152) h37 rfl (by decide) (by decide) rfl rfl rfl rfl (fun s38 h38 e38 => ?_)
  refine ci_A (k := 75) (F := 38) (R := 49152) h38 rfl (by decide) (by decide) rfl rfl rfl rfl (fun s39 h39 e39 => ?_)
  refine ci_A (k := 76) (F := 38) (R := 3328) h39 rfl (by decide) (by decide) rfl rfl rfl rfl (fun s40 h40 e40 => ?_)
  refine ci_A (k := 77) (F := 38) (R := 2496) h40 rfl (by decide) (by decide) rfl rfl rfl rfl (fun s41 h41 e41 => ?_)
  refine ci_A (k := 78) (F := 38) (R := 832) h41 rfl (by decide) (by decide) rfl rfl rfl rfl (fun s42 h42 e42 => ?_)
  refine ci_A (k := 79) (F := 38) (R := 64) h42 rfl (by decide) (by decide) rfl rfl rfl rfl (fun s43 h43 e43 => ?_)
  refine QW_ret ⟨(ci_C h43 rfl rfl).le (by omega), ?_, ?_⟩
  · show q_I s43 20 0 = 3
    rw [e43 20 0 (by omega), e42 20 0 (by omega), e41 20 0 (by omega), e40 20 0 (by omega), e39 20 0 (by omega), e38 20 0 (by omega), e37 20 0 (by omega), e36 20 0 (by omega), e35 20 0 (by omega), e34 20 0 (by omega), e33 20 0 (by omega), e32 20 0 (by omega), e31 20 0 (by omega), e30 20 0 (by omega), e29 20 0 (by omega), e28 20 0 (by omega), e27 20 0 (by omega), e26 20 0 (by omega), e25 20 0 (by omega), e24 20 0 (by omega), e23 20 0 (by omega), e22 20 0 (by omega), e21 20 0 (by omega), e20 20 0 (by omega), e19 20 0 (by omega), e18 20 0 (by omega), e17 20 0 (by omega), e16 20 0 (by omega), e15 20 0 (by omega), e14 20 0 (by omega), e13 20 0 (by omega), e12 20 0 (by omega), e11 20 0 (by omega), e10 20 0 (by omega), e9 20 0 (by omega), e8 20 0 (by omega), e7 20 0 (by omega), e6 20 0 (by omega), e5 20 0 (by omega), e4 20 0 (by omega), e3 20 0 (by omega), e2 20 0 (by omega), e1 20 0 (by omega)]
    exact hst
  · show q_I s43 38 17 = 3
    rw [e43 38 17 (by omega), e42 38 17 (by omega), e41 38 17 (by omega), e40 38 17 (by omega), e39 38 17 (by omega), e38 38 17 (by omega), e37 38 17 (by omega), e36 38 17 (by omega), e35 38 17 (by omega), e34 38 17 (by omega), e33 38 17 (by omega), e32 38 17 (by omega), e31 38 17 (by omega), e30 38 17 (by omega), e29 38 17 (by omega), e28 38 17 (by omega), e27 38 17 (by omega), e26 38 17 (by omega), e25 38 17 (by omega), e24 38 17 (by omega), e23 38 17 (by omega), e22 38 17 (by omega), e21 38 17 (by omega), e20 38 17 (by omega), e19 38 17 (by omega), e18 38 17 (by omega), e17 38 17 (by omega), e16 38 17 (by omega), e15 38 17 (by omega)]
    exact f14
end CTR
