/-! WHAT A DECOMPILED METHOD ANSWERS, for all fuel that is enough -/
def QW {α : Type} (f : Nat → Option α) (Q : α → Prop) : Prop := ∃ N a, Q a ∧ ∀ n, N ≤ n → f n = some a
section QWR
variable {α β : Type} {Q Q' : β → Prop}
theorem QW_ret {a : β} (h : Q a) : QW (fun _ => some a) Q := ⟨0, a, h, fun _ _ => rfl⟩
theorem QW_p {p : Option α} {v : α} {k : Nat → α → Option β} (h : p = some v) (K : QW (fun n => k n v) Q) : QW (fun n => p.bind (k n)) Q := by
  subst h
  exact K
theorem QW_g {p : Prop} [Decidable p] {k : Nat → Unit → Option β} (h : p) (K : QW (fun n => k n ()) Q) : QW (fun n => (q_g p).bind (k n)) Q := QW_p (if_pos h) K
theorem QW_it {p : Prop} [Decidable p] {f g : Nat → Option β} (h : p) (K : QW f Q) : QW (fun n => if p then f n else g n) Q := by
  obtain ⟨N, a, h1, h2⟩ := K
  exact ⟨N, a, h1, fun n hn => (if_pos h).trans (h2 n hn)⟩
theorem QW_if {p : Prop} [Decidable p] {f g : Nat → Option β} (h : ¬ p) (K : QW g Q) : QW (fun n => if p then f n else g n) Q := by
  obtain ⟨N, a, h1, h2⟩ := K
  exact ⟨N, a, h1, fun n hn => (if_neg h).trans (h2 n hn)⟩
theorem QW_by {p : Prop} [Decidable p] {f g : Nat → Option β} (K1 : p → QW f Q) (K2 : ¬ p → QW g Q) : QW (fun n => if p then f n else g n) Q := by
  by_cases h : p
  · exact QW_it h (K1 h)
  · exact QW_if h (K2 h)
theorem QW_c {f : Nat → Option α} {Q1 : α → Prop} {k : Nat → α → Option β} (h : QW f Q1) (K : ∀ a, Q1 a → QW (fun n => k n a) Q) : QW (fun n => (f n).bind (k n)) Q := by
  obtain ⟨N1, a, h1, h2⟩ := h
  obtain ⟨N2, b, h3, h4⟩ := K a h1
  refine ⟨max N1 N2, b, h3, fun n hn => ?_⟩
  show (f n).bind (k n) = some b
  rw [h2 n (Nat.le_trans (Nat.le_max_left _ _) hn)]
  exact h4 n (Nat.le_trans (Nat.le_max_right _ _) hn)
theorem QW_e {f : Nat → Option α} {a : α} {k : Nat → α → Option β} (h : QW f (fun q => q = a)) (K : QW (fun n => k n a) Q) : QW (fun n => (f n).bind (k n)) Q := QW_c h (fun b e => by subst e; exact K)
theorem QW_s {f : Nat → Option β} (K : QW (fun n => f (n + 1)) Q) : QW f Q := by
  obtain ⟨N, a, h1, h2⟩ := K
  refine ⟨N + 1, a, h1, fun n hn => ?_⟩
  obtain ⟨m, rfl⟩ : ∃ m, n = m + 1 := ⟨n - 1, by omega⟩
  exact h2 m (by omega)
theorem QW_m {f : Nat → Option β} (h : QW f Q) (m : ∀ a, Q a → Q' a) : QW f Q' := by
  obtain ⟨N, a, h1, h2⟩ := h
  exact ⟨N, a, m a h1, h2⟩
end QWR
/-! reading the store -/
def q_I (s : Q_S) (c : Nat) (j : Int) : Int := s.2.2.2.1 c j
def q_L (s : Q_S) (c : Nat) (j : Int) : Int64 := s.2.2.2.2 c j
/-- a field that holds an int; its store -/
def q_F (s : Q_S) (c f : Nat) : Int := s.2.2.2.1 c (f : Int)
def q_sf (s : Q_S) (a f : Nat) (v : Int) : Q_S := q_si s a (f : Int) v
def q_T (s : Q_S) (c : Nat) : Option Y_T := s.2.2.1 c
section QRD
variable {s : Q_S} {a c : Nat} {i j : Int}
theorem q_I_si {v : Int} : q_I (q_si s a j v) c i = if c = a ∧ i = j then v else q_I s c i := rfl
theorem q_I_sl {v : Int64} : q_I (q_sl s a j v) c i = q_I s c i := rfl
theorem q_I_st {t : Y_T} : q_I (q_st s a t) c i = q_I s c i := rfl
theorem q_I_nw {sl : Nat} {t : Y_T} : q_I (q_nw s sl t) c i = if c = s.1 then 0 else q_I s c i := rfl
theorem q_I_cI {a1 : Nat} {sp dp n : Int} : q_I (q_cI s a a1 sp dp n) c i = if c = a1 ∧ dp ≤ i ∧ i < dp + n then q_I s a (sp + (i - dp)) else q_I s c i := rfl
theorem q_I_cL {a1 : Nat} {sp dp n : Int} : q_I (q_cL s a a1 sp dp n) c i = q_I s c i := rfl
theorem q_L_si {v : Int} : q_L (q_si s a j v) c i = q_L s c i := rfl
theorem q_L_sl {v : Int64} : q_L (q_sl s a j v) c i = if c = a ∧ i = j then v else q_L s c i := rfl
theorem q_L_st {t : Y_T} : q_L (q_st s a t) c i = q_L s c i := rfl
theorem q_L_nw {sl : Nat} {t : Y_T} : q_L (q_nw s sl t) c i = if c = s.1 then 0 else q_L s c i := rfl
theorem q_L_cL {a1 : Nat} {sp dp n : Int} : q_L (q_cL s a a1 sp dp n) c i = if c = a1 ∧ dp ≤ i ∧ i < dp + n then q_L s a (sp + (i - dp)) else q_L s c i := rfl
theorem q_L_cI {a1 : Nat} {sp dp n : Int} : q_L (q_cI s a a1 sp dp n) c i = q_L s c i := rfl
theorem q_T_si {v : Int} : q_T (q_si s a j v) c = q_T s c := rfl
theorem q_T_sl {v : Int64} : q_T (q_sl s a j v) c = q_T s c := rfl
theorem q_T_cI {a1 : Nat} {sp dp n : Int} : q_T (q_cI s a a1 sp dp n) c = q_T s c := rfl
theorem q_T_cL {a1 : Nat} {sp dp n : Int} : q_T (q_cL s a a1 sp dp n) c = q_T s c := rfl
theorem q_T_st {t : Y_T} : q_T (q_st s a t) c = if c = a then some t else q_T s c := rfl
theorem q_T_nw {sl : Nat} {t : Y_T} : q_T (q_nw s sl t) c = if c = s.1 then some t else q_T s c := rfl
theorem q_F_sf {f h : Nat} {v : Int} : q_F (q_sf s a f v) c h = if c = a ∧ h = f then v else q_F s c h := by
  show (if c = a ∧ (h : Int) = (f : Int) then v else q_F s c h) = _
  by_cases e : h = f
  · subst e
    simp
  · rw [if_neg (fun z => e (by omega)), if_neg (fun z => e z.2)]
theorem q_F_si {f : Nat} {v : Int} : q_F (q_si s a j v) c f = if c = a ∧ (f : Int) = j then v else q_F s c f := rfl
theorem q_F_sl {f : Nat} {v : Int64} : q_F (q_sl s a j v) c f = q_F s c f := rfl
theorem q_F_st {f : Nat} {t : Y_T} : q_F (q_st s a t) c f = q_F s c f := rfl
theorem q_F_nw {f sl : Nat} {t : Y_T} : q_F (q_nw s sl t) c f = if c = s.1 then 0 else q_F s c f := rfl
theorem q_F_cL {f a1 : Nat} {sp dp n : Int} : q_F (q_cL s a a1 sp dp n) c f = q_F s c f := rfl
theorem q_I_sf {f : Nat} {v : Int} : q_I (q_sf s a f v) c i = if c = a ∧ i = (f : Int) then v else q_I s c i := rfl
theorem q_L_sf {f : Nat} {v : Int} : q_L (q_sf s a f v) c i = q_L s c i := rfl
theorem q_T_sf {f : Nat} {v : Int} : q_T (q_sf s a f v) c = q_T s c := rfl
end QRD
/-! the primitives, where the cell's shape is known -/
section QPR
variable {o : X_O} {s : Q_S} {a n ci f : Nat} {fs : List (Option Value)} {g : Nat → Option Nat} {j : Int}
theorem k_gi (h : q_T s a = some (.inr (ci, fs))) (hf : fs[f]? = some none) : q_gi s ci (.ref a) f = some (q_F s a f) := by
  simp only [q_gi, show s.2.2.1 a = _ from h]
  rw [if_pos ⟨trivial, hf⟩]
  rfl
theorem k_gv {v : Value} (h : q_T s a = some (.inr (ci, fs))) (hf : fs[f]? = some (some v)) (hv : y_rv v = true) : q_gv s ci (.ref a) f = some v := by
  have e : (q_y s).2.2.1 a = some (.inr (ci, fs)) := h
  simp only [q_gv, y_gv, y_gr, e, if_true, hf]
  show (if y_rv v = true then some v else none) = some v
  rw [if_pos hv]
theorem k_pi {x : Int} (h : q_T s a = some (.inr (ci, fs))) (hf : fs[f]? = some none) (ht : x_fty ci f = .int) : q_pi s ci (.ref a) f x = some (q_sf s a f x) := by
  simp only [q_pi, show s.2.2.1 a = _ from h]
  rw [if_pos ⟨trivial, hf, ht⟩]
  rfl
theorem k_pz {x : Int} (h : q_T s a = some (.inr (ci, fs))) (hf : fs[f]? = some none) (ht : x_fty ci f = .boolean) (hx : x = 0 ∨ x = 1) : q_pz s ci (.ref a) f x = some (q_sf s a f x) := by
  simp only [q_pz, show s.2.2.1 a = _ from h]
  rw [if_pos ⟨trivial, hf, ht, hx⟩]
  rfl
theorem k_pr {u x : Value} (h : q_T s a = some (.inr (ci, fs))) (hf : fs[f]? = some (some u)) (ht : x_fit (x_fty ci f) x = true) : q_pr s ci (.ref a) f x = some (q_st s a (.inr (ci, fs.set f (some x)))) := by
  simp only [q_pr, show s.2.2.1 a = _ from h]
  rw [if_pos ⟨trivial, ht⟩, hf]
theorem k_ia (h : q_T s a = some (.inl (.int, n, g))) (h0 : 0 ≤ j) (h1 : j < n) (h2 : n ≤ 67108864) : q_ia o s (.ref a) j = some (q_I s a j) := by
  simp only [q_ia, show s.2.2.1 a = _ from h]
  rw [if_pos ⟨h0, h1, by omega⟩]
  rfl
theorem k_la (h : q_T s a = some (.inl (.long, n, g))) (h0 : 0 ≤ j) (h1 : j < n) (h2 : n ≤ 67108864) : q_la s (.ref a) j = some (q_L s a j) := by
  simp only [q_la, show s.2.2.1 a = _ from h]
  rw [if_pos ⟨h0, h1, by omega⟩]
  rfl
theorem k_ba (h : q_T s a = some (.inl (.boolean, n, g))) (h0 : 0 ≤ j) (h1 : j < n) (h2 : n ≤ 67108864) : q_ba s (.ref a) j = some (q_I s a j) := by
  simp only [q_ba, show s.2.2.1 a = _ from h]
  rw [if_pos ⟨h0, h1, by omega⟩]
  rfl
theorem k_is {x : Int} (h : q_T s a = some (.inl (.int, n, g))) (h0 : 0 ≤ j) (h1 : j < n) (h2 : n ≤ 67108864) : q_is s (.ref a) j x = some (q_si s a j x) := by
  simp only [q_is, show s.2.2.1 a = _ from h]
  rw [if_pos ⟨h0, h1, by omega⟩]
theorem k_ls {x : Int64} (h : q_T s a = some (.inl (.long, n, g))) (h0 : 0 ≤ j) (h1 : j < n) (h2 : n ≤ 67108864) : q_ls s (.ref a) j x = some (q_sl s a j x) := by
  simp only [q_ls, show s.2.2.1 a = _ from h]
  rw [if_pos ⟨h0, h1, by omega⟩]
theorem k_bs {x : Int} (h : q_T s a = some (.inl (.boolean, n, g))) (h0 : 0 ≤ j) (h1 : j < n) (h2 : n ≤ 67108864) (hx : x = 0 ∨ x = 1) : q_bs s (.ref a) j x = some (q_si s a j x) := by
  simp only [q_bs, show s.2.2.1 a = _ from h]
  rw [if_pos ⟨⟨h0, h1, by omega⟩, hx⟩]
theorem k_aa {C : String} (h : q_T s a = some (.inl (.object C, n, g))) (h0 : 0 ≤ j) (h1 : j < n) (h2 : n ≤ 67108864) (he : x_et (.object C) = true) : q_aa s (.ref a) j = some (va_rf (g j.toNat)) := by
  simp only [q_aa, show s.2.2.1 a = _ from h]
  rw [if_pos ⟨⟨h0, h1, by omega⟩, he⟩]
theorem k_as {C : String} {u cj : Nat} {fu : List (Option Value)} (h : q_T s a = some (.inl (.object C, n, g))) (hu : q_T s u = some (.inr (cj, fu))) (h0 : 0 ≤ j) (h1 : j < n) (h2 : n ≤ 67108864) (hc : x_cn cj = some C) (he : x_et (.object C) = true) : q_as s (.ref a) j (.ref u) = some (q_st s a (.inl (.object C, n, va_up g j.toNat (some u)))) := by
  simp only [q_as, show s.2.2.1 a = _ from h, show s.2.2.1 u = _ from hu]
  rw [if_pos ⟨⟨h0, h1, by omega⟩, hc, he⟩]
theorem k_ln {ty : FieldType} (h : q_T s a = some (.inl (ty, n, g))) (he : x_et ty = true) : q_ln o s (.ref a) = some (n : Int) := by
  simp only [q_ln, show s.2.2.1 a = _ from h]
  rw [if_pos he]
theorem k_rc (h : q_T s a = some (.inr (ci, fs))) : q_rcv s ci (.ref a) = some a := by
  have e : (q_y s).2.2.1 a = some (.inr (ci, fs)) := h
  simp only [q_rcv, y_rcv, e, if_true]
theorem k_na {ty : FieldType} {x : Int} (h0 : 0 ≤ x) (h1 : x ≤ 67108864) : q_na s ty x = some (q_nw s x.toNat (.inl (ty, x.toNat, fun _ => none))) := if_pos ⟨h0, h1⟩
theorem k_cI {a0 a1 n0 n1 : Nat} {g0 g1 : Nat → Option Nat} {sp dp x : Int} (hT0 : q_T s a0 = some (.inl (.int, n0, g0))) (hT1 : q_T s a1 = some (.inl (.int, n1, g1))) (h0 : 0 ≤ sp) (h1 : 0 ≤ dp) (h2 : 0 ≤ x) (h3 : sp + x ≤ n0) (h4 : dp + x ≤ n1) (h5 : n0 ≤ 67108864) (h6 : n1 ≤ 67108864) : q_cp s (.ref a0) sp (.ref a1) dp x = some (q_cI s a0 a1 sp dp x) := by
  simp only [q_cp, show s.2.2.1 a0 = _ from hT0, show s.2.2.1 a1 = _ from hT1]
  rw [if_pos ⟨h0, h1, h2⟩, if_pos ⟨h3, h4, by omega, by omega⟩]
theorem k_cL {a0 a1 n0 n1 : Nat} {g0 g1 : Nat → Option Nat} {sp dp x : Int} (hT0 : q_T s a0 = some (.inl (.long, n0, g0))) (hT1 : q_T s a1 = some (.inl (.long, n1, g1))) (h0 : 0 ≤ sp) (h1 : 0 ≤ dp) (h2 : 0 ≤ x) (h3 : sp + x ≤ n0) (h4 : dp + x ≤ n1) (h5 : n0 ≤ 67108864) (h6 : n1 ≤ 67108864) : q_cp s (.ref a0) sp (.ref a1) dp x = some (q_cL s a0 a1 sp dp x) := by
  simp only [q_cp, show s.2.2.1 a0 = _ from hT0, show s.2.2.1 a1 = _ from hT1]
  rw [if_pos ⟨h0, h1, h2⟩, if_pos ⟨h3, h4, by omega, by omega⟩]
end QPR
