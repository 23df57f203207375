/-! THE CLASS'S NODES: sizes, and what is added -/
theorem NK_p {T : PT} {i : Int} (h : NK T i) : (P_1 T i = -1 ∨ (0 ≤ P_1 T i ∧ P_1 T i < i)) ∧ (P_2 T i = -1 ∨ (0 ≤ P_2 T i ∧ P_2 T i < i)) ∧ (P_3 T i = -1 ∨ (0 ≤ P_3 T i ∧ P_3 T i < i)) := by
  unfold NK pE pT at h
  rcases h with ⟨h1, h2, ha, hb, hc, _⟩ | ⟨h1, ha, hb, hc, _⟩ | ⟨h1, ha, hb, hc, _⟩ | ⟨h1, ha, hb, hc, _⟩ | ⟨h1, ha, hb, hc, _⟩ | ⟨h1, ha, hb, hc, _⟩ | ⟨h1, ha, hb, hc, _⟩ | ⟨h1, ha, hb, hc, _⟩ | ⟨h1, ha, hb, hc, _⟩ | ⟨h1, ha, hb, hc, _⟩ | ⟨h1, ha, hb, hc, _⟩ | ⟨h1, ha, hb, hc, _⟩ | ⟨h1, ha, hb, hc, _⟩ <;> refine ⟨?_, ?_, ?_⟩ <;> first | exact Or.inl ha | exact Or.inl hb | exact Or.inl hc | exact Or.inr ⟨ha.1, ha.2.1⟩ | exact Or.inr ⟨hb.1, hb.2.1⟩ | exact Or.inr ⟨hc.1, hc.2.1⟩ | exact hc.imp id (fun z => ⟨z.1, z.2.1⟩)
theorem nsz_0 (T : PT) : ∀ (f : Nat) (i : Int), 0 ≤ nsz T f i := by
  intro f
  induction f with
  | zero => intro i; exact Int.le_refl _
  | succ f ih =>
    intro i
    have h1 := ih (P_1 T i)
    have h2 := ih (P_2 T i)
    have h3 := ih (P_3 T i)
    simp only [nsz]
    split <;> split <;> split <;> omega
theorem nsz_f {T : PT} (hV : NV T) : ∀ (f f' : Nat) (i : Int), 0 ≤ i → i < P_n T → i < f → i < f' → nsz T f i = nsz T f' i := by
  intro f
  induction f with
  | zero => intro f' i i0 _ h; omega
  | succ f ih =>
    intro f' i i0 i1 h h'
    cases f' with
    | zero => omega
    | succ g =>
      obtain ⟨p1, p2, p3⟩ := NK_p (hV i i0 i1)
      have e : ∀ x, (x = -1 ∨ (0 ≤ x ∧ x < i)) → (if x = -1 then 0 else nsz T f x) = (if x = -1 then 0 else nsz T g x) := fun x hx => by
        by_cases z : x = -1
        · rw [if_pos z, if_pos z]
        · rw [if_neg z, if_neg z]
          exact ih g x (by omega) (by omega) (by omega) (by omega)
      simp only [nsz]
      rw [e _ p1, e _ p2, e _ p3]
theorem upN_o {α : Type} {f : Int → α} {j : Int} {v : α} {i : Int} (h : i ≠ j) : upN f j v i = f i := if_neg h
theorem upN_s {α : Type} {f : Int → α} {j : Int} {v : α} : upN f j v j = v := if_pos rfl
section CNG
variable {o : X_O} {T : PT} {s : Q_S} {i w a b c : Int} {v : Int64}
theorem add_o (h : i ≠ P_n T) : P_w (addN T w v a b c) i = P_w T i ∧ P_v (addN T w v a b c) i = P_v T i ∧ P_1 (addN T w v a b c) i = P_1 T i ∧ P_2 (addN T w v a b c) i = P_2 T i ∧ P_3 (addN T w v a b c) i = P_3 T i := ⟨if_neg h, if_neg h, if_neg h, if_neg h, if_neg h⟩
theorem add_s : P_w (addN T w v a b c) (P_n T) = w ∧ P_v (addN T w v a b c) (P_n T) = v ∧ P_1 (addN T w v a b c) (P_n T) = a ∧ P_2 (addN T w v a b c) (P_n T) = b ∧ P_3 (addN T w v a b c) (P_n T) = c := ⟨if_pos rfl, if_pos rfl, if_pos rfl, if_pos rfl, if_pos rfl⟩
theorem nsz_add (hV : NV T) : ∀ (f : Nat) (i : Int), 0 ≤ i → i < P_n T → nsz (addN T w v a b c) f i = nsz T f i := by
  intro f
  induction f with
  | zero => intro i _ _; rfl
  | succ f ih =>
    intro i i0 i1
    obtain ⟨_, _, e1, e2, e3⟩ := add_o (T := T) (w := w) (v := v) (a := a) (b := b) (c := c) (show i ≠ P_n T by omega)
    obtain ⟨p1, p2, p3⟩ := NK_p (hV i i0 i1)
    have e : ∀ x, (x = -1 ∨ (0 ≤ x ∧ x < i)) → (if x = -1 then 0 else nsz (addN T w v a b c) f x) = (if x = -1 then 0 else nsz T f x) := fun x hx => by
      by_cases z : x = -1
      · rw [if_pos z, if_pos z]
      · rw [if_neg z, if_neg z]
        exact ih x (by omega) (by omega)
    simp only [nsz]
    rw [e1, e2, e3, e _ p1, e _ p2, e _ p3]
theorem pE_add {j : Int} (h : pE T i j) (hi : i ≤ P_n T) : pE (addN T w v a b c) i j := ⟨h.1, h.2.1, by rw [(add_o (show j ≠ P_n T by have := h.2.1; omega)).1]; exact h.2.2⟩
theorem pT_add {j : Int} (h : pT T i j) (hi : i ≤ P_n T) : pT (addN T w v a b c) i j := ⟨h.1, h.2.1, by rw [(add_o (show j ≠ P_n T by have := h.2.1; omega)).1]; exact h.2.2⟩
theorem NK_add (h : NK T i) (i1 : i < P_n T) : NK (addN T w v a b c) i := by
  obtain ⟨e0, e4, e1, e2, e3⟩ := add_o (T := T) (w := w) (v := v) (a := a) (b := b) (c := c) (show i ≠ P_n T by omega)
  have E : ∀ {j : Int}, pE T i j → pE (addN T w v a b c) i j := fun h => pE_add h (by omega)
  have S : ∀ {j : Int}, pT T i j → pT (addN T w v a b c) i j := fun h => pT_add h (by omega)
  unfold NK
  rw [e0, e4, e1, e2, e3]
  rcases h with h | h | h | h | h | h | h | h | h | h | h | h | h
  · exact Or.inl h
  · exact Or.inr (Or.inl ⟨h.1, E h.2.1, h.2.2⟩)
  · exact Or.inr (Or.inr (Or.inl ⟨h.1, E h.2.1, E h.2.2.1, h.2.2.2⟩))
  · exact Or.inr (Or.inr (Or.inr (Or.inl ⟨h.1, E h.2.1, h.2.2⟩)))
  · exact Or.inr (Or.inr (Or.inr (Or.inr (Or.inl ⟨h.1, E h.2.1, h.2.2⟩))))
  · exact Or.inr (Or.inr (Or.inr (Or.inr (Or.inr (Or.inl ⟨h.1, E h.2.1, E h.2.2.1, h.2.2.2⟩)))))
  · exact Or.inr (Or.inr (Or.inr (Or.inr (Or.inr (Or.inr (Or.inl ⟨h.1, S h.2.1, S h.2.2.1, h.2.2.2⟩))))))
  · exact Or.inr (Or.inr (Or.inr (Or.inr (Or.inr (Or.inr (Or.inr (Or.inl ⟨h.1, E h.2.1, S h.2.2.1, h.2.2.2.1.imp id S, h.2.2.2.2⟩)))))))
  · exact Or.inr (Or.inr (Or.inr (Or.inr (Or.inr (Or.inr (Or.inr (Or.inr (Or.inl ⟨h.1, E h.2.1, S h.2.2.1, S h.2.2.2.1, h.2.2.2.2⟩))))))))
  · exact Or.inr (Or.inr (Or.inr (Or.inr (Or.inr (Or.inr (Or.inr (Or.inr (Or.inr (Or.inl ⟨h.1, E h.2.1, S h.2.2.1, h.2.2.2⟩)))))))))
  · exact Or.inr (Or.inr (Or.inr (Or.inr (Or.inr (Or.inr (Or.inr (Or.inr (Or.inr (Or.inr (Or.inl h))))))))))
  · exact Or.inr (Or.inr (Or.inr (Or.inr (Or.inr (Or.inr (Or.inr (Or.inr (Or.inr (Or.inr (Or.inr (Or.inl ⟨h.1, S h.2.1, h.2.2⟩)))))))))))
  · exact Or.inr (Or.inr (Or.inr (Or.inr (Or.inr (Or.inr (Or.inr (Or.inr (Or.inr (Or.inr (Or.inr (Or.inr ⟨h.1, S h.2.1, h.2.2⟩)))))))))))
theorem NK_es (h : NK T i) : ((P_w T i < 10 ∨ 100 ≤ P_w T i) → isE (P_w T i)) ∧ (¬ (P_w T i < 10 ∨ 100 ≤ P_w T i) → isS (P_w T i)) := by
  unfold isE isS
  rcases h with ⟨h1, h2, _⟩ | ⟨h1, _⟩ | ⟨h1, _⟩ | ⟨h1, _⟩ | ⟨h1, _⟩ | ⟨h1, _⟩ | ⟨h1, _⟩ | ⟨h1, _⟩ | ⟨h1, _⟩ | ⟨h1, _⟩ | ⟨h1, _⟩ | ⟨h1, _⟩ | ⟨h1, _⟩ <;> omega
theorem eE_p (hV : NV T) (h : eE T i = true) : pE T (P_n T) i := by
  have h := of_decide_eq_true h
  exact ⟨h.1, h.2.1, (NK_es (hV i h.1 h.2.1)).1 h.2.2⟩
theorem eS_p (hV : NV T) (h : eS T i = true) : pT T (P_n T) i := by
  have h := of_decide_eq_true h
  exact ⟨h.1, h.2.1, (NK_es (hV i h.1 h.2.1)).2 h.2.2⟩
/-- a part's places -/
def pz (T : PT) (i j : Int) : Int := if prt T i j = -1 then 0 else m501 (nsz T 301 (prt T i j))
theorem st27 (ho : o 1 = some (66, fun i => x_WANTED.getD i 0)) (hs : SH s) (hK : NK T i) (hR : NCr T s i) (i0 : 0 ≤ i ∧ i < 300) (hz : ∀ j, 0 ≤ j → j < i → q_I s 5 j = m501 (nsz T 301 j)) {j : Int} (j0 : 0 ≤ j) (j3 : j < 3) {acc : Int} {Q : Q_S × Int → Prop} (K : QW (fun n => g_27 o n 1 s 1 i (acc + pz T i j) (j + 1)) Q) : QW (fun n => g_27 o n 1 s 1 i acc j) Q := by
  have w4 := (wn_prt hK j0 j3).2.2.2.1
  have r2 := hR.2.1 j j0 j3
  unfold pz at K
  refine QW_s ?_
  simp only [g_27]
  refine QW_g (by unfold q_in; omega) ?_
  refine QW_if (by omega) ?_
  refine QW_p (k_rc (hs _ _ rfl)) ?_
  refine QW_e (d_28 ho hs hK hR i0 j0 j3) ?_
  by_cases y : prt T i j = -1
  · simp only [if_pos y] at K ⊢
    refine QW_g (by decide) ?_
    refine QW_it (by simp) ?_
    refine QW_s ?_
    simp only [g_27]
    rw [Int.add_zero] at K
    exact K
  · simp only [if_neg y] at K ⊢
    obtain ⟨y0, y1⟩ := w4 y
    refine QW_g (by decide) ?_
    refine QW_if (by decide) ?_
    refine QW_p (k_gv (hs _ _ rfl) rfl rfl) ?_
    refine QW_p (k_gv (hs _ _ rfl) rfl rfl) ?_
    refine QW_p (k_ia (hs _ _ rfl) (by omega) (by omega) (by decide)) ?_
    rw [r2 y]
    refine QW_p (k_ia (hs _ _ rfl) (by omega) (by omega) (by decide)) ?_
    rw [hz _ y0 y1]
    refine QW_s ?_
    simp only [g_27]
    exact K
theorem m501_b {x : Int} (h : 0 ≤ x) : 0 ≤ m501 x ∧ m501 x ≤ 501 := by
  unfold m501
  split <;> omega
theorem pz_b {j : Int} : 0 ≤ pz T i j ∧ pz T i j ≤ 501 := by
  unfold pz
  split
  · omega
  · exact m501_b (nsz_0 _ _ _)
theorem m501_3 {x y z : Int} (hx : 0 ≤ x) (hy : 0 ≤ y) (hz : 0 ≤ z) : m501 (1 + m501 x + m501 y + m501 z) = m501 (1 + x + y + z) := by
  unfold m501
  repeat' split
  all_goals omega
theorem m501_0 : m501 0 = 0 := rfl
theorem pz_sum (hV : NV T) (hK : NK T i) (i0 : 0 ≤ i ∧ i < 300) (hi : i ≤ P_n T) : m501 (1 + pz T i 0 + pz T i 1 + pz T i 2) = m501 (nsz T 301 i) := by
  obtain ⟨p1, p2, p3⟩ := NK_p hK
  have e : ∀ x, (x = -1 ∨ (0 ≤ x ∧ x < i)) → (if x = -1 then 0 else m501 (nsz T 301 x)) = m501 (if x = -1 then 0 else nsz T 300 x) := fun x hx => by
    by_cases z : x = -1
    · rw [if_pos z, if_pos z]; rfl
    · rw [if_neg z, if_neg z, nsz_f hV 301 300 x (by omega) (by omega) (by omega) (by omega)]
  have g : ∀ x, 0 ≤ (if x = -1 then 0 else nsz T 300 x) := fun x => by
    split
    · omega
    · exact nsz_0 _ _ _
  have n : nsz T 301 i = 1 + (if P_1 T i = -1 then 0 else nsz T 300 (P_1 T i)) + (if P_2 T i = -1 then 0 else nsz T 300 (P_2 T i)) + (if P_3 T i = -1 then 0 else nsz T 300 (P_3 T i)) := rfl
  rw [n, ← m501_3 (g _) (g _) (g _), ← e _ p1, ← e _ p2, ← e _ p3]
  unfold pz prt
  cases hw : hNm (P_w T i) with
  | false => rfl
  | true =>
    have q3 : P_3 T i = -1 := by
      have hw := of_decide_eq_true hw
      rcases hK with ⟨h1, h2, ha, hb, hc, _⟩ | ⟨h1, ha, hb, hc, _⟩ | ⟨h1, ha, hb, hc, _⟩ | ⟨h1, ha, hb, hc, _⟩ | ⟨h1, ha, hb, hc, _⟩ | ⟨h1, ha, hb, hc, _⟩ | ⟨h1, ha, hb, hc, _⟩ | ⟨h1, ha, hb, hc, _⟩ | ⟨h1, ha, hb, hc, _⟩ | ⟨h1, ha, hb, hc, _⟩ | ⟨h1, ha, hb, hc, _⟩ | ⟨h1, ha, hb, hc, _⟩ | ⟨h1, ha, hb, hc, _⟩ <;> first | exact hc | omega
    rw [q3]
    show m501 (1 + 0 + (if P_1 T i = -1 then 0 else m501 (nsz T 301 (P_1 T i))) + (if P_2 T i = -1 then 0 else m501 (nsz T 301 (P_2 T i)))) = m501 (1 + (if P_1 T i = -1 then 0 else m501 (nsz T 301 (P_1 T i))) + (if P_2 T i = -1 then 0 else m501 (nsz T 301 (P_2 T i))) + 0)
    congr 1
    omega
/-- sizeWithParts -/
theorem d_27 (ho : o 1 = some (66, fun i => x_WANTED.getD i 0)) (hs : SH s) (hV : NV T) (hK : NK T i) (hR : NCr T s i) (i0 : 0 ≤ i ∧ i < 300) (hi : i ≤ P_n T) (hz : ∀ j, 0 ≤ j → j < i → q_I s 5 j = m501 (nsz T 301 j)) : QW (fun n => g_27 o n 0 s 1 i 0 0) (fun q => q = (s, m501 (nsz T 301 i))) := by
  refine QW_s ?_
  simp only [g_27]
  refine st27 ho hs hK hR i0 hz (by decide) (by decide) ?_
  refine st27 ho hs hK hR i0 hz (by decide) (by decide) ?_
  refine st27 ho hs hK hR i0 hz (by decide) (by decide) ?_
  refine QW_s ?_
  simp only [g_27]
  refine QW_g (by decide) ?_
  refine QW_it (by decide) ?_
  have b0 := pz_b (T := T) (i := i) (j := 0)
  have b1 := pz_b (T := T) (i := i) (j := 0 + 1)
  have b2 := pz_b (T := T) (i := i) (j := 0 + 1 + 1)
  refine QW_g ⟨by unfold q_in; omega, by decide⟩ ?_
  refine QW_ret ?_
  rw [← pz_sum hV hK i0 hi]
  rfl
end CNG
