/-! WALKING THE CLASS'S FRAMES: below, to the right -/
def fbV (v : CV) (x : Int) : Int := if vI v 4 x = -1 then vI v 5 x else vI v 4 x
def ttr (v : CV) : Nat → Int → Int
  | 0, _ => -1
  | f + 1, x => if vI v 3 x = -1 then -1 else if vI v 4 (vI v 3 x) = x ∧ ¬ vI v 5 (vI v 3 x) = -1 then vI v 5 (vI v 3 x) else ttr v f (vI v 3 x)
def lfb (v : CV) : Nat → Int → Int
  | 0, x => x
  | f + 1, x => if x = -1 then -1 else if fbV v x = -1 then x else lfb v f (fbV v x)
theorem fbV_rg {v : CV} (hb : VB v) {x : Int} (h0 : 0 ≤ x) (h1 : x < v_u v) : -1 ≤ fbV v x ∧ fbV v x < v_u v := by
  obtain ⟨b1, b2, b3, b4, b5, b6⟩ := hb.1 x h0 h1
  unfold fbV
  split <;> omega
theorem ttr_rg {v : CV} (hb : VB v) : ∀ (f : Nat) (x : Int), 0 ≤ x → x < v_u v → -1 ≤ ttr v f x ∧ ttr v f x < v_u v := by
  intro f
  induction f with
  | zero => intro x h0 h1; exact ⟨Int.le_refl _, by show (-1 : Int) < v_u v; omega⟩
  | succ f ih =>
    intro x h0 h1
    obtain ⟨b1, b2, b3, b4, b5, b6⟩ := hb.1 x h0 h1
    simp only [ttr]
    by_cases z : vI v 3 x = -1
    · rw [if_pos z]; omega
    · rw [if_neg z]
      obtain ⟨c1, c2, c3, c4, c5, c6⟩ := hb.1 (vI v 3 x) (by omega) b3.2
      split
      · exact c5
      · exact ih _ (by omega) b3.2
theorem lfb_rg {v : CV} (hb : VB v) : ∀ (f : Nat) (x : Int), -1 ≤ x → x < v_u v → -1 ≤ lfb v f x ∧ lfb v f x < v_u v := by
  intro f
  induction f with
  | zero => intro x h0 h1; exact ⟨h0, h1⟩
  | succ f ih =>
    intro x h0 h1
    simp only [lfb]
    by_cases z : x = -1
    · rw [if_pos z]; omega
    · rw [if_neg z]
      have := fbV_rg hb (x := x) (by omega) h1
      split
      · omega
      · exact ih _ this.1 this.2
section CWK
variable {o : X_O} {s : Q_S} {c room : Nat} {v : CV}
theorem d_53f (h : VW s 24 c room v) (hb : VB v) {x : Int} (h0 : 0 ≤ x) (h1 : x < v_u v) {t : Int} : QW (fun n => g_53 o n 0 s 24 x t) (fun q => q = (s, fbV v x)) := d_53 h hb h0 h1
theorem d_56i (h : VW s 24 c room v) (hb : VB v) : ∀ (f : Nat) (i x : Int), i + f = 61 → 0 ≤ i → 0 ≤ x → x < v_u v → QW (fun n => g_56 o n 1 s 24 0 x i 0) (fun q => q = (s, ttr v f x)) := by
  have h' := h
  obtain ⟨hF0, hFa, w1, w2, w3, w4, w5, w6, w7, w8, w9, w10, w11, w12⟩ := h'
  have K3 : QW (fun n => g_56 o n 3 s 0 0 0 0 0) (fun q => q = (s, -1)) := by
    refine QW_s ?_
    simp only [g_56]
    exact QW_ret rfl
  intro f
  induction f with
  | zero =>
    intro i x hi i0 x0 x1
    refine QW_s ?_
    simp only [g_56]
    refine QW_g (by omega) ?_
    refine QW_it (by omega) ?_
    exact K3
  | succ f ih =>
    intro i x hi i0 x0 x1
    obtain ⟨b1, b2, b3, b4, b5, b6⟩ := hb.1 x x0 x1
    have e3 := w1 3 x (by decide) (by decide) x0 x1
    refine QW_s ?_
    simp only [g_56, ttr]
    refine QW_g (by omega) ?_
    refine QW_if (by omega) ?_
    refine QW_p (k_gv hF0 rfl rfl) ?_
    refine QW_p (k_ia (hFa _ _ rfl) x0 (by omega) (by omega)) ?_
    rw [e3]
    refine QW_g (by omega) ?_
    refine QW_by (fun z => ?_) (fun z => ?_)
    · rw [if_pos z]
      exact K3
    · rw [if_neg z]
      obtain ⟨c1, c2, c3, c4, c5, c6⟩ := hb.1 (vI v 3 x) (by omega) b3.2
      have e4 := w1 4 (vI v 3 x) (by decide) (by decide) (by omega) b3.2
      have e5 := w1 5 (vI v 3 x) (by decide) (by decide) (by omega) b3.2
      have N : QW (fun n => g_56 o n 2 s 24 0 0 i (vI v 3 x)) (fun q => q = (s, ttr v f (vI v 3 x))) := by
        refine QW_s ?_
        simp only [g_56]
        exact ih (i + 1) _ (by omega) (by omega) (by omega) b3.2
      refine QW_p (k_gv hF0 rfl rfl) ?_
      refine QW_p (k_ia (hFa _ _ rfl) x0 (by omega) (by omega)) ?_
      rw [e3]
      refine QW_p (k_gv hF0 rfl rfl) ?_
      refine QW_p (k_ia (hFa _ _ rfl) (by omega) (by omega) (by omega)) ?_
      rw [e4]
      refine QW_g (by omega) ?_
      refine QW_by (fun y => ?_) (fun y => ?_)
      · rw [if_neg (fun q => y q.1)]
        exact N
      · have y := Decidable.of_not_not y
        refine QW_p (k_gv hF0 rfl rfl) ?_
        refine QW_p (k_ia (hFa _ _ rfl) (by omega) (by omega) (by omega)) ?_
        rw [e5]
        refine QW_g (by omega) ?_
        refine QW_by (fun y2 => ?_) (fun y2 => ?_)
        · rw [if_neg (fun q => q.2 y2)]
          exact N
        · rw [if_pos ⟨y, y2⟩]
          refine QW_p (k_gv hF0 rfl rfl) ?_
          refine QW_p (k_ia (hFa _ _ rfl) (by omega) (by omega) (by omega)) ?_
          rw [e5]
          exact QW_ret rfl
theorem d_56 (h : VW s 24 c room v) (hb : VB v) {x : Int} (x0 : 0 ≤ x) (x1 : x < v_u v) : QW (fun n => g_56 o n 0 s 24 x 0 0 0) (fun q => q = (s, ttr v 61 x)) := by
  refine QW_s ?_
  simp only [g_56]
  exact d_56i h hb 61 0 x (by omega) (by omega) x0 x1
theorem d_57i (h : VW s 24 c room v) (hb : VB v) : ∀ (f : Nat) (i x : Int), i + f = 61 → 0 ≤ i → -1 ≤ x → x < v_u v → QW (fun n => g_57 o n 1 s 24 0 x i) (fun q => q = (s, lfb v f x)) := by
  have h' := h
  obtain ⟨hF0, hFa, w1, w2, w3, w4, w5, w6, w7, w8, w9, w10, w11, w12⟩ := h'
  have K2 : ∀ x, QW (fun n => g_57 o n 2 s 0 0 x 0) (fun q => q = (s, x)) := fun x => by
    refine QW_s ?_
    simp only [g_57]
    exact QW_ret rfl
  intro f
  induction f with
  | zero =>
    intro i x hi i0 x0 x1
    refine QW_s ?_
    simp only [g_57]
    refine QW_g (by omega) ?_
    refine QW_it (by omega) ?_
    exact K2 x
  | succ f ih =>
    intro i x hi i0 x0 x1
    refine QW_s ?_
    simp only [g_57, lfb]
    refine QW_g (by omega) ?_
    refine QW_if (by omega) ?_
    refine QW_g (by omega) ?_
    refine QW_by (fun z => ?_) (fun z => ?_)
    · rw [if_pos z, z]
      exact K2 _
    · rw [if_neg z]
      have rg := fbV_rg hb (x := x) (by omega) x1
      refine QW_p (k_rc hF0) ?_
      refine QW_e (d_53f h hb (by omega) x1) ?_
      dsimp only
      refine QW_g (by omega) ?_
      refine QW_by (fun y => ?_) (fun y => ?_)
      · rw [if_neg y]
        exact ih (i + 1) _ (by omega) (by omega) rg.1 rg.2
      · rw [if_pos (Decidable.of_not_not y)]
        exact QW_ret rfl
theorem d_57 (h : VW s 24 c room v) (hb : VB v) {x : Int} (x0 : -1 ≤ x) (x1 : x < v_u v) : QW (fun n => g_57 o n 0 s 24 x 0 0) (fun q => q = (s, lfb v 61 x)) := by
  refine QW_s ?_
  simp only [g_57]
  exact d_57i h hb 61 0 x (by omega) (by omega) x0 x1
theorem d_55 (h : VW s 24 c room v) (hb : VB v) {x : Int} (x0 : 0 ≤ x) (x1 : x < v_u v) : QW (fun n => g_55 o n 0 s 24 x 0) (fun q => q = (s, if fbV v x = -1 then ttr v 61 x else fbV v x)) := by
  have rg := fbV_rg hb (x := x) (by omega) x1
  have r1 := h.2.2.2.2.2.2.2.2.2.1
  have r2 := h.2.2.2.2.2.2.2.2.2.2.1
  refine QW_s ?_
  simp only [g_55]
  refine QW_p (k_rc h.1) ?_
  refine QW_e (d_53f h hb x0 x1) ?_
  dsimp only
  refine QW_g (by omega) ?_
  refine QW_by (fun y => ?_) (fun y => ?_)
  · rw [if_neg y]
    refine QW_s ?_
    simp only [g_55]
    exact QW_ret rfl
  · rw [if_pos (Decidable.of_not_not y)]
    refine QW_p (k_rc h.1) ?_
    refine QW_e (d_56 h hb x0 x1) ?_
    refine QW_s ?_
    simp only [g_55]
    exact QW_ret rfl
end CWK
/-! the leftmost leaf of a branch -/
def fstL : (k : Nat) → BT k → IT k → Int
  | 0, _, _ => -1
  | k + 1, (_, _, _, _, sub), (b, _, isub) => match sub, isub with
    | some (l, r), some (il, ir) => if modeB k l = 0 then fstL k r ir else fstL k l il
    | _, _ => b
/-- never both branches of a side over -/
def NB : (k : Nat) → BT k → Prop
  | 0, _ => True
  | k + 1, (_, _, _, _, sub) => match sub with
    | none => True
    | some (l, r) => NB k l ∧ NB k r ∧ ¬ (modeB k l = 0 ∧ modeB k r = 0)
theorem chV_lfb {v : CV} {P : PT} {base u : Int} {r : Bool} : ∀ (st : List FR) (xs : List Int), chV v P base u r st xs → xs ≠ [] → ∀ f, lfb v (f + xs.length) (slotV v u r) = lfb v (f + 1) (hdI xs u) := by
  intro st
  induction st with
  | nil =>
    intro xs h hn f
    cases xs with
    | nil => exact absurd rfl hn
    | cons _ _ => exact h.elim
  | cons q t ih =>
    intro xs h hn f
    obtain ⟨p, a⟩ := q
    cases xs with
    | nil => exact h.elim
    | cons x xs =>
      obtain ⟨⟨h1, h2, h3, h4, h5, h6, h7, h8⟩, h9⟩ := h
      cases xs with
      | nil =>
        have e : slotV v u r = x := h7
        rw [e]
        rfl
      | cons y ys =>
        have i := ih (y :: ys) h9 (by simp) (f + 1)
        rw [show f + (x :: y :: ys).length = f + 1 + (y :: ys).length by simp; omega, i]
        have ge := (chV_ge t (y :: ys) h9).1 y List.mem_cons_self
        have e : vI v 4 y = x := by
          have h7 : slotV v y false = x := h7
          unfold slotV at h7
          rw [if_neg (by omega)] at h7
          exact h7
        show (if y = -1 then -1 else if fbV v y = -1 then y else lfb v (f + 1) (fbV v y)) = lfb v (f + 1) x
        have e2 : fbV v y = x := by
          unfold fbV
          rw [e, if_neg (by omega)]
        rw [if_neg (by omega), e2, if_neg (by omega)]
theorem chV_in {v : CV} {P : PT} {base u : Int} {r : Bool} {st : List FR} {xs : List Int} (h : chV v P base u r st xs) (hn : xs ≠ []) : 0 ≤ slotV v u r := by
  have : ∀ (st : List FR) (xs : List Int), chV v P base u r st xs → xs ≠ [] → 0 ≤ slotV v u r := by
    intro st
    induction st with
    | nil =>
      intro xs h hn
      cases xs with
      | nil => exact absurd rfl hn
      | cons _ _ => exact h.elim
    | cons q t ih =>
      intro xs h hn
      obtain ⟨p, a⟩ := q
      cases xs with
      | nil => exact h.elim
      | cons x xs =>
        obtain ⟨⟨h1, h2, h3, h4, h5, h6, h7, h8⟩, h9⟩ := h
        cases xs with
        | nil =>
          have e : slotV v u r = x := h7
          omega
        | cons y ys => exact ih (y :: ys) h9 (by simp)
  exact this st xs h hn
/-- a branch that is there has something in its slot; one that is over has nothing -/
theorem CB_slot {v : CV} {P : PT} {k : Nat} {base u : Int} {r : Bool} {t : BT k} {it : IT k} (h : CB v P k base u r t it) : (modeB k t = 0 → slotV v u r = -1) ∧ (¬ modeB k t = 0 → 0 ≤ slotV v u r) := by
  cases k with
  | zero => exact h.elim
  | succ k =>
    obtain ⟨m, p, d, st, sub⟩ := t
    obtain ⟨b, xs, isub⟩ := it
    obtain ⟨h1, h2⟩ := h
    show (m = 0 → _) ∧ (¬ m = 0 → _)
    cases sub with
    | none =>
      cases isub with
      | some _ => exact h2.elim
      | none =>
        rcases h2 with ⟨a1, a2, a3, a4⟩ | ⟨a1, a2⟩
        · exact ⟨fun _ => a4, fun z => absurd a1 z⟩
        · obtain ⟨b1, b2, b3, b4, b5, b6, b7⟩ := a1
          refine ⟨fun z => ?_, fun _ => ?_⟩
          · rcases b7 with c | c
            · have := c.1; omega
            · have := c.1; omega
          · cases xs with
            | nil =>
              have b2 : slotV v u r = b := b2
              omega
            | cons y ys => exact chV_in h1 (by simp)
    | some lr =>
      obtain ⟨l, rr⟩ := lr
      cases isub with
      | none => exact h2.elim
      | some ilr =>
        obtain ⟨il, ir⟩ := ilr
        obtain ⟨a1, a2, a3, a4, a5⟩ := h2
        exact ⟨fun z => by omega, fun _ => chV_in h1 a3⟩
theorem slot_l {v : CV} {u : Int} (h : 0 ≤ u) : slotV v u false = vI v 4 u := by
  unfold slotV
  rw [if_neg (by omega)]
  rfl
theorem slot_r {v : CV} {u : Int} (h : 0 ≤ u) : slotV v u true = vI v 5 u := by
  unfold slotV
  rw [if_neg (by omega)]
  rfl
theorem lfb_leaf {v : CV} {b : Int} (h0 : 0 ≤ b) (h4 : vI v 4 b = -1) (h5 : vI v 5 b = -1) (f : Nat) : lfb v (f + 1) b = b := by
  have e : fbV v b = -1 := by unfold fbV; rw [if_pos h4]; exact h5
  show (if b = -1 then -1 else if fbV v b = -1 then b else lfb v f (fbV v b)) = b
  rw [if_neg (by omega), if_pos e]
theorem lfb_dn {v : CV} {x y : Int} (h0 : 0 ≤ x) (h : fbV v x = y) (hy : 0 ≤ y) (f : Nat) : lfb v (f + 1) x = lfb v f y := by
  show (if x = -1 then -1 else if fbV v x = -1 then x else lfb v f (fbV v x)) = _
  rw [if_neg (by omega), h, if_neg (by omega)]
theorem CB_lfb {v : CV} {P : PT} {sz : Int → Int} {sec ph : Int} : ∀ (k : Nat) (side : Option Int) (base u : Int) (r : Bool) (t : BT k) (it : IT k), VT P sz sec ph k side base t → CB v P k base u r t it → NB k t → ¬ modeB k t = 0 → ∀ f : Nat, 61 ≤ f + base → lfb v f (slotV v u r) = fstL k t it := by
  intro k
  induction k with
  | zero => intro side base u r t it _ h; exact h.elim
  | succ k ih =>
    intro side base u r t it hv h hnb hm f hf
    obtain ⟨m, p, d, st, sub⟩ := t
    obtain ⟨b, xs, isub⟩ := it
    obtain ⟨h1, h2⟩ := h
    obtain ⟨v1, v2⟩ := hv
    have hb : base + (st.length : Int) ≤ 60 := v1.2.1
    have hb0 : 0 ≤ base := v1.1
    obtain ⟨ge, hlen⟩ := chV_ge st xs h1
    obtain ⟨g, rfl⟩ : ∃ g, f = g + 1 + xs.length := ⟨f - 1 - xs.length, by omega⟩
    cases sub with
    | none =>
      cases isub with
      | some _ => exact h2.elim
      | none =>
        show _ = b
        rcases h2 with ⟨a1, a2, a3, a4⟩ | ⟨a1, a2⟩
        · exact absurd a1 hm
        · obtain ⟨b1, b2, b3, b4, b5, b6, b7⟩ := a1
          cases xs with
          | nil =>
            have b2 : slotV v u r = b := b2
            rw [b2]
            exact lfb_leaf b1 b5 b6 g
          | cons x ys =>
            rw [chV_lfb st _ h1 (by simp) (g + 1)]
            have gx := ge x List.mem_cons_self
            have b2 : slotV v x false = b := b2
            rw [slot_l gx] at b2
            rw [show hdI (x :: ys) u = x from rfl, lfb_dn gx (y := b) (by unfold fbV; rw [b2, if_neg (by omega)]) b1]
            exact lfb_leaf b1 b5 b6 g
    | some lr =>
      obtain ⟨l, rr⟩ := lr
      cases isub with
      | none => exact h2.elim
      | some ilr =>
        obtain ⟨il, ir⟩ := ilr
        obtain ⟨a1, a2, a3, a4, a5⟩ := h2
        obtain ⟨n1, n2, n3⟩ := hnb
        obtain ⟨c1, c2, c3⟩ := v2
        cases xs with
        | nil => exact absurd rfl a3
        | cons x ys =>
          have gx := ge x List.mem_cons_self
          rw [chV_lfb st _ h1 (by simp) (g + 1)]
          show lfb v (g + 1 + 1) x = (if modeB k l = 0 then fstL k rr ir else fstL k l il)
          have a4 : CB v P k (base + st.length) x false l il := a4
          have a5 : CB v P k (base + st.length) x true rr ir := a5
          have sl := CB_slot a4
          have sr := CB_slot a5
          rw [slot_l gx] at sl
          rw [slot_r gx] at sr
          have hlen : ((x :: ys).length : Int) = st.length := by exact_mod_cast hlen
          by_cases z : modeB k l = 0
          · have zr : ¬ modeB k rr = 0 := fun q => n3 ⟨z, q⟩
            rw [if_pos z, lfb_dn gx (y := vI v 5 x) (by unfold fbV; rw [if_pos (sl.1 z)]) (sr.2 zr), ← slot_r gx]
            exact ih _ _ _ _ _ _ c3 a5 n2 zr _ (by omega)
          · have := sl.2 z
            rw [if_neg z, lfb_dn gx (y := vI v 4 x) (by unfold fbV; rw [if_neg (by omega)]) this, ← slot_l gx]
            exact ih _ _ _ _ _ _ c2 a4 n1 z _ (by omega)
/-! what is to the right of a slot -/
def NXT (v : CV) (RX : List Int) : Nat → Int → Bool → Int → Prop
  | 0, u, r, N => u = -1 ∧ r = false ∧ N = -1
  | b + 1, u, r, N => u ∈ RX ∧ 0 ≤ u ∧ vI v 6 u = b + 1 ∧ ((r = false ∧ ¬ vI v 5 u = -1 ∧ N = vI v 5 u) ∨
      ((r = true ∨ vI v 5 u = -1) ∧ ∃ r', slotV v (vI v 3 u) r' = u ∧ (r' = true → ¬ vI v 4 (vI v 3 u) = u) ∧ NXT v RX b (vI v 3 u) r' N))
theorem NXT.mono {v : CV} {RX RY : List Int} (hs : ∀ x ∈ RX, x ∈ RY) : ∀ (b : Nat) (u : Int) (r : Bool) (N : Int), NXT v RX b u r N → NXT v RY b u r N := by
  intro b
  induction b with
  | zero => intro u r N h; exact h
  | succ b ih =>
    intro u r N h
    obtain ⟨h1, h2, h3, h4⟩ := h
    refine ⟨hs _ h1, h2, h3, ?_⟩
    rcases h4 with z | ⟨z, r', z1, z2, z3⟩
    · exact Or.inl z
    · exact Or.inr ⟨z, r', z1, z2, ih _ _ _ z3⟩
theorem NXT.goes {v : CV} {RX : List Int} : ∀ (b : Nat) (u : Int) (r : Bool) (N : Int), NXT v RX b u r N → ∀ (y : Int) (f : Nat), vI v 3 y = u → slotV v u r = y → (r = true → ¬ vI v 4 u = y) → b ≤ f → ttr v (f + 1) y = N := by
  intro b
  induction b with
  | zero =>
    intro u r N h y f hy hs hr hf
    obtain ⟨h1, h2, h3⟩ := h
    show (if vI v 3 y = -1 then -1 else _) = N
    rw [if_pos (by omega), h3]
  | succ b ih =>
    intro u r N h y f hy hs hr hf
    obtain ⟨h1, h2, h3, h4⟩ := h
    show (if vI v 3 y = -1 then -1 else if vI v 4 (vI v 3 y) = y ∧ ¬ vI v 5 (vI v 3 y) = -1 then vI v 5 (vI v 3 y) else ttr v f (vI v 3 y)) = N
    rw [hy, if_neg (by omega)]
    rcases h4 with ⟨z1, z2, z3⟩ | ⟨z, r', z1, z2, z3⟩
    · rw [z1, slot_l h2] at hs
      rw [if_pos ⟨hs, z2⟩, z3]
    · rw [if_neg]
      · obtain ⟨g, rfl⟩ : ∃ g, f = g + 1 := ⟨f - 1, by omega⟩
        exact ih _ _ _ z3 u g rfl z1 z2 (by omega)
      · rintro ⟨q1, q2⟩
        rcases z with z | z
        · exact hr z q1
        · exact q2 z
/-- rows of less depth stay, and the top -/
theorem NXT.same {v v' : CV} {RX : List Int} (ht : v_t v' = v_t v) : ∀ (b : Nat) (u : Int) (r : Bool) (N : Int), (∀ x ∈ RX, vI v 6 x ≤ b → EqX v v' x 0) → NXT v RX b u r N → NXT v' RX b u r N := by
  intro b
  induction b with
  | zero => intro u r N _ h; exact h
  | succ b ih =>
    intro u r N e h
    obtain ⟨h1, h2, h3, h4⟩ := h
    have eu := e u h1 (by omega)
    have e3 := eu.1 3 (by decide) (by decide) (by decide)
    have e5 := eu.1 5 (by decide) (by decide) (by decide)
    refine ⟨h1, h2, (eu.1 6 (by decide) (by decide) (by decide)).trans h3, ?_⟩
    rw [e5, e3]
    rcases h4 with z | ⟨z, r', z1, z2, z3⟩
    · exact Or.inl z
    · refine Or.inr ⟨z, r', ?_, ?_, ih _ _ _ (fun x hx hd => e x hx (by omega)) z3⟩
      · cases b with
        | zero =>
          rw [z3.1] at z1 ⊢
          unfold slotV at z1 ⊢
          rw [if_pos rfl] at z1 ⊢
          exact ht.trans z1
        | succ b =>
          obtain ⟨y1, y2, y3, y4⟩ := z3
          rw [slot_same (by omega) (e _ y1 (by omega))]
          exact z1
      · cases b with
        | zero =>
          intro q
          have := z3.2.1
          rw [this] at q
          cases q
        | succ b =>
          obtain ⟨y1, y2, y3, y4⟩ := z3
          rw [(e _ y1 (by omega)).1 4 (by decide) (by decide) (by decide)]
          exact z2
/-- all others stay but for the slot -/
theorem NXT.foc {v v' : CV} {RX : List Int} {b : Nat} {u : Int} {r : Bool} {N : Int} (ht : ¬ u = -1 → v_t v' = v_t v) (e : ∀ x ∈ RX, EqX v v' x (if x = u then colV r else 0)) (h : NXT v RX b u r N) : NXT v' RX b u r N := by
  cases b with
  | zero => exact h
  | succ b =>
    obtain ⟨h1, h2, h3, h4⟩ := h
    have eu := e u h1
    rw [if_pos rfl] at eu
    have cr := colV_45 r
    have e3 := eu.1 3 (by decide) (by decide) (by omega)
    have e6 := eu.1 6 (by decide) (by decide) (by omega)
    have el : ∀ x ∈ RX, vI v 6 x ≤ b → EqX v v' x 0 := fun x hx hd => by
      have := e x hx
      rw [if_neg (fun q => by rw [q] at hd; omega)] at this
      exact this
    have ht' := ht (by omega)
    refine ⟨h1, h2, e6.trans h3, ?_⟩
    rw [e3]
    rcases h4 with ⟨z1, z2, z3⟩ | ⟨z, r', z1, z2, z3⟩
    · have e5 := eu.1 5 (by decide) (by decide) (by rw [z1]; decide)
      rw [e5]
      exact Or.inl ⟨z1, z2, z3⟩
    · refine Or.inr ⟨?_, r', ?_, ?_, z3.same ht' b _ _ _ el⟩
      · cases r with
        | true => exact Or.inl rfl
        | false =>
          have e5 := eu.1 5 (by decide) (by decide) (by decide)
          rw [e5]
          rcases z with z | z
          · cases z
          · exact Or.inr z
      · cases b with
        | zero =>
          rw [z3.1] at z1 ⊢
          unfold slotV at z1 ⊢
          rw [if_pos rfl] at z1 ⊢
          exact ht'.trans z1
        | succ b =>
          obtain ⟨y1, y2, y3, y4⟩ := z3
          rw [slot_same (by omega) (el _ y1 (by omega))]
          exact z1
      · cases b with
        | zero =>
          intro q
          have := z3.2.1
          rw [this] at q
          cases q
        | succ b =>
          obtain ⟨y1, y2, y3, y4⟩ := z3
          rw [(el _ y1 (by omega)).1 4 (by decide) (by decide) (by decide)]
          exact z2
/-- down the frames of a branch -/
theorem NXT.down {v : CV} {P : PT} {RX : List Int} {base : Nat} {u : Int} {r : Bool} {N : Int} (h : NXT v RX base u r N) (hr : r = true → ¬ vI v 4 u = slotV v u r) : ∀ (st : List FR) (xs : List Int), chV v P base u r st xs → xs ≠ [] → ∀ rr : Bool, (rr = true ∨ vI v 5 (hdI xs u) = -1) → NXT v (xs ++ RX) (base + xs.length) (hdI xs u) rr N := by
  intro st
  induction st with
  | nil =>
    intro xs hc hn
    cases xs with
    | nil => exact absurd rfl hn
    | cons _ _ => exact hc.elim
  | cons q t ih =>
    intro xs hc hn rr hrr
    obtain ⟨p, a⟩ := q
    cases xs with
    | nil => exact hc.elim
    | cons x xs =>
      have hl := (chV_ge t xs hc.2).2
      obtain ⟨⟨h1, h2, h3, h4, h5, h6, h7, h8⟩, h9⟩ := hc
      show NXT v (x :: xs ++ RX) (base + xs.length + 1) x rr N
      refine ⟨by simp, h1, by rw [h5, hl]; simp, Or.inr ⟨hrr, rsI xs r, by rw [h4]; exact h7, ?_, ?_⟩⟩
      · rw [h4]
        cases xs with
        | nil =>
          intro z
          have h7 : slotV v u r = x := h7
          have := hr z
          rw [h7] at this
          exact this
        | cons y ys => intro z; cases z
      · rw [h4]
        cases xs with
        | nil => exact NXT.mono (fun y hy => by simp [hy]) _ _ _ _ h
        | cons y ys =>
          have := ih (y :: ys) h9 (by simp) false (Or.inr (h8 (by simp)))
          exact NXT.mono (fun z hz => List.mem_cons_of_mem _ hz) _ _ _ _ this
