/-! WHAT THE ABSTRACT HEAP MEANS: its cells, at b, b + 1 .. -/
def x_c (b : Nat) (oa : Nat → Nat) (dA : FieldType → ClassId) : X_C → va_E
  | .inl (ty, n, .inl f) => .inl (dA ty, n, .inl f)
  | .inl (ty, n, .inr (.inl f)) => .inl (dA ty, n, .inr (.inl f))
  | .inl (ty, n, .inr (.inr (.inl f))) => .inl (dA ty, n, .inr (.inr (.inl f)))
  | .inl (ty, n, .inr (.inr (.inr (.inl f)))) => .inl (dA ty, n, .inr (.inr (.inr (.inl f))))
  | .inl (ty, n, .inr (.inr (.inr (.inr f)))) => .inl (dA ty, n, .inr (.inr (.inr (.inr fun j => (f j).map (b + ·)))))
  | .inr (ci, fs) => .inr (ci, fs.map (x_v b oa))
def x_ws (b : Nat) (oa : Nat → Nat) (dA : FieldType → ClassId) (w : X_H) : va_W := (List.range w.1).filterMap fun k => (w.2.2 k).map fun c => (b + k, x_c b oa dA c)
def x_hold (D : va_G) (cl : List vw_C) (dA : FieldType → ClassId) (b : Nat) (oa : Nat → Nat) (w : X_H) (H : Heap) : Prop :=
  H.size = b + w.1 ∧ va_P D cl (x_ws b oa dA w) H ∧ ∀ k c, w.2.2 k = some c → k < w.1
section XH
variable {b : Nat} {oa : Nat → Nat} {dA : FieldType → ClassId} {w : X_H} {D : va_G} {cl : List vw_C} {H H1 : Heap}
theorem x_ws_mem {q : Nat × va_E} : q ∈ x_ws b oa dA w ↔ ∃ k c, k < w.1 ∧ w.2.2 k = some c ∧ q = (b + k, x_c b oa dA c) := by
  unfold x_ws
  rw [List.mem_filterMap]
  constructor
  · rintro ⟨k, hk, h⟩
    cases hw : w.2.2 k with
    | none => rw [hw] at h; cases h
    | some c =>
      rw [hw] at h
      exact ⟨k, c, List.mem_range.mp hk, hw, (Option.some.inj h).symm⟩
  · rintro ⟨k, c, hk, hw, rfl⟩
    exact ⟨k, List.mem_range.mpr hk, by rw [hw]; rfl⟩
theorem x_ws_at {k : Nat} {c : X_C} (hk : k < w.1) (h : w.2.2 k = some c) : ∃ i : Nat, (x_ws b oa dA w)[i]? = some (b + k, x_c b oa dA c) := List.getElem?_of_mem (x_ws_mem.mpr ⟨k, c, hk, h, rfl⟩)
theorem x_ws_pw : (x_ws b oa dA w).Pairwise (fun x y => x.1 < y.1) := by
  unfold x_ws
  refine List.Pairwise.filterMap _ ?_ List.pairwise_lt_range
  intro x y hxy u hu v hv
  cases hx : w.2.2 x with
  | none => rw [hx] at hu; cases hu
  | some c =>
    cases hy : w.2.2 y with
    | none => rw [hy] at hv; cases hv
    | some c2 =>
      rw [hx] at hu
      rw [hy] at hv
      cases hu
      cases hv
      exact Nat.add_lt_add_left hxy b
theorem x_ws_D : va_D (fun q => b ≤ q) (x_ws b oa dA w) := by
  refine ⟨fun i j x y hx hy hxy => ?_, fun k q hk => ?_⟩
  · obtain ⟨hi, ei⟩ := List.getElem?_eq_some_iff.mp hx
    obtain ⟨hj, ej⟩ := List.getElem?_eq_some_iff.mp hy
    have pw := List.pairwise_iff_getElem.mp (x_ws_pw (b := b) (oa := oa) (dA := dA) (w := w))
    rcases Nat.lt_trichotomy i j with h | h | h
    · have := pw i j hi hj h
      rw [ei, ej] at this
      omega
    · exact h
    · have := pw j i hj hi h
      rw [ei, ej] at this
      omega
  · obtain ⟨k2, c, h1, h2, rfl⟩ := x_ws_mem.mp (List.mem_of_getElem? hk)
    exact Nat.le_add_right _ _
/-- a cell as the abstract heap has it -/
theorem x_hold_at (h : x_hold D cl dA b oa w H) {k : Nat} {c : X_C} (hc : w.2.2 k = some c) : ∃ i : Nat, (x_ws b oa dA w)[i]? = some (b + k, x_c b oa dA c) := x_ws_at (h.2.2 k c hc) hc
theorem x_hold_set (h : x_hold D cl dA b oa w H) {k i : Nat} {c c' : X_C} (hc : w.2.2 k = some c) (hi : (x_ws b oa dA w)[i]? = some (b + k, x_c b oa dA c)) (hP : va_P D cl ((x_ws b oa dA w).set i (b + k, x_c b oa dA c')) H1) (hz : H1.size = H.size) : x_hold D cl dA b oa (x_set w k c') H1 := by
  have hk := h.2.2 k c hc
  refine ⟨by rw [hz]; exact h.1, fun j q hq => ?_, fun j d hj => ?_⟩
  · obtain ⟨k2, c2, h1, h2, rfl⟩ := x_ws_mem.mp (List.mem_of_getElem? hq)
    by_cases e : k2 = k
    · subst e
      have h3 : c' = c2 := by
        have h4 : x_up w.2.2 k2 c' k2 = some c2 := h2
        simp [x_up] at h4
        exact h4
      subst h3
      exact hP i _ (by rw [List.getElem?_set_self (List.getElem?_eq_some_iff.mp hi).1])
    · have h3 : w.2.2 k2 = some c2 := by
        have h4 : x_up w.2.2 k c' k2 = some c2 := h2
        simp [x_up, e] at h4
        exact h4
      obtain ⟨j2, hj2⟩ := x_ws_at (b := b) (oa := oa) (dA := dA) (w := w) h1 h3
      have hne : i ≠ j2 := by
        intro e2
        subst e2
        rw [hi] at hj2
        have := congrArg (fun z : Option (Nat × va_E) => z.map Prod.fst) hj2
        simp at this
        exact e this.symm
      exact hP j2 _ (by rw [List.getElem?_set_ne hne]; exact hj2)
  · by_cases e : j = k
    · subst e; exact hk
    · have h4 : x_up w.2.2 k c' j = some d := hj
      simp [x_up, e] at h4
      exact h.2.2 j d h4
theorem x_hold_new (h : x_hold D cl dA b oa w H) {sl : Nat} {c : X_C} (hz : H1.size = H.size + 1) (ho : ∀ q : Nat, q < H.size → H1[q]? = H[q]?) (hc : va_at D cl (b + w.1, x_c b oa dA c) H1) : x_hold D cl dA b oa (x_new w sl c) H1 := by
  refine ⟨by rw [hz, h.1]; rfl, fun j q hq => ?_, fun j d hj => ?_⟩
  · obtain ⟨k2, c2, h1, h2, rfl⟩ := x_ws_mem.mp (List.mem_of_getElem? hq)
    by_cases e : k2 = w.1
    · subst e
      have h3 : c = c2 := by
        have h4 : x_up w.2.2 w.1 c w.1 = some c2 := h2
        simp [x_up] at h4
        exact h4
      subst h3
      exact hc
    · have h3 : w.2.2 k2 = some c2 := by
        have h4 : x_up w.2.2 w.1 c k2 = some c2 := h2
        simp [x_up, e] at h4
        exact h4
      have hk2 := h.2.2 k2 c2 h3
      obtain ⟨j2, hj2⟩ := x_ws_at (b := b) (oa := oa) (dA := dA) (w := w) hk2 h3
      exact (h.2.1 j2 _ hj2).kept (ho _ (by rw [h.1]; exact Nat.add_lt_add_left hk2 b))
  · have h4 : x_up w.2.2 w.1 c j = some d := hj
    by_cases e : j = w.1
    · subst e; exact Nat.lt_succ_self _
    · simp [x_up, e] at h4
      exact Nat.lt_succ_of_lt (h.2.2 j d h4)
/-- cells that nobody looks at: the heap has grown -/
theorem x_hold_junk (h : x_hold D cl dA b oa w H) {n sl : Nat} (hz : H1.size = H.size + n) (ho : ∀ q : Nat, q < H.size → H1[q]? = H[q]?) : x_hold D cl dA b oa (w.1 + n, w.2.1 + sl, w.2.2) H1 := by
  refine ⟨by rw [hz, h.1, Nat.add_assoc], fun j q hq => ?_, fun j d hj => Nat.lt_of_lt_of_le (h.2.2 j d hj) (Nat.le_add_right _ _)⟩
  obtain ⟨k2, c2, h1, h2, rfl⟩ := x_ws_mem.mp (List.mem_of_getElem? hq)
  have hk2 := h.2.2 k2 c2 h2
  obtain ⟨j2, hj2⟩ := x_ws_at (b := b) (oa := oa) (dA := dA) (w := w) hk2 h2
  exact (h.2.1 j2 _ hj2).kept (ho _ (by rw [h.1]; exact Nat.add_lt_add_left hk2 b))
end XH
section XW
variable {p : Program} {l : Launch} {e : Env} {R : Room} {s : State} {m : MethodId} {args : Array Value} {below : List Frame} {meth : Method} {c : Code} {H : Heap} {locs : List Loc} {cells slots : Nat} {Q : State → Prop}
/-- the heap is no larger than what was there and what has been made -/
theorem x_size {g : JFrame} (k : H.size ≤ s.heap.size + cells → W p l e R s m args below meth c H locs cells slots Q g) : W p l e R s m args below meth c H locs cells slots Q g := fun T hT X => k (by rw [← hT]; exact X.heapSize) T hT X
end XW
