/-! THE ABSTRACT MACHINE, GOAL FIRST: X .. Q: from here it returns, with Q -/
theorem x_G_more {o : X_O} {F F' : Nat → Nat → Nat → X_L → List Value → X_H → Option (X_H × Option Value)} (hF : ∀ d mi pc lv st w q, F d mi pc lv st w = some q → F' d mi pc lv st w = some q) (d mi pc : Nat) (lv : X_L) (st : List Value) (w : X_H) (q : X_H × Option Value) (h : x_G o F d mi pc lv st w = some q) : x_G o F' d mi pc lv st w = some q := by
  unfold x_G at h ⊢
  cases e1 : x_code mi pc with
  | none => rw [e1] at h; cases h
  | some i =>
  simp only [e1] at h ⊢
  cases e2 : x_alu i st with
  | some st' => simp only [e2] at h ⊢; exact hF _ _ _ _ _ _ _ h
  | none =>
  simp only [e2] at h ⊢
  cases e3 : x_loc i lv st with
  | some z => simp only [e3] at h ⊢; exact hF _ _ _ _ _ _ _ h
  | none =>
  simp only [e3] at h ⊢
  cases e4 : x_heap o mi i st w with
  | some z => simp only [e4] at h ⊢; exact hF _ _ _ _ _ _ _ h
  | none =>
  simp only [e4] at h ⊢
  cases e5 : x_brc i st with
  | some z =>
    obtain ⟨z, off, t⟩ := z
    simp only [e5] at h ⊢
    cases z with
    | true => exact hF _ _ _ _ _ _ _ h
    | false => exact hF _ _ _ _ _ _ _ h
  | none =>
  simp only [e5] at h ⊢
  cases e6 : x_swt i st with
  | some z => simp only [e6] at h ⊢; exact hF _ _ _ _ _ _ _ h
  | none =>
  simp only [e6] at h ⊢
  cases e7 : x_rets i (x_ret mi) st with
  | some z => simp only [e7] at h ⊢; exact h
  | none =>
  simp only [e7] at h ⊢
  cases e8 : x_inv i with
  | none => simp only [e8] at h; cases h
  | some q8 =>
  obtain ⟨it, idx⟩ := q8
  simp only [e8] at h ⊢
  cases e9 : x_mth mi idx with
  | none => simp only [e9] at h; cases h
  | some z =>
  obtain ⟨kd, y, na⟩ := z
  simp only [e9] at h ⊢
  by_cases k0 : ¬ x_kt kd = it
  · rw [if_pos k0] at h; cases h
  rw [if_neg k0] at h ⊢
  by_cases k6 : kd = 6
  · simp only [if_pos k6] at h ⊢
    split at h
    · split at h
      · rename_i g
        simp only [if_pos g]
        exact hF _ _ _ _ _ _ _ h
      · cases h
    · cases h
  · simp only [if_neg k6] at h ⊢
    by_cases k7 : kd = 7
    · simp only [if_pos k7] at h ⊢
      split at h
      · split at h
        · rename_i e10 g
          simp only [if_pos g]
          exact hF _ _ _ _ _ _ _ h
        · cases h
      · cases h
    · simp only [if_neg k7] at h ⊢
      by_cases k8 : kd = 8
      · simp only [if_pos k8] at h ⊢
        split at h
        · split at h
          · rename_i g
            simp only [if_pos g]
            exact hF _ _ _ _ _ _ _ h
          · cases h
        · cases h
      simp only [if_neg k8] at h ⊢
      by_cases k9 : kd = 9
      · simp only [if_pos k9] at h ⊢
        split at h
        · split at h
          · rename_i g
            simp only [if_pos g]
            exact hF _ _ _ _ _ _ _ h
          · cases h
        · cases h
      simp only [if_neg k9] at h ⊢
      split at h
      · rename_i d' as rest e10
        split at h
        · rename_i g
          split at h
          · rename_i w1 r e11
            simp only [if_pos g, hF _ _ _ _ _ _ _ e11]
            exact hF _ _ _ _ _ _ _ h
          · cases h
        · cases h
      · cases h
theorem x_run_more (o : X_O) : ∀ (n d mi pc : Nat) (lv : X_L) (st : List Value) (w : X_H) (q : X_H × Option Value), x_run o n d mi pc lv st w = some q → x_run o (n + 1) d mi pc lv st w = some q := by
  intro n
  induction n with
  | zero => intro d mi pc lv st w q h; cases h
  | succ n ih => exact fun d mi pc lv st w q h => x_G_more ih d mi pc lv st w q h
theorem x_run_le (o : X_O) {n k : Nat} (hk : n ≤ k) {d mi pc : Nat} {lv : X_L} {st : List Value} {w : X_H} {q : X_H × Option Value} (h : x_run o n d mi pc lv st w = some q) : x_run o k d mi pc lv st w = some q := by
  induction hk with
  | refl => exact h
  | step _ ih => exact x_run_more o _ _ _ _ _ _ _ _ ih
def X (o : X_O) (d mi pc : Nat) (lv : X_L) (st : List Value) (w : X_H) (Q : X_H → Option Value → Prop) : Prop := ∃ n w' r, x_run o n d mi pc lv st w = some (w', r) ∧ Q w' r
section XP
variable {o : X_O} {d mi pc : Nat} {lv lv' : X_L} {st st' : List Value} {w w' : X_H} {Q : X_H → Option Value → Prop} {i : Instr}
theorem X.mono {Q' : X_H → Option Value → Prop} (h : X o d mi pc lv st w Q) (hq : ∀ w r, Q w r → Q' w r) : X o d mi pc lv st w Q' := by
  obtain ⟨n, w', r, h1, h2⟩ := h
  exact ⟨n, w', r, h1, hq _ _ h2⟩
theorem X_alu (hc : x_code mi pc = some i) (h : x_alu i st = some st') (k : X o d mi (pc + x_len i) lv st' w Q) : X o d mi pc lv st w Q := by
  obtain ⟨n, w', r, hn, hq⟩ := k
  exact ⟨n + 1, w', r, by simp only [x_run, x_G, hc, h]; exact hn, hq⟩
theorem X_loc (hc : x_code mi pc = some i) (ha : x_alu i st = none) (h : x_loc i lv st = some (lv', st')) (k : X o d mi (pc + x_len i) lv' st' w Q) : X o d mi pc lv st w Q := by
  obtain ⟨n, w', r, hn, hq⟩ := k
  exact ⟨n + 1, w', r, by simp only [x_run, x_G, hc, ha, h]; exact hn, hq⟩
theorem X_heap (hc : x_code mi pc = some i) (ha : x_alu i st = none) (hl : x_loc i lv st = none) (h : x_heap o mi i st w = some (st', w')) (k : X o d mi (pc + x_len i) lv st' w' Q) : X o d mi pc lv st w Q := by
  obtain ⟨n, w', r, hn, hq⟩ := k
  exact ⟨n + 1, w', r, by simp only [x_run, x_G, hc, ha, hl, h]; exact hn, hq⟩
theorem X_br {z : Bool} {off : Int} (hc : x_code mi pc = some i) (ha : x_alu i st = none) (hl : x_loc i lv st = none) (hh : x_heap o mi i st w = none) (h : x_brc i st = some (z, off, st')) (k1 : z = true → X o d mi (x_tgt pc off) lv st' w Q) (k2 : z = false → X o d mi (pc + 3) lv st' w Q) : X o d mi pc lv st w Q := by
  cases z with
  | true =>
    obtain ⟨n, w', r, hn, hq⟩ := k1 rfl
    exact ⟨n + 1, w', r, by simp only [x_run, x_G, hc, ha, hl, hh, h]; exact hn, hq⟩
  | false =>
    obtain ⟨n, w', r, hn, hq⟩ := k2 rfl
    exact ⟨n + 1, w', r, by simp only [x_run, x_G, hc, ha, hl, hh, h]; exact hn, hq⟩
theorem X_sw {off : Int} (hc : x_code mi pc = some i) (ha : x_alu i st = none) (hl : x_loc i lv st = none) (hh : x_heap o mi i st w = none) (hb : x_brc i st = none) (h : x_swt i st = some (off, st')) (k : X o d mi (x_tgt pc off) lv st' w Q) : X o d mi pc lv st w Q := by
  obtain ⟨n, w', r, hn, hq⟩ := k
  exact ⟨n + 1, w', r, by simp only [x_run, x_G, hc, ha, hl, hh, hb, h]; exact hn, hq⟩
theorem X_ret {r : Option Value} (hc : x_code mi pc = some i) (ha : x_alu i st = none) (hl : x_loc i lv st = none) (hh : x_heap o mi i st w = none) (hb : x_brc i st = none) (hs : x_swt i st = none) (h : x_rets i (x_ret mi) st = some r) (k : Q w r) : X o d mi pc lv st w Q :=
  ⟨1, w, r, by simp only [x_run, x_G, hc, ha, hl, hh, hb, hs, h], k⟩
theorem X_call {it idx kd y na : Nat} {as rest : List Value} (hc : x_code mi pc = some i) (ha : x_alu i st = none) (hl : x_loc i lv st = none) (hh : x_heap o mi i st w = none) (hb : x_brc i st = none) (hs : x_swt i st = none) (hr : x_rets i (x_ret mi) st = none) (hi : x_inv i = some (it, idx)) (hm : x_mth mi idx = some (kd, y, na)) (ht : x_kt kd = it) (h6 : kd < 6) (hargs : x_args kd y na st w = some (as, rest)) (hrest : (rest.map fun v => v.category).sum ≤ 8 ∧ (as.map fun v => v.category).sum ≤ x_mL y)
    (k : X o d y 0 (lv_args 0 as) [] w fun w1 r => X o (d + 1) mi (pc + 3) lv (r.toList ++ rest) w1 Q) : X o (d + 1) mi pc lv st w Q := by
  obtain ⟨n1, w1, r1, hn1, n2, w2, r2, hn2, hq⟩ := k
  refine ⟨max n1 n2 + 1, w2, r2, ?_, hq⟩
  have e1 := x_run_le o (Nat.le_max_left n1 n2) hn1
  have e2 := x_run_le o (Nat.le_max_right n1 n2) hn2
  simp only [x_run, x_G, hc, ha, hl, hh, hb, hs, hr, hi, hm, if_neg (show ¬ ¬ x_kt kd = it from fun z => z ht), if_neg (Nat.ne_of_lt h6), if_neg (show ¬ kd = 7 by omega), if_neg (show ¬ kd = 8 by omega), if_neg (show ¬ kd = 9 by omega), hargs, if_pos hrest, e1, e2]
end XP
