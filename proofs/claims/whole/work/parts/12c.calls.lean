/-! THE TABLES' CALLS are the Statement's -/
def x_ychk (y : Nat) : Bool := decide (lw_tbl[x_cps.getD y 0]? = some (Cond.code (x_nm y) (x_bytes y) (x_mL y) (x_ret y))) && decide ((x_nm y).cls = x_cname y) && plainName (x_nm y).cls && decide ((x_nm y).cls ≠ "java/lang/invoke/MethodHandle") && decide ((x_nm y).cls ≠ "java/lang/invoke/VarHandle") && decide (x_mL y ≤ 45) && decide (Cond.initialized (x_nm y).cls ∈ lw_tbl)
theorem x_ychk_all : ∀ y, y < 153 → x_ychk y = true := by decide +kernel
theorem x_ychk_ok {y : Nat} (h : y < 153) : Cond.code (x_nm y) (x_bytes y) (x_mL y) (x_ret y) ∈ lw_tbl ∧ (x_nm y).cls = x_cname y ∧ plainName (x_nm y).cls = true ∧ (x_nm y).cls ≠ "java/lang/invoke/MethodHandle" ∧ (x_nm y).cls ≠ "java/lang/invoke/VarHandle" ∧ x_mL y ≤ 45 ∧ Cond.initialized (x_nm y).cls ∈ lw_tbl := by
  have h1 := x_ychk_all y h
  unfold x_ychk at h1
  simp only [Bool.and_eq_true, decide_eq_true_eq] at h1
  obtain ⟨⟨⟨⟨⟨⟨a1, a2⟩, a3⟩, a4⟩, a5⟩, a6⟩, a7⟩ := h1
  exact ⟨List.mem_of_getElem? a1, a2, a3, a4, a5, a6, a7⟩
def x_mone (c : Nat) (q : Nat × Nat × Nat × Nat × Nat) : Bool :=
  if q.2.1 = 6 then decide (lw_tbl[q.2.2.2.2]? = some (Cond.methodLink (x_cnms.getD c "") q.1 objectInit))
  else if q.2.1 = 7 then decide (lw_tbl[q.2.2.2.2]? = some (Cond.methodLink (x_cnms.getD c "") q.1 arraycopyName))
  else decide (q.2.2.1 < 153) && decide ((parseMethodDescriptor (x_nm q.2.2.1).desc).map (fun d => d.parameters.length) = some q.2.2.2.1) &&
    (if q.2.1 = 0 then decide (lw_tbl[q.2.2.2.2]? = some (Cond.methodLink (x_cnms.getD c "") q.1 (x_nm q.2.2.1))) && decide (Cond.instanceMethod (x_nm q.2.2.1) ∈ lw_tbl) && decide (Cond.selects (x_nm q.2.2.1).cls (x_nm q.2.2.1) (x_nm q.2.2.1) ∈ lw_tbl)
    else if q.2.1 = 2 then decide (lw_tbl[q.2.2.2.2]? = some (Cond.methodLink (x_cnms.getD c "") q.1 (x_nm q.2.2.1))) && decide (Cond.instanceMethod (x_nm q.2.2.1) ∈ lw_tbl) && decide ((x_nm q.2.2.1).name = "<init>") && decide (x_ret q.2.2.1 = none)
    else if q.2.1 = 3 then decide ((x_cnms.getD c "", q.1, x_nm q.2.2.1) ∈ x_oddM) && decide (Cond.instanceMethod (x_nm q.2.2.1) ∈ lw_tbl) && decide ((x_nm q.2.2.1).name = "<init>") && decide (x_ret q.2.2.1 = none)
    else if q.2.1 = 5 then decide (lw_tbl[q.2.2.2.2]? = some (Cond.methodLink (x_cnms.getD c "") q.1 (x_nm q.2.2.1))) && decide (Cond.static (x_nm q.2.2.1) ∈ lw_tbl)
    else false)
theorem x_mone_all : ∀ c, c < 11 → ((x_mthL.getD c []).all (x_mone c)) = true := by decide +kernel
theorem x_mth_ok {mi idx kd y na : Nat} (h : x_mth mi idx = some (kd, y, na)) : ∃ pos, x_mone (x_cno mi) (idx, kd, y, na, pos) = true := by
  unfold x_mth at h
  cases h1 : x_look (x_mthL.getD (x_cno mi) []) idx with
  | none => rw [h1] at h; cases h
  | some q =>
    obtain ⟨a, b, c, pos⟩ := q
    rw [h1] at h
    cases h
    exact ⟨pos, List.all_eq_true.mp (x_mone_all _ (x_cno_lt mi)) _ (x_look_mem h1)⟩
theorem x_mth6 {mi idx y na : Nat} (h : x_mth mi idx = some (6, y, na)) : Cond.methodLink (x_cname mi) idx objectInit ∈ lw_tbl := by
  obtain ⟨pos, h1⟩ := x_mth_ok h
  exact List.mem_of_getElem? (of_decide_eq_true h1)
theorem x_mth7 {mi idx y na : Nat} (h : x_mth mi idx = some (7, y, na)) : Cond.methodLink (x_cname mi) idx arraycopyName ∈ lw_tbl := by
  obtain ⟨pos, h1⟩ := x_mth_ok h
  exact List.mem_of_getElem? (of_decide_eq_true h1)
theorem x_mth_in {mi idx kd y na : Nat} (h : x_mth mi idx = some (kd, y, na)) (h6 : ¬ kd = 6) (h7 : ¬ kd = 7) : y < 153 ∧ (parseMethodDescriptor (x_nm y).desc).map (fun d => d.parameters.length) = some na ∧
    ((kd = 0 ∧ Cond.methodLink (x_cname mi) idx (x_nm y) ∈ lw_tbl ∧ Cond.instanceMethod (x_nm y) ∈ lw_tbl ∧ Cond.selects (x_nm y).cls (x_nm y) (x_nm y) ∈ lw_tbl) ∨
     (kd = 2 ∧ Cond.methodLink (x_cname mi) idx (x_nm y) ∈ lw_tbl ∧ Cond.instanceMethod (x_nm y) ∈ lw_tbl ∧ (x_nm y).name = "<init>" ∧ x_ret y = none) ∨
     (kd = 3 ∧ (x_cname mi, idx, x_nm y) ∈ x_oddM ∧ Cond.instanceMethod (x_nm y) ∈ lw_tbl ∧ (x_nm y).name = "<init>" ∧ x_ret y = none) ∨
     (kd = 5 ∧ Cond.methodLink (x_cname mi) idx (x_nm y) ∈ lw_tbl ∧ Cond.static (x_nm y) ∈ lw_tbl)) := by
  obtain ⟨pos, h1⟩ := x_mth_ok h
  unfold x_mone at h1
  dsimp only at h1
  rw [if_neg h6, if_neg h7] at h1
  simp only [Bool.and_eq_true, decide_eq_true_eq] at h1
  obtain ⟨⟨a1, a2⟩, h2⟩ := h1
  refine ⟨a1, a2, ?_⟩
  split at h2
  · rename_i e
    simp only [Bool.and_eq_true, decide_eq_true_eq] at h2
    exact Or.inl ⟨e, List.mem_of_getElem? h2.1.1, h2.1.2, h2.2⟩
  split at h2
  · rename_i e
    simp only [Bool.and_eq_true, decide_eq_true_eq] at h2
    exact Or.inr (Or.inl ⟨e, List.mem_of_getElem? h2.1.1.1, h2.1.1.2, h2.1.2, h2.2⟩)
  split at h2
  · rename_i e
    simp only [Bool.and_eq_true, decide_eq_true_eq] at h2
    exact Or.inr (Or.inr (Or.inl ⟨e, h2.1.1.1, h2.1.1.2, h2.1.2, h2.2⟩))
  split at h2
  · rename_i e
    simp only [Bool.and_eq_true, decide_eq_true_eq] at h2
    exact Or.inr (Or.inr (Or.inr ⟨e, List.mem_of_getElem? h2.1, h2.2⟩))
  · cases h2
theorem x_words_few : Cond.instanceMethod objectInit ∈ lw_tbl ∧ Cond.code objectInit ⟨#[0xb1]⟩ 1 none ∈ lw_tbl ∧ Cond.native arraycopyName ∈ lw_tbl ∧ Cond.static arraycopyName ∈ lw_tbl ∧ Cond.initialized "java/lang/System" ∈ lw_tbl := by decide +kernel
