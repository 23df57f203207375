/-! WHAT THE ABSTRACT MACHINE'S WORDS MEAN, and its instructions of stack, locals and branches -/
def x_v (b : Nat) (oa : Nat → Nat) : Value → Value
  | .ref k => .ref (b + k)
  | .retAddr j => .ref (oa j)
  | v => v
theorem x_cat (b : Nat) (oa : Nat → Nat) (v : Value) : (x_v b oa v).category = v.category := by cases v <;> rfl
def x_vl (b : Nat) (oa : Nat → Nat) (lv : X_L) : X_L := lv.map fun q => (q.1, x_v b oa q.2)
theorem x_lget_mem {lv : X_L} {i : Nat} {v : Value} (h : x_lget lv i = some v) : (i, v) ∈ lv := by
  induction lv with
  | nil => cases h
  | cons q t ih =>
    obtain ⟨j, u⟩ := q
    simp only [x_lget] at h
    split at h
    · rename_i e
      cases h
      subst e
      exact List.mem_cons_self
    · exact List.mem_cons_of_mem _ (ih h)
theorem x_lget_has {b : Nat} {oa : Nat → Nat} {ls : Array Slot} {nL : Nat} {lv : X_L} (hl : lv_has ls nL (x_vl b oa lv)) {i : Nat} {v : Value} (h : x_lget lv i = some v) : ls[i]? = some (.val (x_v b oa v)) :=
  hl.2.2 (i, x_v b oa v) (List.mem_map.mpr ⟨(i, v), x_lget_mem h, rfl⟩)
theorem x_vl_st1 (b : Nat) (oa : Nat → Nat) (lv : X_L) (i : Nat) (v : Value) : (i, x_v b oa v) :: (x_vl b oa lv).filter (fun q => !(q.1 == i) && !(q.1 + 1 == i && q.2.category == 2)) = x_vl b oa (x_st1 lv i v) := by
  unfold x_vl x_st1
  rw [List.filter_map, List.map_cons]
  congr 2
  refine congrArg (fun z => List.filter z lv) ?_
  funext q
  simp only [Function.comp, x_cat]
theorem x_vl_st2 (b : Nat) (oa : Nat → Nat) (lv : X_L) (i : Nat) (v : Value) : (i, x_v b oa v) :: (x_vl b oa lv).filter (fun q => !(q.1 == i) && (!(q.1 == i + 1) && !(q.1 + 1 == i && q.2.category == 2))) = x_vl b oa (x_st2 lv i v) := by
  unfold x_vl x_st2
  rw [List.filter_map, List.map_cons]
  congr 2
  refine congrArg (fun z => List.filter z lv) ?_
  funext q
  simp only [Function.comp, x_cat]
theorem x_vl_args (b : Nat) (oa : Nat → Nat) (vs : List Value) : ∀ i, lv_args i (vs.map (x_v b oa)) = x_vl b oa (lv_args i vs) := by
  induction vs with
  | nil => intro i; rfl
  | cons v t ih =>
    intro i
    show (i, x_v b oa v) :: lv_args (if (x_v b oa v).category = 2 then i + 2 else i + 1) (t.map (x_v b oa)) = _
    rw [x_cat, ih]
    rfl
section XF
variable {p : Program} {l : Launch} {e : Env} {R : Room} {s : State} {m : MethodId} {args : Array Value} {below : List Frame} {meth : Method} {c : Code} {H : Heap} {locs : List Loc} {cells slots : Nat} {Q : State → Prop} {cc : ByteArray} {pc : Nat} {ls : Array Slot} {b : Nat} {oa : Nat → Nat} {i : Instr} {st st' : List Value} {lv lv' : X_L} {nL : Nat}
set_option maxHeartbeats 4000000 in
theorem x_alu_ok (hx : p.tables.exec = Jvm.exec) (hb : c.code = cc) (h : x_alu i st = some st') (hd : decode cc pc = .ok (i, x_len i)) (k : W p l e R s m args below meth c H locs cells slots Q (F0 m (pc + x_len i) ls (st'.map (x_v b oa)))) : W p l e R s m args below meth c H locs cells slots Q (F0 m pc ls (st.map (x_v b oa))) := by
  unfold x_alu at h
  split at h
  · cases h; exact lv_iconst hx hb hd rfl k
  · cases h; exact lv_bipush hx hb hd rfl k
  · cases h; exact lv_sipush hx hb hd rfl k
  · cases h; exact lv_lconst hx hb hd rfl k
  · cases h; exact lv_null hx hb hd k
  · split at h
    · cases h; exact lv_iadd hx hb hd k
    · cases h
  · split at h
    · cases h; exact lv_isub hx hb hd k
    · cases h
  · split at h
    · cases h; exact lv_imul hx hb hd k
    · cases h
  · split at h
    · cases h; exact lv_iand hx hb hd k
    · cases h
  · split at h
    · cases h; exact lv_ixor hx hb hd k
    · cases h
  · split at h
    · cases h; exact lv_ladd hx hb hd k
    · cases h
  · split at h
    · cases h; exact lv_lsub hx hb hd k
    · cases h
  · split at h
    · cases h; exact lv_lmul hx hb hd k
    · cases h
  · split at h
    · cases h; exact lv_land hx hb hd k
    · cases h
  · split at h
    · cases h; exact lv_lor hx hb hd k
    · cases h
  · split at h
    · split at h
      · cases h
      · rename_i hne
        cases h; exact lv_ldiv hx hb hd hne k
    · cases h
  · split at h
    · cases h; exact W.lcmp hx hb hd k
    · cases h
  · split at h
    · split at h
      · cases h
      · rename_i hne
        cases h; exact lv_irem hx hb hd hne k
    · cases h
  · split at h
    · cases h; exact lv_lshl hx hb hd rfl k
    · cases h
  · split at h
    · cases h; exact lv_i2l hx hb hd rfl k
    · cases h
  · split at h
    · cases h; exact lv_l2i hx hb hd rfl k
    · cases h
  · split at h
    · split at h
      · rename_i hc
        cases h; exact lv_pop hx hb hd (by rw [x_cat]; exact hc) k
      · cases h
    · cases h
  · split at h
    · split at h
      · rename_i hc
        cases h; exact lv_dup hx hb hd (by rw [x_cat]; exact hc) k
      · cases h
    · cases h
  · split at h
    · split at h
      · rename_i hc
        cases h; exact lv_dup_x1 hx hb hd (by rw [x_cat]; exact hc.1) (by rw [x_cat]; exact hc.2) k
      · cases h
    · cases h
  · split at h
    · split at h
      · rename_i hc
        cases h; exact lv_dup2_11 hx hb hd (by rw [x_cat]; exact hc.1) (by rw [x_cat]; exact hc.2) k
      · cases h
    · cases h
  · cases h
set_option maxHeartbeats 4000000 in
theorem x_loc_ok (hx : p.tables.exec = Jvm.exec) (hb : c.code = cc) (h : x_loc i lv st = some (lv', st')) (hd : decode cc pc = .ok (i, x_len i)) (hlim : x_lim i ≤ nL) (hl : lv_has ls nL (x_vl b oa lv)) (k : ∀ ls' : Array Slot, lv_has ls' nL (x_vl b oa lv') → W p l e R s m args below meth c H locs cells slots Q (F0 m (pc + x_len i) ls' (st'.map (x_v b oa)))) : W p l e R s m args below meth c H locs cells slots Q (F0 m pc ls (st.map (x_v b oa))) := by
  unfold x_loc at h
  split at h
  · split at h
    · rename_i hg
      cases h; exact lv_iload_n hx hb hd rfl (x_lget_has hl hg) (k ls hl)
    · cases h
  · split at h
    · rename_i hg
      cases h; exact lv_iload hx hb hd (x_lget_has hl hg) (k ls hl)
    · cases h
  · split at h
    · rename_i hg
      cases h; exact lv_lload_n hx hb hd rfl (x_lget_has hl hg) (k ls hl)
    · cases h
  · split at h
    · rename_i hg
      cases h; exact lv_lload hx hb hd (x_lget_has hl hg) (k ls hl)
    · cases h
  · split at h
    · rename_i hg
      cases h; exact lv_aload_n hx hb hd rfl (x_lget_has hl hg) (k ls hl)
    · rename_i hg
      cases h; exact lv_aload_n hx hb hd rfl (x_lget_has hl hg) (k ls hl)
    · rename_i hg
      cases h; exact lv_aload_nN hx hb hd rfl (x_lget_has hl hg) (k ls hl)
    · cases h
  · split at h
    · rename_i hg
      cases h; exact lv_aload hx hb hd (x_lget_has hl hg) (k ls hl)
    · rename_i hg
      cases h; exact lv_aload hx hb hd (x_lget_has hl hg) (k ls hl)
    · rename_i hg
      cases h; exact lv_aloadN hx hb hd (x_lget_has hl hg) (k ls hl)
    · cases h
  · split at h
    · cases h; exact lv_istore_n hx hb hd rfl hl hlim (x_vl_st1 b oa lv _ (.int _)) k
    · cases h
  · split at h
    · cases h; exact lv_istore hx hb hd hl hlim (x_vl_st1 b oa lv _ (.int _)) k
    · cases h
  · split at h
    · cases h; exact lv_lstore_n hx hb hd rfl hl hlim (x_vl_st2 b oa lv _ (.long _)) k
    · cases h
  · split at h
    · cases h; exact lv_lstore hx hb hd hl hlim (x_vl_st2 b oa lv _ (.long _)) k
    · cases h
  · split at h
    · cases h; exact lv_astore_n hx hb hd rfl hl hlim (x_vl_st1 b oa lv _ (.ref _)) k
    · cases h; exact lv_astore_n hx hb hd rfl hl hlim (x_vl_st1 b oa lv _ (.retAddr _)) k
    · cases h; exact lv_astore_nN hx hb hd rfl hl hlim (x_vl_st1 b oa lv _ .null) k
    · cases h
  · split at h
    · cases h; exact lv_astore hx hb hd hl hlim (x_vl_st1 b oa lv _ (.ref _)) k
    · cases h; exact lv_astore hx hb hd hl hlim (x_vl_st1 b oa lv _ (.retAddr _)) k
    · cases h; exact lv_astoreN hx hb hd hl hlim (x_vl_st1 b oa lv _ .null) k
    · cases h
  · split at h
    · rename_i hg
      cases h
      obtain ⟨kk, hkk⟩ := List.getElem?_of_mem (List.mem_map.mpr ⟨_, x_lget_mem hg, rfl⟩ : _ ∈ x_vl b oa lv)
      exact lv_iinc hx hb hd hl hkk rfl hlim (x_vl_st1 b oa lv _ (.int _)) k
    · cases h
  · cases h
theorem x_tgt_eq {pc : Nat} {off : Int} (h : decide (0 ≤ (pc : Int) + off) = true) : (pc : Int) + off = (x_tgt pc off : Int) := (Int.toNat_of_nonneg (of_decide_eq_true h)).symm
set_option maxHeartbeats 4000000 in
theorem x_brc_ok (hx : p.tables.exec = Jvm.exec) (hb : c.code = cc) {z : Bool} {off : Int} (h : x_brc i st = some (z, off, st')) (hd : decode cc pc = .ok (i, x_len i)) (ho : x_offok pc i = true) (k1 : z = true → W p l e R s m args below meth c H locs cells slots Q (F0 m (x_tgt pc off) ls (st'.map (x_v b oa)))) (k2 : ¬ z = true → W p l e R s m args below meth c H locs cells slots Q (F0 m (pc + 3) ls (st'.map (x_v b oa)))) : W p l e R s m args below meth c H locs cells slots Q (F0 m pc ls (st.map (x_v b oa))) := by
  unfold x_brc at h
  split at h
  · cases h; exact lv_goto hx hb hd (x_tgt_eq ho) (k1 rfl)
  · split at h
    · cases h; exact lv_if_eq hx hb hd (x_tgt_eq ho) (fun q => k1 (decide_eq_true q)) (fun q => k2 (fun r => q (of_decide_eq_true r)))
    · cases h
  · split at h
    · cases h; exact lv_if_ne hx hb hd (x_tgt_eq ho) (fun q => k1 (decide_eq_true q)) (fun q => k2 (fun r => of_decide_eq_true r q))
    · cases h
  · split at h
    · cases h; exact lv_if_lt hx hb hd (x_tgt_eq ho) (fun q => k1 (decide_eq_true q)) (fun q => k2 (fun r => q (of_decide_eq_true r)))
    · cases h
  · split at h
    · cases h; exact lv_if_ge hx hb hd (x_tgt_eq ho) (fun q => k1 (decide_eq_true q)) (fun q => k2 (fun r => q (of_decide_eq_true r)))
    · cases h
  · split at h
    · cases h; exact lv_if_gt hx hb hd (x_tgt_eq ho) (fun q => k1 (decide_eq_true q)) (fun q => k2 (fun r => q (of_decide_eq_true r)))
    · cases h
  · split at h
    · cases h; exact lv_if_le hx hb hd (x_tgt_eq ho) (fun q => k1 (decide_eq_true q)) (fun q => k2 (fun r => q (of_decide_eq_true r)))
    · cases h
  · split at h
    · cases h; exact lv_icmp_eq hx hb hd (x_tgt_eq ho) (fun q => k1 (decide_eq_true q)) (fun q => k2 (fun r => q (of_decide_eq_true r)))
    · cases h
  · split at h
    · cases h; exact lv_icmp_ne hx hb hd (x_tgt_eq ho) (fun q => k1 (decide_eq_true q)) (fun q => k2 (fun r => of_decide_eq_true r q))
    · cases h
  · split at h
    · cases h; exact lv_icmp_lt hx hb hd (x_tgt_eq ho) (fun q => k1 (decide_eq_true q)) (fun q => k2 (fun r => q (of_decide_eq_true r)))
    · cases h
  · split at h
    · cases h; exact lv_icmp_ge hx hb hd (x_tgt_eq ho) (fun q => k1 (decide_eq_true q)) (fun q => k2 (fun r => q (of_decide_eq_true r)))
    · cases h
  · split at h
    · cases h; exact lv_icmp_gt hx hb hd (x_tgt_eq ho) (fun q => k1 (decide_eq_true q)) (fun q => k2 (fun r => q (of_decide_eq_true r)))
    · cases h
  · split at h
    · cases h; exact lv_icmp_le hx hb hd (x_tgt_eq ho) (fun q => k1 (decide_eq_true q)) (fun q => k2 (fun r => q (of_decide_eq_true r)))
    · cases h
  · split at h
    · cases h; exact lv_ifnullN hx hb hd (x_tgt_eq ho) (k1 rfl)
    · cases h; exact lv_ifnull hx hb hd (k2 (fun r => by cases r))
    · cases h
  · split at h
    · cases h; exact lv_ifnonnullN hx hb hd (k2 (fun r => by cases r))
    · cases h; exact lv_ifnonnull hx hb hd (x_tgt_eq ho) (k1 rfl)
    · cases h
  · cases h
set_option maxHeartbeats 4000000 in
theorem x_swt_ok (hx : p.tables.exec = Jvm.exec) (hb : c.code = cc) {len : Nat} {off : Int} (h : x_swt i st = some (off, st')) (hd : decode cc pc = .ok (i, len)) (ho : x_offok pc i = true) (k : W p l e R s m args below meth c H locs cells slots Q (F0 m (x_tgt pc off) ls (st'.map (x_v b oa)))) : W p l e R s m args below meth c H locs cells slots Q (F0 m pc ls (st.map (x_v b oa))) := by
  unfold x_swt at h
  split at h
  · split at h
    · split at h
      · rename_i hq
        cases h
        simp only [x_offok, Bool.and_eq_true] at ho
        exact lv_tableOut hx hb hd hq (x_tgt_eq ho.1) k
      · rename_i hq
        split at h
        · rename_i hf
          cases h
          simp only [x_offok, Bool.and_eq_true] at ho
          refine lv_tableIn hx hb hd (fun z => hq (Or.inl z)) (fun z => hq (Or.inr z)) hf (x_tgt_eq ?_) k
          obtain ⟨hlt, hval⟩ := Array.getElem?_eq_some_iff.mp hf
          have h9 := Array.all_eq_true.mp ho.2 _ hlt
          rw [hval] at h9
          exact h9
        · cases h
    · cases h
  · split at h
    · cases h
      simp only [x_offok, Bool.and_eq_true] at ho
      refine lv_lookup hx hb hd ho.2 rfl (x_tgt_eq ?_) k
      obtain ⟨⟨hd0, hall⟩, -⟩ := ho
      have key : ∀ (ps : List (Int × Int)) (dflt x : Int), decide (0 ≤ (pc : Int) + dflt) = true → (ps.all fun q => decide (0 ≤ (pc : Int) + q.2)) = true → decide (0 ≤ (pc : Int) + Op.lookupswitch.offset ps dflt x) = true := by
        intro ps dflt x h1 h2
        induction ps with
        | nil => exact h1
        | cons q t ih =>
          simp only [List.all_cons, Bool.and_eq_true] at h2
          obtain ⟨a, o⟩ := q
          rw [Op.lookupswitch.offset_cons]
          split
          · exact h2.1
          · exact ih h2.2
      exact key _ _ _ hd0 hall
    · cases h
  · cases h
end XF
