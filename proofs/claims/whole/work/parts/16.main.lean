theorem x_inv_0 {i : Instr} {idx : Nat} (h : x_inv i = some (0, idx)) : i = .invokevirtual idx := by
  unfold x_inv at h
  split at h <;> cases h
  rfl
theorem x_inv_1 {i : Instr} {idx : Nat} (h : x_inv i = some (1, idx)) : i = .invokespecial idx := by
  unfold x_inv at h
  split at h <;> cases h
  rfl
theorem x_inv_2 {i : Instr} {idx : Nat} (h : x_inv i = some (2, idx)) : i = .invokestatic idx := by
  unfold x_inv at h
  split at h <;> cases h
  rfl
theorem x_nfw : nativeFrameWords "java/lang/System" "arraycopy" 5 ≤ 40 := by decide +kernel
section XC
variable {l : Launch} {o : X_O} {D : va_G} {dA : FieldType → ClassId} {b : Nat} {oa : Nat → Nat} {p : Program} {e : Env} {R : Room} {s : State} {m : MethodId} {args : Array Value} {below : List Frame} {meth : Method} {c : Code} {H : Heap} {locs : List Loc} {cells slots : Nat} {Q : State → Prop} {pc : Nat} {ls : Array Slot} {w w' : X_H} {mi n0 s0 : Nat} {st st' : List Value}
set_option maxHeartbeats 4000000 in
theorem x_acopy_ok (hC : x_ctx o D dA b oa p s m args meth c mi) {idx : Nat} (hlink : Cond.methodLink (x_cname mi) idx arraycopyName ∈ lw_tbl) (h : x_acopy st w = some (st', w')) (hd : decode (x_bytes mi) pc = .ok (.invokestatic idx, 3)) (hls : ls.size = x_mL mi) (hH : x_hold D vwCl dA b oa w H) (hS : va_S (fun q => b ≤ q) s.heap H locs) (hsz : s.heap.size = b + n0) (hc : cells + n0 = w.1) (hs : slots + s0 = w.2.1) (hsum : (st'.map fun v => v.category).sum ≤ 8) (hfr : 1 ≤ R.frames) (hlo : 64 ≤ R.locals)
    (k : ∀ (H1 : Heap) (locs1 : List Loc), x_hold D vwCl dA b oa w' H1 → va_S (fun q => b ≤ q) s.heap H1 locs1 → cells + n0 = w'.1 → slots + s0 = w'.2.1 → W p l e R s m args below meth c H1 locs1 cells slots Q (F0 m (pc + 3) ls (st'.map (x_v b oa)))) : W p l e R s m args below meth c H locs cells slots Q (F0 m pc ls (st.map (x_v b oa))) := by
  obtain ⟨hx, hb, hml, hr, hlocks, hown, hts, hodd, hK, hG, hnm⟩ := hC
  have ht : ∀ {z : Cond}, z ∈ lw_tbl → goodWord z = true → z.before args s = true := fun h9 g9 => hts _ (x_good h9 g9)
  have hD : va_D (fun q => b ≤ q) (x_ws b oa dA w) := x_ws_D
  have hP := hH.2.1
  have hS0 := x_S_here hS
  obtain ⟨-, -, hnat, hstat, hini⟩ := x_words_few
  have hloc : (((st'.map (x_v b oa)).map fun v => v.category).sum) + (nativeFrameWords "java/lang/System" "arraycopy" 5 + 11) ≤ R.locals := by
    rw [x_catsum]
    have := x_nfw
    omega
  unfold x_acopy at h
  split at h
  · split at h
    · rename_i hn
      split at h
      · rename_i h0 h1
        split at h
        · rename_i hle
          cases h
          obtain ⟨q0, hq0⟩ := x_hold_at hH h0
          obtain ⟨q1, hq1⟩ := x_hold_at hH h1
          obtain ⟨t0, ht0⟩ := x_tys_at (dA := dA) (t := .int) (by decide)
          have kk := x_wrote (x' := .inl (.int, _, .inl _)) hH hS hsz hc h1 hq1 (fun H1 locs1 a1 a2 => k H1 locs1 a1 a2 hc hs)
          exact va_copyi hx hb (hml.trans hls.symm) hown (ht hlink rfl) (ht hnat rfl) (ht hstat rfl) (ht hini rfl) hK hP hD hS0 q0 q1 t0 t0 hq0 hq1 ht0 ht0 rfl hn.1 hn.2.1 hn.2.2 hle.1 hle.2 (fun _ _ => rfl) hfr hloc hd (fun H1 locs1 hP1 _ hS1 => kk H1 locs1 hP1 hS1)
        · cases h
      · rename_i h0 h1
        split at h
        · rename_i hle
          cases h
          obtain ⟨q0, hq0⟩ := x_hold_at hH h0
          obtain ⟨q1, hq1⟩ := x_hold_at hH h1
          obtain ⟨t0, ht0⟩ := x_tys_at (dA := dA) (t := .long) (by decide)
          have kk := x_wrote (x' := .inl (.long, _, .inr (.inl _))) hH hS hsz hc h1 hq1 (fun H1 locs1 a1 a2 => k H1 locs1 a1 a2 hc hs)
          exact va_copyl hx hb (hml.trans hls.symm) hown (ht hlink rfl) (ht hnat rfl) (ht hstat rfl) (ht hini rfl) hK hP hD hS0 q0 q1 t0 t0 hq0 hq1 ht0 ht0 rfl hn.1 hn.2.1 hn.2.2 hle.1 hle.2 (fun _ _ => rfl) hfr hloc hd (fun H1 locs1 hP1 _ hS1 => kk H1 locs1 hP1 hS1)
        · cases h
      · cases h
    · cases h
  · cases h
theorem x_split {na : Nat} {v : Value} {rest : List Value} (h : st.drop na = v :: rest) : st.map (x_v b oa) = ((st.take na).reverse.map (x_v b oa)).reverse ++ x_v b oa v :: rest.map (x_v b oa) ∧ ((st.take na).reverse.map (x_v b oa)).length = na := by
  constructor
  · rw [← List.map_reverse, List.reverse_reverse, ← List.map_cons, ← List.map_append, ← h, List.take_append_drop]
  · rw [List.length_map, List.length_reverse, List.length_take]
    have h1 : (st.drop na).length = rest.length + 1 := by rw [h]; rfl
    rw [List.length_drop] at h1
    omega
theorem x_recv (hC : x_ctx o D dA b oa p s m args meth c mi) (hH : x_hold D vwCl dA b oa w H) {k cj y : Nat} {fs : List Value} (hw : w.2.2 k = some (.inr (cj, fs))) (hy : some cj = x_own y) (hyc : (x_nm y).cls = x_cname y) : ∃ cell : Cell, H[b + k]? = some cell ∧ cell.vm.isStatics = false ∧ s.vm.findClass (x_nm y).cls = some cell.cls := by
  obtain ⟨-, -, -, -, -, -, -, -, hK, -, -⟩ := hC
  unfold x_own at hy
  split at hy
  · rename_i hlt
    have e : cj = x_cno y := Option.some.inj hy
    obtain ⟨q, hq⟩ := x_hold_at hH hw
    have hv : vwCl[cj]? = some (vwCl[cj]'(by rw [e]; exact hlt)) := List.getElem?_eq_getElem _
    obtain ⟨cell, g1, g2, g3⟩ := va_recv hK hH.2.1 hv hq
    refine ⟨cell, g1, g2, ?_⟩
    have h9 : x_cnms.getD cj "" = (vwCl[cj]'(by rw [e]; exact hlt)).1 := by
      have hok := x_okC_all (C := (vwCl[cj]'(by rw [e]; exact hlt)).1) (T := (vwCl[cj]'(by rw [e]; exact hlt)).2.1) (N := (vwCl[cj]'(by rw [e]; exact hlt)).2.2) hv
      exact hok.2.2.2.2.2.2.2.2.1
    rw [hyc]
    unfold x_cname
    rw [← e, h9]
    exact g3
  · cases hy
end XC
set_option maxHeartbeats 8000000 in
theorem x_sound (l : Launch) (htr : l.stackTraces = false) (o : X_O) (D : va_G) (dA : FieldType → ClassId) (b : Nat) (oa : Nat → Nat) : ∀ n, x_S l o D dA b oa n := by
  intro n
  induction n with
  | zero => intro d mi pc lv st w w' r h; simp [x_run] at h
  | succ n ih =>
    intro d mi pc lv st w w' r h p e R s m args below meth c Q H locs cells slots n0 s0 ls hC hH hS hsz hc hs hrc hrs hdf hdl hl kr
    obtain ⟨hx, hb, hml, hrt, hlocks, hown, hts, hodd, hK, hG, hnm⟩ := id hC
    have ht : ∀ {z : Cond}, z ∈ lw_tbl → goodWord z = true → z.before args s = true := fun h9 g9 => hts _ (x_good h9 g9)
    unfold x_run x_G at h
    split at h
    · cases h
    rename_i i hcode
    obtain ⟨len, hd, hlen, hlim, hoff⟩ := x_code_ok hcode
    have hdl' : x_sw i = false → decode (x_bytes mi) pc = .ok (i, x_len i) := fun z => by rw [← hlen z]; exact hd
    split at h
    · rename_i halu
      exact x_alu_ok hx hb halu (hdl' (x_sw_alu halu)) (ih _ _ _ _ _ _ _ _ h p e R s m args below meth c Q H locs cells slots n0 s0 ls hC hH hS hsz hc hs hrc hrs hdf hdl hl kr)
    split at h
    · rename_i hloc
      exact x_loc_ok hx hb hloc (hdl' (x_sw_loc hloc)) hlim hl (fun ls' hl' => ih _ _ _ _ _ _ _ _ h p e R s m args below meth c Q H locs cells slots n0 s0 ls' hC hH hS hsz hc hs hrc hrs hdf hdl hl' kr)
    split at h
    · rename_i hheap
      have hm := x_run_mono o _ _ _ _ _ _ _ _ _ h
      exact x_heap_ok hC hheap (hdl' (x_sw_heap hheap)) hH hS hsz hc hs (by have := hm.1; omega) (by have := hm.2; omega) (fun H1 locs1 cells1 slots1 a1 a2 a3 a4 => ih _ _ _ _ _ _ _ _ h p e R s m args below meth c Q H1 locs1 cells1 slots1 n0 s0 ls hC a1 a2 hsz a3 a4 hrc hrs hdf hdl hl kr)
    split at h
    · rename_i hbr
      exact x_brc_ok hx hb hbr (hdl' (x_sw_brc hbr)) hoff (fun z => ih _ _ _ _ _ _ _ _ (by rw [if_pos z] at h; exact h) p e R s m args below meth c Q H locs cells slots n0 s0 ls hC hH hS hsz hc hs hrc hrs hdf hdl hl kr) (fun z => ih _ _ _ _ _ _ _ _ (by rw [if_neg z] at h; exact h) p e R s m args below meth c Q H locs cells slots n0 s0 ls hC hH hS hsz hc hs hrc hrs hdf hdl hl kr)
    split at h
    · rename_i hsw
      exact x_swt_ok hx hb hsw hd hoff (ih _ _ _ _ _ _ _ _ h p e R s m args below meth c Q H locs cells slots n0 s0 ls hC hH hS hsz hc hs hrc hrs hdf hdl hl kr)
    split at h
    · rename_i hrets
      cases h
      exact kr _ pc ls _ H locs cells slots (hdl' (x_sw_rets hrets)) hrets hH hS hc hs
    split at h
    · cases h
    rename_i it idx hinv
    split at h
    · cases h
    rename_i kd y na hmth
    split at h
    · cases h
    rename_i hkt
    have hkt : x_kt kd = it := Decidable.not_not.mp hkt
    subst hkt
    have hdi := hdl' (x_sw_inv hinv)
    split at h
    · rename_i h6
      subst h6
      have hi := x_inv_1 hinv
      subst hi
      split at h
      · split at h
        · rename_i hg
          refine W.objInit hx hb hown (ht (x_mth6 hmth) rfl) (ht x_words_few.1 rfl) (ht x_words_few.2.1 rfl) rfl (hl.1.trans hml.symm) rfl hdi (by omega) ?_ (ih _ _ _ _ _ _ _ _ h p e R s m args below meth c Q H locs cells slots n0 s0 ls hC hH hS hsz hc hs hrc hrs hdf hdl hl kr)
          exact Nat.le_trans (Nat.add_le_add_right (lv_room (by rw [x_catsum]; exact hg.1)) 12) (by omega)
        · cases h
      · cases h
    split at h
    · rename_i h7
      subst h7
      have hi := x_inv_2 hinv
      subst hi
      split at h
      · rename_i t w1 hcp
        split at h
        · rename_i hg
          exact x_acopy_ok hC (x_mth7 hmth) hcp hdi hl.1 hH hS hsz hc hs hg.1 (by omega) (by omega) (fun H1 locs1 a1 a2 a3 a4 => ih _ _ _ _ _ _ _ _ h p e R s m args below meth c Q H1 locs1 cells slots n0 s0 ls hC a1 a2 hsz a3 a4 hrc hrs hdf hdl hl kr)
        · cases h
      · cases h
    split at h
    · rename_i h8
      subst h8
      have hi := x_inv_2 hinv
      subst hi
      split at h
      · rename_i y1 x1 t
        split at h
        · rename_i hg
          exact va_mmin hx hb (hml.trans hl.1.symm) hown (ht (x_mth8 hmth) rfl) (ht x_words_min.1 rfl) (ht x_words_min.2.1 rfl) (ht x_words_min.2.2 rfl) (by omega) (by rw [x_catsum]; omega) (by have := x_run_mono o _ _ _ _ _ _ _ _ _ h; omega) (by have := x_run_mono o _ _ _ _ _ _ _ _ _ h; omega) hdi (ih _ _ _ _ _ _ _ _ h p e R s m args below meth c Q H locs cells slots n0 s0 ls hC hH hS hsz hc hs hrc hrs hdf hdl hl kr)
        · cases h
      · cases h
    split at h
    · rename_i h9
      subst h9
      have hi := x_inv_2 hinv
      subst hi
      split at h
      · rename_i t w1 htb
        split at h
        · rename_i hg
          have hm := x_run_mono o _ _ _ _ _ _ _ _ _ h
          have hm2 := x_tab_mono htb
          exact x_tab_ok htr hC (x_mth9 hmth) htb hdi hl.1 hH hS hsz hc hs (by have := hm.1; have := hm2.1; omega) (by have := hm.2; have := hm2.2; omega) hg.1 (by omega) (by omega) (fun H1 locs1 cells1 slots1 a1 a2 a3 a4 => ih _ _ _ _ _ _ _ _ h p e R s m args below meth c Q H1 locs1 cells1 slots1 n0 s0 ls hC a1 a2 hsz a3 a4 hrc hrs hdf hdl hl kr)
        · cases h
      · cases h
    rename_i h6 h7 h8 h9
    split at h
    · rename_i d' as rest hargs
      split at h
      · rename_i hsum
        split at h
        · rename_i w1 r1 hrun
          obtain ⟨hylt, hpar, hkinds⟩ := x_mth_in hmth h6 h7 h8 h9
          obtain ⟨hyw, hyc, hypl, hym1, hym2, hymL, hyini⟩ := x_ychk_ok hylt
          have hM := x_met ih hrun hsum.2 hypl hyc
          have hm1 := x_run_mono o _ _ _ _ _ _ _ _ _ hrun
          have hm2 := x_run_mono o _ _ _ _ _ _ _ _ _ h
          have hroom : cells + (w1.1 - w.1) ≤ R.cells ∧ slots + (w1.2.1 - w.2.1) ≤ R.slots := ⟨by omega, by omega⟩
          have hR : d' + 1 ≤ R.frames ∧ 8 + (x_mL y + 11) + 64 * d' ≤ R.locals := ⟨by omega, by omega⟩
          have hfix : CallFix p m c (x_bytes mi) (x_mL mi) s args x_tbl (x_cname mi) := ⟨hx, hb, hml, hown, hts⟩
          have hgo : ∀ (H1 : Heap) (locs1 : List Loc), x_hold D vwCl dA b oa w1 H1 → va_S (fun q => b ≤ q) s.heap H1 locs1 → W p l e R s m args below meth c H1 locs1 (cells + (w1.1 - w.1)) (slots + (w1.2.1 - w.2.1)) Q (F0 m (pc + 3) ls ((r1.map (x_v b oa)).toList ++ rest.map (x_v b oa))) := by
            intro H1 locs1 a1 a2
            rw [x_ret_map]
            exact ih _ _ _ _ _ _ _ _ h p e R s m args below meth c Q H1 locs1 _ _ n0 s0 ls hC a1 a2 hsz (by omega) (by omega) hrc hrs hdf hdl hl kr
          have hcat : ∀ {rr : List Value}, 2 * (F0 m pc ls rr).monitorRoom + ((rest.map (x_v b oa)).map fun v => v.category).sum ≤ 8 := fun {rr} => lv_room (by rw [x_catsum]; exact hsum.1)
          have hw1 : s.heap.size ≤ b + w1.1 := by omega
          rcases hkinds with ⟨e0, k1, k2, k3⟩ | ⟨e0, k1, k2, k3, k4⟩ | ⟨e0, k1, k2, k3, k4⟩ | ⟨e0, k1, k2⟩
          · subst e0
            have hi := x_inv_0 hinv
            subst hi
            unfold x_args at hargs
            simp only [Nat.zero_le, if_true] at hargs
            split at hargs
            · rename_i k0 rest0 hdrop
              split at hargs
              · rename_i cj fs hwk
                split at hargs
                · rename_i hcj
                  cases hargs
                  obtain ⟨hst, hlen⟩ := x_split (b := b) (oa := oa) hdrop
                  refine x_callW (va_runV (As := (st.take na).reverse.map (x_v b oa)) (rest := rest.map (x_v b oa)) (b := b + k0) (C := (x_nm y).cls) hfix hM ⟨callB_of na hts (x_goodIn hylt) rfl rfl rfl (ht hyini rfl) (ht k1 rfl) ⟨hym1, hym2, hpar⟩ hR, ht k2 rfl, ht k3 rfl⟩ ⟨x_blind, x_recv hC hH hwk hcj hyc, fun U hU hW => x_pre_at (as := .ref k0 :: (st.take na).reverse) hC hH hS U hU hW⟩ rfl hlen hl.1 hst hcat hdi hroom) hS hw1 hgo
                · cases hargs
              · cases hargs
            · cases hargs
          · subst e0
            have hi := x_inv_1 hinv
            subst hi
            unfold x_args at hargs
            simp only [show ¬ 2 ≤ 1 by decide, show 2 ≤ 3 by decide, if_true, if_false] at hargs
            split at hargs
            · rename_i k0 rest0 hdrop
              cases hargs
              obtain ⟨hst, hlen⟩ := x_split (b := b) (oa := oa) hdrop
              rw [x_wds, k4] at hM
              refine x_callW (va_runI (As := (st.take na).reverse.map (x_v b oa)) (rest := rest.map (x_v b oa)) (b := b + k0) hfix hM ⟨callB_of na hts (by have := x_goodIn hylt; rw [x_wds, k4] at this; exact this) rfl rfl rfl (ht hyini rfl) (ht k1 rfl) ⟨hym1, hym2, hpar⟩ hR, k3, ht k2 rfl⟩ ⟨x_blind, fun U hU hW => x_pre_at (as := .ref k0 :: (st.take na).reverse) hC hH hS U hU hW⟩ rfl hlen hl.1 hst hcat hdi hroom) hS hw1 hgo
            · cases hargs
          · subst e0
            have hi := x_inv_1 hinv
            subst hi
            unfold x_args at hargs
            simp only [show ¬ 3 ≤ 1 by decide, show 3 ≤ 3 by decide, if_true, if_false] at hargs
            split at hargs
            · rename_i k0 rest0 hdrop
              cases hargs
              obtain ⟨hst, hlen⟩ := x_split (b := b) (oa := oa) hdrop
              rw [x_wds, k4] at hM
              refine x_callW (va_runIN (As := (st.take na).reverse.map (x_v b oa)) (rest := rest.map (x_v b oa)) (b := b + k0) hfix hM ⟨va_cnB na hts (by have := x_goodIn hylt; rw [x_wds, k4] at this; exact this) rfl rfl rfl (hodd.2.1 _ k1) (ht hyini rfl) ⟨hym1, hym2, hpar⟩ hR, k3, ht k2 rfl⟩ ⟨x_blind, fun U hU hW => x_pre_at (as := .ref k0 :: (st.take na).reverse) hC hH hS U hU hW⟩ rfl hlen hl.1 hst hcat hdi hroom) hS hw1 hgo
            · cases hargs
          · subst e0
            have hi := x_inv_2 hinv
            subst hi
            unfold x_args at hargs
            simp only [show ¬ 5 ≤ 1 by decide, show ¬ 5 ≤ 3 by decide, if_false] at hargs
            split at hargs
            · rename_i hna
              cases hargs
              have hst : st.map (x_v b oa) = ((st.take na).reverse.map (x_v b oa)).reverse ++ (st.drop na).map (x_v b oa) := by
                rw [← List.map_reverse, List.reverse_reverse, ← List.map_append, List.take_append_drop]
              refine x_callW (va_runS (As := (st.take na).reverse.map (x_v b oa)) (rest := (st.drop na).map (x_v b oa)) hfix hM ⟨callB_of na hts (x_goodIn hylt) rfl rfl rfl (ht hyini rfl) (ht k1 rfl) ⟨hym1, hym2, hpar⟩ hR, ht k2 rfl⟩ ⟨x_blind, fun U hU hW => x_pre_at (as := (st.take na).reverse) hC hH hS U hU hW⟩ rfl (by rw [List.length_map, List.length_reverse, List.length_take]; omega) hl.1 hst hcat hdi hroom) hS hw1 hgo
            · cases hargs
        · cases h
      · cases h
    · cases h
