/-! THE TABLES ARE THE STATEMENT'S: each row of them is a word of lw_tbl, each instruction is what the bytes say -/
/-- how long an instruction is (switches: never asked) -/
def x_len : Instr → Nat
  | .bipush _ => 2
  | .sipush _ => 3
  | .ldc _ => 2
  | .ldc_w _ => 3
  | .ldc2_w _ => 3
  | .iload _ => 2
  | .lload _ => 2
  | .aload _ => 2
  | .istore _ => 2
  | .lstore _ => 2
  | .astore _ => 2
  | .iinc _ _ => 3
  | .newarray _ => 2
  | .getfield _ => 3
  | .putfield _ => 3
  | .getstatic _ => 3
  | .new _ => 3
  | .anewarray _ => 3
  | .invokevirtual _ => 3
  | .invokespecial _ => 3
  | .invokestatic _ => 3
  | .ifCond _ _ => 3
  | .if_icmp _ _ => 3
  | .if_acmp _ _ => 3
  | .ifnull _ => 3
  | .ifnonnull _ => 3
  | .goto _ => 3
  | _ => 1
def x_sw : Instr → Bool
  | .tableswitch _ _ _ _ => true
  | .lookupswitch _ _ => true
  | _ => false
/-- which locals an instruction may store to: below this -/
def x_lim : Instr → Nat
  | .istore_n k => k.val + 1
  | .istore k => k + 1
  | .lstore_n k => k.val + 2
  | .lstore k => k + 2
  | .astore_n k => k.val + 1
  | .astore k => k + 1
  | .iinc k _ => k + 1
  | _ => 0
def x_offok (pc : Nat) : Instr → Bool
  | .goto off => decide (0 ≤ (pc : Int) + off)
  | .ifCond _ off => decide (0 ≤ (pc : Int) + off)
  | .if_icmp _ off => decide (0 ≤ (pc : Int) + off)
  | .ifnull off => decide (0 ≤ (pc : Int) + off)
  | .ifnonnull off => decide (0 ≤ (pc : Int) + off)
  | .tableswitch dflt _ _ offs => decide (0 ≤ (pc : Int) + dflt) && offs.all fun off => decide (0 ≤ (pc : Int) + off)
  | .lookupswitch dflt ps => decide (0 ≤ (pc : Int) + dflt) && (ps.toList.all fun q => decide (0 ≤ (pc : Int) + q.2)) && (ps.toList.zip (ps.toList.drop 1)).all (fun (a, next) => a.1 < next.1)
  | _ => true
theorem x_look_mem {α : Type} {l : List (Nat × α)} {i : Nat} {v : α} (h : x_look l i = some v) : (i, v) ∈ l := by
  induction l with
  | nil => cases h
  | cons q t ih =>
    obtain ⟨j, u⟩ := q
    simp only [x_look] at h
    split at h
    · rename_i e
      cases h
      subst e
      exact List.mem_cons_self
    · exact List.mem_cons_of_mem _ (ih h)
def x_one (mi : Nat) (q : Nat × Instr) : Bool := match decode (x_bytes mi) q.1 with
  | .ok (i, len) => decide (i = q.2) && (x_sw i || decide (len = x_len i)) && decide (x_lim i ≤ x_mL mi) && x_offok q.1 i
  | .error _ => false
def x_chk (mi k : Nat) : Bool := (((x_codes.getD mi []).drop (30 * k)).take 30).all (x_one mi)
theorem x_getD_out {α : Type} {l : List α} {n : Nat} {d : α} (h : l.length ≤ n) : l.getD n d = d := by
  rw [List.getD_eq_getElem?_getD, List.getElem?_eq_none h]
  rfl
theorem x_chk_of {mi m : Nat} (hl : (x_codes.getD mi []).length ≤ 30 * m) (h : ∀ k, k < m → x_chk mi k = true) {q : Nat × Instr} (hq : q ∈ x_codes.getD mi []) : x_one mi q = true := by
  obtain ⟨i, hi⟩ := List.getElem?_of_mem hq
  have hlt := (List.getElem?_eq_some_iff.mp hi).1
  have hk : i / 30 < m := by omega
  refine List.all_eq_true.mp (h _ hk) q (List.mem_of_getElem? (i := i % 30) ?_)
  rw [List.getElem?_take_of_lt (Nat.mod_lt _ (by decide)), List.getElem?_drop, Nat.div_add_mod]
  exact hi
