/-! the sides' trees, taken apart and joined -/
theorem l_perm {l m : List Int} (h : ∀ a, List.count a l = List.count a m) : l.Perm m := List.perm_iff_count.mpr h
theorem US.perm {s : Q_S} {l m : List Int} (h : US s l) (p : l.Perm m) : US s m := ⟨h.1, fun x h0 h1 => (h.2 x h0 h1).trans p.mem_iff⟩
theorem UB.perm {s : Q_S} {l m : List Int} (h : UB s l) (p : l.Perm m) : UB s m := ⟨h.1, fun x h0 h1 => (h.2 x h0 h1).trans p.mem_iff⟩
section RJ
variable {Ps : Int → PT} {nP sec : Int} {sig : Int → Int64} {G G' : GT} {s s' : Q_S} {base u b x : Int} {p : Int} {d : DT} {st : List FR} {ys RX RB : List Int} {k : Nat} {l r : BT k} {il ir : IT k}
theorem RF.left (h : RF Ps nP sec sig s G (k + 1) base u (4, p, d, st, some (l, r)) (b, x :: ys, some (il, ir)) RX RB) : RF Ps nP sec sig s G k (base + st.length) x l il ((x :: ys ++ fxI k ir) ++ RX) ((b :: fbI k ir) ++ RB) := by
  obtain ⟨h1, h2, ⟨⟨b1, b2, b3, b4, b5, b6⟩, _, x', ys', e, g3, g4, g5, g6, g7⟩, h4, h5, h6, h7, h8, h9, h10⟩ := h
  cases e
  refine ⟨h1, h2, g6, ?_, ?_, ?_, ?_, ?_, Or.inr (by simp), h10⟩
  · refine (l_perm fun a => ?_).nodup h4
    simp only [fxI, List.count_append, List.count_cons]
    omega
  · refine h5.perm (l_perm fun a => ?_)
    simp only [fxI, List.count_append, List.count_cons]
    omega
  · refine (l_perm fun a => ?_).nodup h6
    simp only [fbI, List.count_append, List.count_cons]
    omega
  · refine h7.perm (l_perm fun a => ?_)
    simp only [fbI, List.count_append, List.count_cons]
    omega
  · cases st with
    | nil => exact b6.elim
    | cons f t' =>
      obtain ⟨fp, fa⟩ := f
      obtain ⟨z1, z2, z3, z4, z5, z6, z7⟩ := b6
      exact Or.inr ⟨z2, z3, by rw [z6]; simp; omega⟩
theorem RF.swap (h : RF Ps nP sec sig s G k base x l il ((x :: ys ++ fxI k ir) ++ RX) ((b :: fbI k ir) ++ RB)) (hr : RM s (Ps (G_pg G)) k base x r ir) : RF Ps nP sec sig s G k base x r ir ((x :: ys ++ fxI k il) ++ RX) ((b :: fbI k il) ++ RB) := by
  obtain ⟨h1, h2, _, h4, h5, h6, h7, h8, h9, h10⟩ := h
  refine ⟨h1, h2, hr, ?_, ?_, ?_, ?_, h8, Or.inr (by simp), h10⟩
  · refine (l_perm fun a => ?_).nodup h4
    simp only [List.count_append, List.count_cons]
    omega
  · refine h5.perm (l_perm fun a => ?_)
    simp only [List.count_append, List.count_cons]
    omega
  · refine (l_perm fun a => ?_).nodup h6
    simp only [List.count_append, List.count_cons]
    omega
  · refine h7.perm (l_perm fun a => ?_)
    simp only [List.count_append, List.count_cons]
    omega
theorem RF.join {base' : Int} (h : RF Ps nP sec sig s G k base' x r ir ((x :: ys ++ fxI k il) ++ RX) ((b :: fbI k il) ++ RB)) (he : base' = base + st.length) (hl : RM s (Ps (G_pg G)) k base' x l il) (hb : rpB s (Ps (G_pg G)) base u b (4, p, d, st) (x :: ys)) (g3 : q_I s 59 x = itB k il) (g4 : q_I s 60 x = itB k ir) (g5 : ∀ y ∈ ys, q_I s 59 y = -1) (hu : UD s u base) (hux : u = -1 ∨ u ∈ RX) :
    RF Ps nP sec sig s G (k + 1) base u (4, p, d, st, some (l, r)) (b, x :: ys, some (il, ir)) RX RB := by
  obtain ⟨h1, h2, h3, h4, h5, h6, h7, h8, h9, h10⟩ := h
  subst he
  refine ⟨h1, h2, ⟨hb, rfl, x, ys, rfl, g3, g4, g5, hl, h3⟩, ?_, ?_, ?_, ?_, hu, hux, h10⟩
  · refine (l_perm fun a => ?_).nodup h4
    simp only [fxI, List.count_append, List.count_cons]
    omega
  · refine h5.perm (l_perm fun a => ?_)
    simp only [fxI, List.count_append, List.count_cons]
    omega
  · refine (l_perm fun a => ?_).nodup h6
    simp only [fbI, List.count_append, List.count_cons]
    omega
  · refine h7.perm (l_perm fun a => ?_)
    simp only [fbI, List.count_append, List.count_cons]
    omega
/-- the branch's own row, kept by the others' steps -/
theorem rpB_same {P : PT} {c : CT} {xs : List Int} (h : rpB s P base u b c xs) (hx : SMX s s' xs) (hb : SMB s s' [b]) : rpB s' P base u b c xs := by
  obtain ⟨b1, b2, b3, b4, b5, b6⟩ := h
  obtain ⟨e1, e2, e3, e4, e5, e6, e7⟩ := hb b (by simp)
  refine ⟨b1, b2, e1.trans b3, e2.trans b4, fun hm => ?_, ?_⟩
  · obtain ⟨d1, d2, d3⟩ := b5 hm
    exact ⟨e4.trans d1, e5.trans d2, fun hw => ⟨e6.trans (d3 hw).1, e7.trans (d3 hw).2⟩⟩
  · rw [e3]
    exact rpS_same _ _ _ (fun y hy => by obtain ⟨a1, a2, a3, a4, a5, a6⟩ := hx y hy; exact ⟨a1, a2, a3, a6⟩) b6
theorem ST.sub {RX' RB' : List Int} (h : ST s s' RX RB) (hx : ∀ x ∈ RX', x ∈ RX) (hb : ∀ x ∈ RB', x ∈ RB) : ST s s' RX' RB' := ⟨h.1, fun x z => h.2.1 x (hx x z), fun x z => h.2.2 x (hb x z)⟩
end RJ
/-- what run leaves -/
def RnP (Ps : Int → PT) (nP sec : Int) (sig : Int → Int64) (s : Q_S) (k : Nat) (base u b : Int) (RX RB : List Int) (res : (GT × BT k) ⊕ (GT × Int × Int)) (s' : Q_S) : Prop := match res with
  | .inl (G', t') => ∃ it', RF Ps nP sec sig s' G' k base u t' it' RX RB ∧ itB k it' = b ∧ ST s s' RX RB
  | .inr (G', x) => FltP Ps nP sec sig G' s s' x
section RR
variable {o : X_O} {Ps : Int → PT} {szs : Int → Int → Int} {nP sec : Int} {sig : Int → Int64}
theorem RnP.step {s s1 s' : Q_S} {k : Nat} {base u b : Int} {RX RB : List Int} {res : (GT × BT k) ⊕ (GT × Int × Int)} (h : RnP Ps nP sec sig s1 k base u b RX RB res s') (hst : ST s s1 RX RB) : RnP Ps nP sec sig s k base u b RX RB res s' := by
  cases res with
  | inl x =>
    obtain ⟨G', t'⟩ := x
    obtain ⟨it', h1, h2, h3⟩ := h
    exact ⟨it', h1, h2, hst.tr h3⟩
  | inr x =>
    obtain ⟨G', x⟩ := x
    obtain ⟨h1, h2⟩ := h
    exact ⟨hst.1.tr h1, h2⟩
theorem rn_end {s : Q_S} {e : Nat} (hs : SH s) {b i : Int} (hi : i = 0 ∨ (i = 1 ∧ q_F s 38 47 = 1)) : QW (fun n => g_121 o n e 2 s 38 b i 0 0 .null 0 0) (fun q => q = (s, ())) := by
  have e10 : QW (fun n => g_121 o n e 10 s 0 0 0 0 0 .null 0 0) (fun q => q = (s, ())) := by
    refine QW_s ?_
    simp only [g_121]
    exact QW_ret rfl
  refine QW_s ?_
  simp only [g_121]
  refine QW_g (by omega) ?_
  rcases hi with hi | ⟨hi, hf⟩
  · refine QW_it hi ?_
    exact e10
  · refine QW_if (by omega) ?_
    refine QW_p (k_gi (hs _ _ rfl) rfl) ?_
    refine QW_g (by omega) ?_
    refine QW_it (by omega) ?_
    exact e10
end RR
