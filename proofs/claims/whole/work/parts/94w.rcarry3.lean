/-! THE REFERENCE'S RUNS SAVED AND PUT BACK: all of it -/
/-- row k of what is saved in s is the run of r -/
def SF (s : Q_S) (k : Int) (r : Q_S) : Prop := q_I s 71 (16 * k) = q_F r 38 17 ∧ q_I s 71 (16 * k + 1) = q_F r 38 18 ∧ q_I s 71 (16 * k + 2) = q_F r 38 19 ∧ q_I s 71 (16 * k + 3) = q_F r 38 20 ∧ q_I s 71 (16 * k + 4) = q_F r 38 21 ∧ q_I s 71 (16 * k + 5) = q_F r 38 22 ∧ q_I s 71 (16 * k + 6) = q_F r 38 23 ∧ q_I s 71 (16 * k + 7) = q_F r 38 24 ∧ q_I s 71 (16 * k + 8) = q_F r 38 25 ∧ q_I s 71 (16 * k + 9) = q_F r 38 45
def SN (s : Q_S) (k : Int) (r : Q_S) : Prop := (∀ x, 0 ≤ x → x < 8 → q_L s 72 (24 * k + x) = q_L r 52 x) ∧ (∀ x, 0 ≤ x → x < 16 → q_L s 72 (24 * k + (x + 8)) = q_L r 53 x) ∧ (∀ x, 0 ≤ x → x < 8 → q_I s 79 (8 * k + x) = q_I r 54 x)
def SA (s : Q_S) (k : Int) (r : Q_S) : Prop := ∀ x, 0 ≤ x → x < 6144 → q_I s 75 (6144 * k + x) = q_I r 61 x ∧ q_L s 74 (6144 * k + x) = q_L r 58 x ∧ q_I s 73 (5 * (6144 * k + x)) = q_I r 55 x ∧ q_I s 73 (5 * (6144 * k + x) + 1) = q_I r 56 x ∧ q_I s 73 (5 * (6144 * k + x) + 2) = q_I r 57 x ∧ q_I s 73 (5 * (6144 * k + x) + 3) = q_I r 59 x ∧ q_I s 73 (5 * (6144 * k + x) + 4) = q_I r 60 x
def SB (s : Q_S) (k : Int) (r : Q_S) : Prop := ∀ x, 0 ≤ x → x < 104 → q_I s 78 (104 * k + x) = q_I r 69 x ∧ q_I s 76 (4 * (104 * k + x)) = q_I r 62 x ∧ q_I s 76 (4 * (104 * k + x) + 1) = q_I r 63 x ∧ q_I s 76 (4 * (104 * k + x) + 2) = q_I r 64 x ∧ q_I s 76 (4 * (104 * k + x) + 3) = q_I r 65 x ∧ q_L s 77 (3 * (104 * k + x)) = q_L r 66 x ∧ q_L s 77 (3 * (104 * k + x) + 1) = q_L r 67 x ∧ q_L s 77 (3 * (104 * k + x) + 2) = q_L r 68 x
def SLo (s : Q_S) (k : Int) (r : Q_S) : Prop := SF s k r ∧ SN s k r ∧ SA s k r ∧ SB s k r
/-- one number saved, one put back -/
def kk (s : Q_S) (a : Int) (f : Nat) : Q_S := q_si s 71 a (q_F s 38 f)
def ll (s : Q_S) (a : Int) (f : Nat) : Q_S := q_sf s 38 f (q_I s 71 a)
def cE1 (s : Q_S) (k : Int) : Q_S := kk (kk (kk (kk (kk (kk (kk (kk (kk (kk s (16 * k) 17) (16 * k + 1) 18) (16 * k + 2) 19) (16 * k + 3) 20) (16 * k + 4) 21) (16 * k + 5) 22) (16 * k + 6) 23) (16 * k + 7) 24) (16 * k + 8) 25) (16 * k + 9) 45
def cE0 (s : Q_S) (k : Int) : Q_S := ll (ll (ll (ll (ll (ll (ll (ll (ll (ll s (16 * k) 17) (16 * k + 1) 18) (16 * k + 2) 19) (16 * k + 3) 20) (16 * k + 4) 21) (16 * k + 5) 22) (16 * k + 6) 23) (16 * k + 7) 24) (16 * k + 8) 25) (16 * k + 9) 45
section RCE
variable {o : X_O} {s0 s : Q_S} {k i : Int}
theorem kk_F {a : Int} {f h : Nat} : q_F (kk s a f) 38 h = q_F s 38 h := by unfold kk; rw [q_F_si, if_neg (fun z => absurd z.1 (by decide))]
theorem kk_I {a j : Int} {c f : Nat} : q_I (kk s a f) c j = if c = 71 ∧ j = a then q_F s 38 f else q_I s c j := rfl
theorem kk_L {a j : Int} {c f : Nat} : q_L (kk s a f) c j = q_L s c j := rfl
theorem ll_F {a : Int} {f h : Nat} : q_F (ll s a f) 38 h = if h = f then q_I s 71 a else q_F s 38 h := by
  unfold ll
  rw [q_F_sf]
  by_cases z : h = f
  · rw [if_pos ⟨rfl, z⟩, if_pos z]
  · rw [if_neg (fun w => z w.2), if_neg z]
theorem ll_I {a j : Int} {c f : Nat} (h : c ≠ 38) : q_I (ll s a f) c j = q_I s c j := by unfold ll; rw [q_I_sf, if_neg (fun z => h z.1)]
theorem ll_L {a j : Int} {c f : Nat} : q_L (ll s a f) c j = q_L s c j := rfl
theorem kk_T {a : Int} {f : Nat} : (kk s a f).1 = s.1 ∧ (kk s a f).2.1 = s.2.1 ∧ (kk s a f).2.2.1 = s.2.2.1 := ⟨rfl, rfl, rfl⟩
theorem kk_H {a : Int} {f : Nat} (h : SH s) : SH (kk s a f) := fun a t x => h a t x
theorem ll_H {a : Int} {f : Nat} (h : SH s) : SH (ll s a f) := fun a t x => h a t x
theorem cE1_F {h : Nat} : q_F (cE1 s k) 38 h = q_F s 38 h := by unfold cE1; simp only [kk_F]
theorem cE1_L {c : Nat} {j : Int} : q_L (cE1 s k) c j = q_L s c j := by unfold cE1; simp only [kk_L]
theorem cE0_L {c : Nat} {j : Int} : q_L (cE0 s k) c j = q_L s c j := by unfold cE0; simp only [ll_L]
theorem sf_T {a f : Nat} {v : Int} : (q_sf s a f v).1 = s.1 ∧ (q_sf s a f v).2.1 = s.2.1 ∧ (q_sf s a f v).2.2.1 = s.2.2.1 := ⟨rfl, rfl, rfl⟩
theorem ll_T {a : Int} {f : Nat} : (ll s a f).1 = s.1 ∧ (ll s a f).2.1 = s.2.1 ∧ (ll s a f).2.2.1 = s.2.2.1 := ⟨rfl, rfl, rfl⟩
theorem cE1_T : (cE1 s k).1 = s.1 ∧ (cE1 s k).2.1 = s.2.1 ∧ (cE1 s k).2.2.1 = s.2.2.1 := by unfold cE1; simp only [kk_T, true_and, and_self]
theorem cE0_T : (cE0 s k).1 = s.1 ∧ (cE0 s k).2.1 = s.2.1 ∧ (cE0 s k).2.2.1 = s.2.2.1 := by unfold cE0; simp only [ll_T, true_and, and_self]
theorem cE0_I {c : Nat} {j : Int} (h : c ≠ 38) : q_I (cE0 s k) c j = q_I s c j := by unfold cE0; simp only [ll_I h]
theorem cE0_F {h : Nat} (hn : h ≠ 17 ∧ h ≠ 18 ∧ h ≠ 19 ∧ h ≠ 20 ∧ h ≠ 21 ∧ h ≠ 22 ∧ h ≠ 23 ∧ h ≠ 24 ∧ h ≠ 25 ∧ h ≠ 45) : q_F (cE0 s k) 38 h = q_F s 38 h := by
  obtain ⟨a1, a2, a3, a4, a5, a6, a7, a8, a9, a10⟩ := hn
  unfold cE0
  simp only [ll_F, a1, a2, a3, a4, a5, a6, a7, a8, a9, a10, if_false]
theorem cE1_I {c : Nat} {j : Int} (h : c ≠ 71 ∨ j < 16 * k ∨ 16 * k + 16 ≤ j) : q_I (cE1 s k) c j = q_I s c j := by
  unfold cE1
  simp only [kk_I]
  repeat rw [if_neg (by omega)]
theorem cE1_S : SF (cE1 s k) k s := by
  unfold SF cE1
  refine ⟨?_, ?_, ?_, ?_, ?_, ?_, ?_, ?_, ?_, ?_⟩ <;> (simp only [kk_I, kk_F, true_and, and_true, if_true]; try (repeat (first | rfl | rw [if_pos (by omega)] | rw [if_neg (by omega)])))
theorem cE0_S : SF s k (cE0 s k) := by
  unfold SF cE0
  simp only [ll_F, ll_I (show (71 : Nat) ≠ 38 by decide)]
  refine ⟨?_, ?_, ?_, ?_, ?_, ?_, ?_, ?_, ?_, ?_⟩ <;> simp
theorem car_e1 (hs : SH s) (k0 : 0 ≤ k ∧ k < 8) {Q : Q_S × Unit → Prop} (h17 : q_in (q_F s 38 17)) (K : QW (fun n => g_144 o n 1 (cE1 s k) 38 k 1 0 0 0 (.ref 38) (if q_F s 38 17 = 2 then 1 else 0) 0 0) Q) : QW (fun n => g_144 o n 0 s 38 k 1 0 0 0 .null 0 0 0) Q := by
  refine QW_s ?_
  simp only [g_144]
  refine kp1 hs (by decide) (by omega) (by omega) ?_
  refine kp1 (kk_H hs) (by decide) (by omega) (by omega) ?_
  refine kp1 (kk_H (kk_H hs)) (by decide) (by omega) (by omega) ?_
  refine kp1 (kk_H (kk_H (kk_H hs))) (by decide) (by omega) (by omega) ?_
  refine kp1 (kk_H (kk_H (kk_H (kk_H hs)))) (by decide) (by omega) (by omega) ?_
  refine kp1 (kk_H (kk_H (kk_H (kk_H (kk_H hs))))) (by decide) (by omega) (by omega) ?_
  refine kp1 (kk_H (kk_H (kk_H (kk_H (kk_H (kk_H hs)))))) (by decide) (by omega) (by omega) ?_
  refine kp1 (kk_H (kk_H (kk_H (kk_H (kk_H (kk_H (kk_H hs))))))) (by decide) (by omega) (by omega) ?_
  refine kp1 (kk_H (kk_H (kk_H (kk_H (kk_H (kk_H (kk_H (kk_H hs)))))))) (by decide) (by omega) (by omega) ?_
  refine kp1 (kk_H (kk_H (kk_H (kk_H (kk_H (kk_H (kk_H (kk_H (kk_H hs))))))))) (by decide) (by omega) (by omega) ?_
  have hs1 : SH (cE1 s k) := sh_T hs cE1_T.2.2
  show QW (fun n => (q_gi (cE1 s k) 7 (.ref 38) 17).bind fun v121 => (q_g (q_in v121)).bind fun _ => if ¬ v121 = 2 then g_144 o n 1 (cE1 s k) 38 k 1 0 0 0 (.ref 38) 0 0 0 else g_144 o n 1 (cE1 s k) 38 k 1 0 0 0 (.ref 38) 1 0 0) Q
  refine QW_p (k_gi (hs1 _ _ rfl) rfl) ?_
  rw [cE1_F]
  refine QW_g h17 ?_
  refine QW_by (fun z => ?_) (fun z => ?_)
  · rw [if_neg z] at K
    exact K
  · rw [if_pos (Decidable.not_not.mp z)] at K
    exact K
theorem car_e0 (hs : SH s) (k0 : 0 ≤ k ∧ k < 8) {Q : Q_S × Unit → Prop} (h17 : q_in (q_I s 71 (16 * k))) (K : QW (fun n => g_144 o n 1 (cE0 s k) 38 k 0 0 0 0 (.ref 38) (if q_I s 71 (16 * k) = 2 then 1 else 0) 0 0) Q) : QW (fun n => g_144 o n 0 s 38 k 0 0 0 0 .null 0 0 0) Q := by
  refine QW_s ?_
  simp only [g_144]
  refine kp0 hs (by decide) (by omega) (by omega) ?_
  refine kp0 (ll_H hs) (by decide) (by omega) (by omega) ?_
  refine kp0 (ll_H (ll_H hs)) (by decide) (by omega) (by omega) ?_
  refine kp0 (ll_H (ll_H (ll_H hs))) (by decide) (by omega) (by omega) ?_
  refine kp0 (ll_H (ll_H (ll_H (ll_H hs)))) (by decide) (by omega) (by omega) ?_
  refine kp0 (ll_H (ll_H (ll_H (ll_H (ll_H hs))))) (by decide) (by omega) (by omega) ?_
  refine kp0 (ll_H (ll_H (ll_H (ll_H (ll_H (ll_H hs)))))) (by decide) (by omega) (by omega) ?_
  refine kp0 (ll_H (ll_H (ll_H (ll_H (ll_H (ll_H (ll_H hs))))))) (by decide) (by omega) (by omega) ?_
  refine kp0 (ll_H (ll_H (ll_H (ll_H (ll_H (ll_H (ll_H (ll_H hs)))))))) (by decide) (by omega) (by omega) ?_
  refine kp0 (ll_H (ll_H (ll_H (ll_H (ll_H (ll_H (ll_H (ll_H (ll_H hs))))))))) (by decide) (by omega) (by omega) ?_
  have hs1 : SH (cE0 s k) := sh_T hs cE0_T.2.2
  show QW (fun n => (q_gi (cE0 s k) 7 (.ref 38) 17).bind fun v121 => (q_g (q_in v121)).bind fun _ => if ¬ v121 = 2 then g_144 o n 1 (cE0 s k) 38 k 0 0 0 0 (.ref 38) 0 0 0 else g_144 o n 1 (cE0 s k) 38 k 0 0 0 0 (.ref 38) 1 0 0) Q
  refine QW_p (k_gi (hs1 _ _ rfl) rfl) ?_
  rw [← cE0_S.1]
  refine QW_g h17 ?_
  refine QW_by (fun z => ?_) (fun z => ?_)
  · rw [if_neg z] at K
    exact K
  · rw [if_pos (Decidable.not_not.mp z)] at K
    exact K
theorem if01 {p : Prop} [Decidable p] : (if p then (1 : Int) else 0) = 0 ∨ (if p then (1 : Int) else 0) = 1 := by
  by_cases h : p
  · exact Or.inr (if_pos h)
  · exact Or.inl (if_neg h)
/-- put back: behind the numbers -/
theorem m_144_b0 {s1 : Q_S} (hs1 : SH s1) (k0 : 0 ≤ k ∧ k < 8) (hb : ∀ x, 0 ≤ x → x < 6144 → q_I s1 75 (6144 * k + x) = 0 ∨ q_I s1 75 (6144 * k + x) = 1) (hc : ∀ x, 0 ≤ x → x < 104 → q_I s1 78 (104 * k + x) = 0 ∨ q_I s1 78 (104 * k + x) = 1) :
    QW (fun n => (g_146 o n 0 s1 38 k 0 0 0 0 .null 0 0 0).bind fun q6 => g_144 o n 2 q6.1 38 k 0 0 0 0 .null 0 0 0) (fun q => (q.1.1 = s1.1 ∧ q.1.2.1 = s1.2.1 ∧ q.1.2.2.1 = s1.2.2.1) ∧ (∀ c, c < 52 ∨ 70 ≤ c → ∀ j, q_I q.1 c j = q_I s1 c j ∧ q_L q.1 c j = q_L s1 c j) ∧ SN s1 k q.1 ∧ SA s1 k q.1 ∧ SB s1 k q.1) := by
  refine QW_c (m_146_0 hs1 k0) (fun q hq => ?_)
  obtain ⟨s2, u⟩ := q
  dsimp only at hq ⊢
  obtain ⟨a1, a2, a3, a4, a5, a6⟩ := hq
  have hs2 : SH s2 := sh_T hs1 a1.2.2
  refine lpA0 hs2 k0 (fun x x0 x1 => ?_) (fun s3 h3 => ?_) 6144 0 s2 (by omega) (by omega) ⟨⟨rfl, rfl, rfl⟩, fun _ _ _ _ _ _ _ _ => rfl, fun _ _ _ => rfl, fun x x0 x1 => by omega⟩
  · rw [a2 75 _ (by decide)]
    exact hb x x0 x1
  obtain ⟨b1, b2, b3, b4⟩ := h3
  have hs3 : SH s3 := sh_T hs2 b1.2.2
  refine QW_m (lpB0 hs3 k0 (fun x x0 x1 => ?_) 104 0 s3 (by omega) (by omega) ⟨⟨rfl, rfl, rfl⟩, fun _ _ _ _ _ _ _ => rfl, fun _ _ _ _ _ => rfl, fun x x0 x1 => by omega⟩) (fun q hq => ?_)
  · rw [b2 78 _ (by decide) (by decide) (by decide) (by decide) (by decide) (by decide), a2 78 _ (by decide)]
    exact hc x x0 x1
  obtain ⟨c1, c2, c3, c4⟩ := hq
  refine ⟨⟨c1.1.trans (b1.1.trans a1.1), c1.2.1.trans (b1.2.1.trans a1.2.1), c1.2.2.trans (b1.2.2.trans a1.2.2)⟩, fun c hc j => ⟨?_, ?_⟩, ⟨fun x x0 x1 => ?_, fun x x0 x1 => ?_, fun x x0 x1 => ?_⟩, fun x x0 x1 => ?_, fun x x0 x1 => ?_⟩
  · rw [c2 c j (by omega) (by omega) (by omega) (by omega) (by omega), b2 c j (by omega) (by omega) (by omega) (by omega) (by omega) (by omega), a2 c j (by omega)]
  · rw [c3 c j (by omega) (by omega) (by omega), b3 c j (by omega), a3 c j (by omega) (by omega)]
  · rw [c3 52 x (by decide) (by decide) (by decide), b3 52 x (by decide), a4 x x0 x1 (by omega)]
  · rw [c3 53 x (by decide) (by decide) (by decide), b3 53 x (by decide), a5 x x0 (by omega)]
  · rw [c2 54 x (by decide) (by decide) (by decide) (by decide) (by decide), b2 54 x (by decide) (by decide) (by decide) (by decide) (by decide) (by decide), a6 x x0 x1]
  · obtain ⟨y1, y2, y3, y4, y5, y6, y7⟩ := b4 x x0 x1
    have z : ∀ c, c = 75 ∨ c = 73 → ∀ j, q_I s2 c j = q_I s1 c j := fun c hc j => a2 c j (by omega)
    have g : ∀ c, 55 ≤ c ∧ c ≤ 61 → q_I q.1 c x = q_I s3 c x := fun c hc => c2 c x (by omega) (by omega) (by omega) (by omega) (by omega)
    refine ⟨?_, ?_, ?_, ?_, ?_, ?_, ?_⟩
    · rw [g 61 (by decide), y1, z 75 (Or.inl rfl)]
    · rw [c3 58 x (by decide) (by decide) (by decide), y2, a3 74 _ (by decide) (by decide)]
    · rw [g 55 (by decide), y3, z 73 (Or.inr rfl)]
    · rw [g 56 (by decide), y4, z 73 (Or.inr rfl)]
    · rw [g 57 (by decide), y5, z 73 (Or.inr rfl)]
    · rw [g 59 (by decide), y6, z 73 (Or.inr rfl)]
    · rw [g 60 (by decide), y7, z 73 (Or.inr rfl)]
  · obtain ⟨y1, y2, y3, y4, y5, y6, y7, y8⟩ := c4 x x0 x1
    have z : ∀ c, c = 78 ∨ c = 76 → ∀ j, q_I s3 c j = q_I s1 c j := fun c hc j => by
      rw [b2 c j (by omega) (by omega) (by omega) (by omega) (by omega) (by omega), a2 c j (by omega)]
    have zl : ∀ j, q_L s3 77 j = q_L s1 77 j := fun j => by
      rw [b3 77 j (by decide), a3 77 j (by decide) (by decide)]
    refine ⟨?_, ?_, ?_, ?_, ?_, ?_, ?_, ?_⟩
    · rw [y1, z 78 (Or.inl rfl)]
    · rw [y2, z 76 (Or.inr rfl)]
    · rw [y3, z 76 (Or.inr rfl)]
    · rw [y4, z 76 (Or.inr rfl)]
    · rw [y5, z 76 (Or.inr rfl)]
    · rw [y6, zl]
    · rw [y7, zl]
    · rw [y8, zl]
/-- put back -/
theorem m_144_0 (hs : SH s) (k0 : 0 ≤ k ∧ k < 8) (h17 : q_in (q_I s 71 (16 * k))) (hb : ∀ x, 0 ≤ x → x < 6144 → q_I s 75 (6144 * k + x) = 0 ∨ q_I s 75 (6144 * k + x) = 1) (hc : ∀ x, 0 ≤ x → x < 104 → q_I s 78 (104 * k + x) = 0 ∨ q_I s 78 (104 * k + x) = 1) :
    QW (fun n => g_144 o n 0 s 38 k 0 0 0 0 .null 0 0 0) (fun q => (q.1.1 = s.1 ∧ q.1.2.1 = s.2.1 ∧ q.1.2.2.1 = s.2.2.1) ∧ (∀ c, c < 38 ∨ (39 ≤ c ∧ c ≤ 51) ∨ 70 ≤ c → ∀ j, q_I q.1 c j = q_I s c j ∧ q_L q.1 c j = q_L s c j) ∧
      (∀ f : Nat, (f ≠ 17 ∧ f ≠ 18 ∧ f ≠ 19 ∧ f ≠ 20 ∧ f ≠ 21 ∧ f ≠ 22 ∧ f ≠ 23 ∧ f ≠ 24 ∧ f ≠ 25 ∧ f ≠ 45) → f ≠ 47 → q_F q.1 38 f = q_F s 38 f) ∧ q_F q.1 38 47 = (if q_I s 71 (16 * k) = 2 then 1 else 0) ∧ SLo s k q.1) := by
  refine car_e0 hs k0 h17 ?_
  obtain ⟨s0, hs0⟩ : ∃ s0, s0 = cE0 s k := ⟨_, rfl⟩
  rw [← hs0]
  have t0 : s0.1 = s.1 ∧ s0.2.1 = s.2.1 ∧ s0.2.2.1 = s.2.2.1 := by rw [hs0]; exact cE0_T
  have hs1 : SH s0 := sh_T hs t0.2.2
  refine QW_s ?_
  simp only [g_144]
  refine QW_p (k_pz (hs1 _ _ rfl) rfl rfl if01) ?_
  refine QW_p (k_rc (hs1 _ _ rfl)) ?_
  have e2 : ∀ c, c ≠ 38 → ∀ j, q_I (q_sf s0 38 47 (if q_I s 71 (16 * k) = 2 then 1 else 0)) c j = q_I s c j := fun c hc j => by
    rw [q_I_sf, if_neg (fun z => hc z.1), hs0, cE0_I hc]
  have e3 : ∀ c j, q_L (q_sf s0 38 47 (if q_I s 71 (16 * k) = 2 then 1 else 0)) c j = q_L s c j := fun c j => by rw [q_L_sf, hs0, cE0_L]
  refine QW_m (m_144_b0 (s1 := q_sf s0 38 47 (if q_I s 71 (16 * k) = 2 then 1 else 0)) (fun a t x => hs1 a t x) k0 (fun x x0 x1 => by rw [e2 75 (by decide)]; exact hb x x0 x1) (fun x x0 x1 => by rw [e2 78 (by decide)]; exact hc x x0 x1)) (fun q hq => ?_)
  obtain ⟨a1, a2, ⟨n1, n2, n3⟩, a4, a5⟩ := hq
  have FF : ∀ f : Nat, q_F q.1 38 f = q_F (q_sf s0 38 47 (if q_I s 71 (16 * k) = 2 then 1 else 0)) 38 f := fun f => (a2 38 (by decide) f).1
  refine ⟨⟨a1.1.trans t0.1, a1.2.1.trans t0.2.1, a1.2.2.trans t0.2.2⟩, fun c hc j => ⟨?_, ?_⟩, fun f f1 f2 => ?_, ?_, ?_, ⟨fun x x0 x1 => ?_, fun x x0 x1 => ?_, fun x x0 x1 => ?_⟩, fun x x0 x1 => ?_, fun x x0 x1 => ?_⟩
  · rw [(a2 c (by omega) j).1, e2 c (by omega)]
  · rw [(a2 c (by omega) j).2, e3]
  · rw [FF, q_F_sf, if_neg (fun z => f2 z.2), hs0, cE0_F f1]
  · rw [FF, q_F_sf, if_pos ⟨rfl, rfl⟩]
  · have z : ∀ f : Nat, f ≠ 47 → q_F q.1 38 f = q_F (cE0 s k) 38 f := fun f f2 => by rw [FF, q_F_sf, if_neg (fun z => f2 z.2), hs0]
    obtain ⟨y1, y2, y3, y4, y5, y6, y7, y8, y9, y10⟩ : SF s k (cE0 s k) := cE0_S
    exact ⟨y1.trans (z 17 (by decide)).symm, y2.trans (z 18 (by decide)).symm, y3.trans (z 19 (by decide)).symm, y4.trans (z 20 (by decide)).symm, y5.trans (z 21 (by decide)).symm, y6.trans (z 22 (by decide)).symm, y7.trans (z 23 (by decide)).symm, y8.trans (z 24 (by decide)).symm, y9.trans (z 25 (by decide)).symm, y10.trans (z 45 (by decide)).symm⟩
  · rw [← n1 x x0 x1, e3]
  · rw [← n2 x x0 x1, e3]
  · rw [← n3 x x0 x1, e2 79 (by decide)]
  · have y := a4 x x0 x1
    rw [e2 75 (by decide), e2 73 (by decide), e2 73 (by decide), e2 73 (by decide), e2 73 (by decide), e2 73 (by decide), e3] at y
    exact y
  · have y := a5 x x0 x1
    rw [e2 78 (by decide), e2 76 (by decide), e2 76 (by decide), e2 76 (by decide), e2 76 (by decide), e3, e3, e3] at y
    exact y
/-- saved: behind the numbers -/
theorem m_144_b1 {s1 : Q_S} (hs1 : SH s1) (k0 : 0 ≤ k ∧ k < 8) (hb : BLi s1) :
    QW (fun n => (g_146 o n 0 s1 38 k 1 0 0 0 .null 0 0 0).bind fun q6 => g_144 o n 2 q6.1 38 k 1 0 0 0 .null 0 0 0) (fun q => (q.1.1 = s1.1 ∧ q.1.2.1 = s1.2.1 ∧ q.1.2.2.1 = s1.2.2.1) ∧ (∀ c, c < 73 ∨ 80 ≤ c → ∀ j, q_I q.1 c j = q_I s1 c j) ∧ (∀ c, c < 71 ∨ 80 ≤ c → ∀ j, q_L q.1 c j = q_L s1 c j) ∧
      SN q.1 k s1 ∧ SA q.1 k s1 ∧ SB q.1 k s1 ∧ (∀ k' r, 0 ≤ k' → k' < 8 → k' ≠ k → (SN s1 k' r → SN q.1 k' r) ∧ (SA s1 k' r → SA q.1 k' r) ∧ (SB s1 k' r → SB q.1 k' r))) := by
  refine QW_c (m_146_1 hs1 k0) (fun q hq => ?_)
  obtain ⟨s2, u⟩ := q
  dsimp only at hq ⊢
  obtain ⟨a1, a2, a3, a4, a5, a6, a7, a8⟩ := hq
  have hs2 : SH s2 := sh_T hs1 a1.2.2
  refine lpA1 hs2 k0 (fun x x0 x1 => ?_) (fun s3 h3 => ?_) 6144 0 s2 (by omega) (by omega) ⟨⟨rfl, rfl, rfl⟩, fun _ _ _ _ => rfl, fun _ _ _ => rfl, fun _ _ => ⟨rfl, rfl⟩, fun _ _ => rfl, fun x x0 x1 => by omega⟩
  · rw [a2 61 _ (by decide)]
    exact hb.1 x x0 x1
  obtain ⟨b1, b2, b3, b4, b5, b6⟩ := h3
  have hs3 : SH s3 := sh_T hs2 b1.2.2
  refine QW_m (lpB1 hs3 k0 (fun x x0 x1 => ?_) 104 0 s3 (by omega) (by omega) ⟨⟨rfl, rfl, rfl⟩, fun _ _ _ _ => rfl, fun _ _ _ => rfl, fun _ _ => rfl, fun _ _ => rfl, fun _ _ => rfl, fun x x0 x1 => by omega⟩) (fun q hq => ?_)
  · rw [b2 69 _ (by decide) (by decide), a2 69 _ (by decide)]
    exact hb.2 x x0 x1
  obtain ⟨c1, c2, c3, c4, c5, c6, c7⟩ := hq
  have S2 : ∀ c, c < 71 → ∀ j, q_I s2 c j = q_I s1 c j := fun c hc j => a2 c j (by omega)
  have S3 : ∀ c, c < 71 → ∀ j, q_I s3 c j = q_I s1 c j := fun c hc j => (b2 c j (by omega) (by omega)).trans (S2 c hc j)
  have L2 : ∀ c, c < 71 → ∀ j, q_L s2 c j = q_L s1 c j := fun c hc j => a3 c j (by omega)
  have L3 : ∀ c, c < 71 → ∀ j, q_L s3 c j = q_L s1 c j := fun c hc j => (b3 c j (by omega)).trans (L2 c hc j)
  have g72 : ∀ j, q_L q.1 72 j = q_L s2 72 j := fun j => by rw [c3 72 _ (by decide), b3 72 _ (by decide)]
  have g79 : ∀ j, q_I q.1 79 j = q_I s2 79 j := fun j => by rw [c2 79 _ (by decide) (by decide), b2 79 _ (by decide) (by decide)]
  have g75 : ∀ j, q_I q.1 75 j = q_I s3 75 j := fun j => c2 75 j (by decide) (by decide)
  have g73 : ∀ j, q_I q.1 73 j = q_I s3 73 j := fun j => c2 73 j (by decide) (by decide)
  have g74 : ∀ j, q_L q.1 74 j = q_L s3 74 j := fun j => c3 74 j (by decide)
  refine ⟨⟨c1.1.trans (b1.1.trans a1.1), c1.2.1.trans (b1.2.1.trans a1.2.1), c1.2.2.trans (b1.2.2.trans a1.2.2)⟩, fun c hc j => ?_, fun c hc j => ?_, ⟨fun x x0 x1 => ?_, fun x x0 x1 => ?_, fun x x0 x1 => ?_⟩, fun x x0 x1 => ?_, fun x x0 x1 => ?_, fun k' r q0 q1 q2 => ⟨fun hr => ⟨fun x x0 x1 => ?_, fun x x0 x1 => ?_, fun x x0 x1 => ?_⟩, fun hr x x0 x1 => ?_, fun hr x x0 x1 => ?_⟩⟩
  · rw [c2 c j (by omega) (by omega), b2 c j (by omega) (by omega), a2 c j (by omega)]
  · rw [c3 c j (by omega), b3 c j (by omega), a3 c j (by omega)]
  · rw [g72, a6 x x0 x1 (by omega)]
  · rw [g72, a7 x x0 (by omega)]
  · rw [g79, a8 x x0 x1]
  · obtain ⟨y1, y2, y3, y4, y5, y6, y7⟩ := b6 x x0 x1
    exact ⟨(g75 _).trans (y1.trans (S2 61 (by decide) x)), (g74 _).trans (y2.trans (L2 58 (by decide) x)), (g73 _).trans (y3.trans (S2 55 (by decide) x)), (g73 _).trans (y4.trans (S2 56 (by decide) x)), (g73 _).trans (y5.trans (S2 57 (by decide) x)), (g73 _).trans (y6.trans (S2 59 (by decide) x)), (g73 _).trans (y7.trans (S2 60 (by decide) x))⟩
  · obtain ⟨y1, y2, y3, y4, y5, y6, y7, y8⟩ := c7 x x0 x1
    exact ⟨y1.trans (S3 69 (by decide) x), y2.trans (S3 62 (by decide) x), y3.trans (S3 63 (by decide) x), y4.trans (S3 64 (by decide) x), y5.trans (S3 65 (by decide) x), y6.trans (L3 66 (by decide) x), y7.trans (L3 67 (by decide) x), y8.trans (L3 68 (by decide) x)⟩
  · rw [g72, a4 _ (by omega)]
    exact hr.1 x x0 x1
  · rw [g72, a4 _ (by omega)]
    exact hr.2.1 x x0 x1
  · rw [g79, a5 _ (by omega)]
    exact hr.2.2 x x0 x1
  · obtain ⟨y1, y2, y3, y4, y5, y6, y7⟩ := hr x x0 x1
    have h75 : q_I q.1 75 (6144 * k' + x) = q_I s1 75 (6144 * k' + x) := by
      rw [g75, (b4 _ (by omega)).1, a2 75 _ (by decide)]
    have h74 : q_L q.1 74 (6144 * k' + x) = q_L s1 74 (6144 * k' + x) := by
      rw [g74, (b4 _ (by omega)).2, a3 74 _ (by decide)]
    have h73 : ∀ j, 0 ≤ j → j < 5 → q_I q.1 73 (5 * (6144 * k' + x) + j) = q_I s1 73 (5 * (6144 * k' + x) + j) := fun j j0 j1 => by
      rw [g73, b5 _ (by omega), a2 73 _ (by decide)]
    have z := h73 0 (by decide) (by decide)
    rw [Int.add_zero] at z
    exact ⟨h75.trans y1, h74.trans y2, z.trans y3, (h73 1 (by decide) (by decide)).trans y4, (h73 2 (by decide) (by decide)).trans y5, (h73 3 (by decide) (by decide)).trans y6, (h73 4 (by decide) (by decide)).trans y7⟩
  · obtain ⟨y1, y2, y3, y4, y5, y6, y7, y8⟩ := hr x x0 x1
    have h78 : q_I q.1 78 (104 * k' + x) = q_I s1 78 (104 * k' + x) := by
      rw [c4 _ (by omega), b2 78 _ (by decide) (by decide), a2 78 _ (by decide)]
    have h76 : ∀ j, 0 ≤ j → j < 4 → q_I q.1 76 (4 * (104 * k' + x) + j) = q_I s1 76 (4 * (104 * k' + x) + j) := fun j j0 j1 => by
      rw [c5 _ (by omega), b2 76 _ (by decide) (by decide), a2 76 _ (by decide)]
    have h77 : ∀ j, 0 ≤ j → j < 3 → q_L q.1 77 (3 * (104 * k' + x) + j) = q_L s1 77 (3 * (104 * k' + x) + j) := fun j j0 j1 => by
      rw [c6 _ (by omega), b3 77 _ (by decide), a3 77 _ (by decide)]
    have z := h76 0 (by decide) (by decide)
    rw [Int.add_zero] at z
    have z' := h77 0 (by decide) (by decide)
    rw [Int.add_zero] at z'
    exact ⟨h78.trans y1, z.trans y2, (h76 1 (by decide) (by decide)).trans y3, (h76 2 (by decide) (by decide)).trans y4, (h76 3 (by decide) (by decide)).trans y5, z'.trans y6, (h77 1 (by decide) (by decide)).trans y7, (h77 2 (by decide) (by decide)).trans y8⟩
/-- saved -/
theorem m_144_1 (hs : SH s) (k0 : 0 ≤ k ∧ k < 8) (h17 : q_in (q_F s 38 17)) (hb : BLi s) :
    QW (fun n => g_144 o n 0 s 38 k 1 0 0 0 .null 0 0 0) (fun q => (q.1.1 = s.1 ∧ q.1.2.1 = s.2.1 ∧ q.1.2.2.1 = s.2.2.1) ∧ (∀ c, c < 71 ∨ 80 ≤ c → c ≠ 38 → ∀ j, q_I q.1 c j = q_I s c j) ∧ (∀ c, c < 71 ∨ 80 ≤ c → ∀ j, q_L q.1 c j = q_L s c j) ∧
      (∀ f : Nat, f ≠ 47 → q_F q.1 38 f = q_F s 38 f) ∧ q_F q.1 38 47 = (if q_F s 38 17 = 2 then 1 else 0) ∧ SLo q.1 k s ∧ (∀ k' r, 0 ≤ k' → k' < 8 → k' ≠ k → SLo s k' r → SLo q.1 k' r)) := by
  refine car_e1 hs k0 h17 ?_
  obtain ⟨s0, hs0⟩ : ∃ s0, s0 = cE1 s k := ⟨_, rfl⟩
  rw [← hs0]
  have t0 : s0.1 = s.1 ∧ s0.2.1 = s.2.1 ∧ s0.2.2.1 = s.2.2.1 := by rw [hs0]; exact cE1_T
  have hs1 : SH s0 := sh_T hs t0.2.2
  refine QW_s ?_
  simp only [g_144]
  refine QW_p (k_pz (hs1 _ _ rfl) rfl rfl if01) ?_
  refine QW_p (k_rc (hs1 _ _ rfl)) ?_
  have e2 : ∀ c, c ≠ 38 → ∀ j, (c ≠ 71 ∨ j < 16 * k ∨ 16 * k + 16 ≤ j) → q_I (q_sf s0 38 47 (if q_F s 38 17 = 2 then 1 else 0)) c j = q_I s c j := fun c hc j hj => by
    rw [q_I_sf, if_neg (fun z => hc z.1), hs0, cE1_I hj]
  have e3 : ∀ c j, q_L (q_sf s0 38 47 (if q_F s 38 17 = 2 then 1 else 0)) c j = q_L s c j := fun c j => by rw [q_L_sf, hs0, cE1_L]
  have e6 : ∀ c, c ≠ 38 → c ≠ 71 → ∀ j, q_I (q_sf s0 38 47 (if q_F s 38 17 = 2 then 1 else 0)) c j = q_I s c j := fun c h1 h2 j => e2 c h1 j (Or.inl h2)
  have e7 : SF (q_sf s0 38 47 (if q_F s 38 17 = 2 then 1 else 0)) k s := by
    have z : ∀ j, q_I (q_sf s0 38 47 (if q_F s 38 17 = 2 then 1 else 0)) 71 j = q_I (cE1 s k) 71 j := fun j => by rw [q_I_sf, if_neg (fun z => absurd z.1 (by decide)), hs0]
    obtain ⟨y1, y2, y3, y4, y5, y6, y7, y8, y9, y10⟩ : SF (cE1 s k) k s := cE1_S
    exact ⟨(z _).trans y1, (z _).trans y2, (z _).trans y3, (z _).trans y4, (z _).trans y5, (z _).trans y6, (z _).trans y7, (z _).trans y8, (z _).trans y9, (z _).trans y10⟩
  have e8 : ∀ f : Nat, f ≠ 47 → q_F (q_sf s0 38 47 (if q_F s 38 17 = 2 then 1 else 0)) 38 f = q_F s 38 f := fun f f2 => by
    rw [q_F_sf, if_neg (fun z => f2 z.2), hs0, cE1_F]
  have e9 : q_F (q_sf s0 38 47 (if q_F s 38 17 = 2 then 1 else 0)) 38 47 = (if q_F s 38 17 = 2 then 1 else 0) := by
    rw [q_F_sf, if_pos ⟨rfl, rfl⟩]
  have e5 : (q_sf s0 38 47 (if q_F s 38 17 = 2 then 1 else 0)).1 = s.1 ∧ (q_sf s0 38 47 (if q_F s 38 17 = 2 then 1 else 0)).2.1 = s.2.1 ∧ (q_sf s0 38 47 (if q_F s 38 17 = 2 then 1 else 0)).2.2.1 = s.2.2.1 := t0
  refine QW_m (m_144_b1 (s1 := q_sf s0 38 47 (if q_F s 38 17 = 2 then 1 else 0)) (fun a t x => hs1 a t x) k0 ⟨fun x x0 x1 => by rw [e6 61 (by decide) (by decide)]; exact hb.1 x x0 x1, fun x x0 x1 => by rw [e6 69 (by decide) (by decide)]; exact hb.2 x x0 x1⟩) (fun q hq => ?_)
  generalize q_sf s0 38 47 (if q_F s 38 17 = 2 then 1 else 0) = s1 at hq e2 e3 e5 e6 e7 e8 e9
  obtain ⟨a1, a2, aL, a3, a4, a5, a6⟩ := hq
  refine ⟨?_, fun c hc h38 j => ?_, fun c hc j => ?_, fun f f2 => (a2 38 (by decide) f).trans (e8 f f2), (a2 38 (by decide) 47).trans e9, ⟨?_, ⟨fun x x0 x1 => ?_, fun x x0 x1 => ?_, fun x x0 x1 => ?_⟩, fun x x0 x1 => ?_, fun x x0 x1 => ?_⟩, fun k' r q0 q1 q2 hr => ?_⟩
  · exact ⟨a1.1.trans e5.1, a1.2.1.trans e5.2.1, a1.2.2.trans e5.2.2⟩
  · rw [a2 c (by omega), e6 c h38 (by omega)]
  · rw [aL c hc, e3]
  · obtain ⟨y1, y2, y3, y4, y5, y6, y7, y8, y9, y10⟩ := e7
    have z : ∀ j, q_I q.1 71 j = q_I s1 71 j := a2 71 (by decide)
    exact ⟨(z _).trans y1, (z _).trans y2, (z _).trans y3, (z _).trans y4, (z _).trans y5, (z _).trans y6, (z _).trans y7, (z _).trans y8, (z _).trans y9, (z _).trans y10⟩
  · rw [a3.1 x x0 x1, e3]
  · rw [a3.2.1 x x0 x1, e3]
  · rw [a3.2.2 x x0 x1, e6 54 (by decide) (by decide)]
  · have y := a4 x x0 x1
    rw [e6 61 (by decide) (by decide), e6 55 (by decide) (by decide), e6 56 (by decide) (by decide), e6 57 (by decide) (by decide), e6 59 (by decide) (by decide), e6 60 (by decide) (by decide), e3] at y
    exact y
  · have y := a5 x x0 x1
    rw [e6 69 (by decide) (by decide), e6 62 (by decide) (by decide), e6 63 (by decide) (by decide), e6 64 (by decide) (by decide), e6 65 (by decide) (by decide), e3, e3, e3] at y
    exact y
  · obtain ⟨r1, r2, r3, r4⟩ := hr
    obtain ⟨p1, p2, p3⟩ := a6 k' r q0 q1 q2
    refine ⟨?_, p1 ?_, p2 ?_, p3 ?_⟩
    · obtain ⟨d1, d2, d3, d4, d5, d6, d7, d8, d9, d10⟩ := r1
      have g71 : ∀ j, 0 ≤ j → j < 16 → q_I q.1 71 (16 * k' + j) = q_I s 71 (16 * k' + j) := fun j j0 j1 => by
        rw [a2 71 (by decide), e2 71 (by decide) _ (Or.inr (by omega))]
      have z := g71 0 (by decide) (by decide)
      rw [Int.add_zero] at z
      exact ⟨z.trans d1, (g71 1 (by decide) (by decide)).trans d2, (g71 2 (by decide) (by decide)).trans d3, (g71 3 (by decide) (by decide)).trans d4, (g71 4 (by decide) (by decide)).trans d5, (g71 5 (by decide) (by decide)).trans d6, (g71 6 (by decide) (by decide)).trans d7, (g71 7 (by decide) (by decide)).trans d8, (g71 8 (by decide) (by decide)).trans d9, (g71 9 (by decide) (by decide)).trans d10⟩
    · refine ⟨fun x x0 x1 => ?_, fun x x0 x1 => ?_, fun x x0 x1 => ?_⟩
      · rw [e3]; exact r2.1 x x0 x1
      · rw [e3]; exact r2.2.1 x x0 x1
      · rw [e6 79 (by decide) (by decide)]; exact r2.2.2 x x0 x1
    · intro x x0 x1
      rw [e6 75 (by decide) (by decide), e6 73 (by decide) (by decide), e6 73 (by decide) (by decide), e6 73 (by decide) (by decide), e6 73 (by decide) (by decide), e6 73 (by decide) (by decide), e3]
      exact r3 x x0 x1
    · intro x x0 x1
      rw [e6 78 (by decide) (by decide), e6 76 (by decide) (by decide), e6 76 (by decide) (by decide), e6 76 (by decide) (by decide), e6 76 (by decide) (by decide), e3, e3, e3]
      exact r4 x x0 x1
end RCE
