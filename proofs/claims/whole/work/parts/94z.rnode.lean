/-! THE REFERENCE'S node -/
section RNE
variable {o : X_O} {T : PT} {s : Q_S} {w a b c : Int}
theorem m_95_2 {q : Q_S × Int} (hs : SH s) (hn : 0 ≤ q_F s 38 1 ∧ q_F s 38 1 ≤ 300) {ok : Int} (hk : q_in ok) (e : pS s ok w 0 a b (-1) = q) : QW (fun n => g_95 o n 2 s 0 w a b 0 (.ref 38) ok) (fun r => r = q) := by
  refine QW_s ?_
  simp only [g_95]
  refine QW_p (k_rc (hs _ _ rfl)) ?_
  refine QW_e (m_97 hs hn hk (by decide)) ?_
  exact QW_ret e
theorem m_95_4 {q : Q_S × Int} (hs : SH s) (hn : 0 ≤ q_F s 38 1 ∧ q_F s 38 1 ≤ 300) {ok : Int} (hk : q_in ok) (ha : q_in a) (e : pS s ok w a b (-1) (-1) = q) : QW (fun n => g_95 o n 4 s 0 w a b 0 (.ref 38) ok) (fun r => r = q) := by
  refine QW_s ?_
  simp only [g_95]
  refine QW_p (k_rc (hs _ _ rfl)) ?_
  refine QW_e (m_97 hs hn hk ha) ?_
  exact QW_ret e
theorem m_95_6 {q : Q_S × Int} (hs : SH s) (hn : 0 ≤ q_F s 38 1 ∧ q_F s 38 1 ≤ 300) {ok : Int} (hk : q_in ok) (ha : q_in a) (e : pS s ok w a b (-1) (-1) = q) : QW (fun n => g_95 o n 6 s 0 w a b 0 (.ref 38) ok) (fun r => r = q) := by
  refine QW_s ?_
  simp only [g_95]
  refine QW_p (k_rc (hs _ _ rfl)) ?_
  refine QW_e (m_97 hs hn hk ha) ?_
  exact QW_ret e
theorem m_95_8 {q : Q_S × Int} (hs : SH s) (hn : 0 ≤ q_F s 38 1 ∧ q_F s 38 1 ≤ 300) {ok : Int} (hk : q_in ok) (ha : q_in a) (e : pS s ok w a b c (-1) = q) : QW (fun n => g_95 o n 8 s 0 w a b c (.ref 38) ok) (fun r => r = q) := by
  refine QW_s ?_
  simp only [g_95]
  refine QW_p (k_rc (hs _ _ rfl)) ?_
  refine QW_e (m_97 hs hn hk ha) ?_
  exact QW_ret e
theorem m_95_10 {q : Q_S × Int} (hs : SH s) (hn : 0 ≤ q_F s 38 1 ∧ q_F s 38 1 ≤ 300) {ok : Int} (hk : q_in ok) (e : pS s ok w 0 a b (-1) = q) : QW (fun n => g_95 o n 10 s 0 w a b 0 (.ref 38) ok) (fun r => r = q) := by
  refine QW_s ?_
  simp only [g_95]
  refine QW_p (k_rc (hs _ _ rfl)) ?_
  refine QW_e (m_97 hs hn hk (by decide)) ?_
  exact QW_ret e
theorem m_95_13 {q : Q_S × Int} (hs : SH s) (hn : 0 ≤ q_F s 38 1 ∧ q_F s 38 1 ≤ 300) {ok : Int} (hk : q_in ok) (e : pS s ok w 0 a b c = q) : QW (fun n => g_95 o n 13 s 0 w a b c (.ref 38) ok) (fun r => r = q) := by
  refine QW_s ?_
  simp only [g_95]
  refine QW_p (k_rc (hs _ _ rfl)) ?_
  refine QW_e (m_97 hs hn hk (by decide)) ?_
  exact QW_ret e
theorem m_95_15 {q : Q_S × Int} (hs : SH s) (hn : 0 ≤ q_F s 38 1 ∧ q_F s 38 1 ≤ 300) {ok : Int} (hk : q_in ok) (e : pS s ok w 0 a b c = q) : QW (fun n => g_95 o n 15 s 0 w a b c (.ref 38) ok) (fun r => r = q) := by
  refine QW_s ?_
  simp only [g_95]
  refine QW_p (k_rc (hs _ _ rfl)) ?_
  refine QW_e (m_97 hs hn hk (by decide)) ?_
  exact QW_ret e
theorem m_95_17 {q : Q_S × Int} (hs : SH s) (hn : 0 ≤ q_F s 38 1 ∧ q_F s 38 1 ≤ 300) {ok : Int} (hk : q_in ok) (e : pS s ok w 0 a b (-1) = q) : QW (fun n => g_95 o n 17 s 0 w a b 0 (.ref 38) ok) (fun r => r = q) := by
  refine QW_s ?_
  simp only [g_95]
  refine QW_p (k_rc (hs _ _ rfl)) ?_
  refine QW_e (m_97 hs hn hk (by decide)) ?_
  exact QW_ret e
theorem m_95_19 {q : Q_S × Int} (hs : SH s) (hn : 0 ≤ q_F s 38 1 ∧ q_F s 38 1 ≤ 300) {ok : Int} (hk : q_in ok) (ha : q_in a) (e : pS s ok w a (-1) (-1) (-1) = q) : QW (fun n => g_95 o n 19 s 0 w a 0 0 (.ref 38) ok) (fun r => r = q) := by
  refine QW_s ?_
  simp only [g_95]
  refine QW_p (k_rc (hs _ _ rfl)) ?_
  refine QW_e (m_97 hs hn hk ha) ?_
  exact QW_ret e
theorem m_95_21 {q : Q_S × Int} (hs : SH s) (hn : 0 ≤ q_F s 38 1 ∧ q_F s 38 1 ≤ 300) {ok : Int} (hk : q_in ok) (ha : q_in a) (e : pS s ok w a b (-1) (-1) = q) : QW (fun n => g_95 o n 21 s 0 w a b 0 (.ref 38) ok) (fun r => r = q) := by
  refine QW_s ?_
  simp only [g_95]
  refine QW_p (k_rc (hs _ _ rfl)) ?_
  refine QW_e (m_97 hs hn hk ha) ?_
  exact QW_ret e
/-- the next block says no, or yes -/
theorem m_95_s {q : Q_S × Int} {B B' : Nat} {ok : Int} {i2 i3 i4 : Int} (e : ∀ n, g_95 o (n + 1) B s 0 w i2 i3 i4 (.ref 38) 0 = g_95 o n B' s 0 w i2 i3 i4 (.ref 38) ok) (h : QW (fun n => g_95 o n B' s 0 w i2 i3 i4 (.ref 38) ok) (fun r => r = q)) : QW (fun n => g_95 o n B s 0 w i2 i3 i4 (.ref 38) 0) (fun r => r = q) := by
  refine QW_s ?_
  have : (fun n => g_95 o (n + 1) B s 0 w i2 i3 i4 (.ref 38) 0) = fun n => g_95 o n B' s 0 w i2 i3 i4 (.ref 38) ok := funext e
  rw [this]
  exact h
def ndP (T : PT) (s : Q_S) (w a b c : Int) : Q_S × Int := match ndA T w a b c with
  | none => (s, -1)
  | some r => pS s 1 w r.1 r.2.1 r.2.2.1 r.2.2.2
theorem pS0 {v : Int} : pS s 0 w v a b c = (s, -1) := if_pos rfl
theorem ndP_n (h : ndA T w a b c = none) : ndP T s w a b c = (s, -1) := by unfold ndP; rw [h]
theorem ndP_s {r : Int × Int × Int × Int} (h : ndA T w a b c = some r) : ndP T s w a b c = pS s 1 w r.1 r.2.1 r.2.2.1 r.2.2.2 := by unfold ndP; rw [h]
end RNE
section RNF
variable {o : X_O} {T : PT} {s : Q_S} {w a b c : Int}
theorem tt (x : Int) {p : Bool} (h : ¬ (if p = true then (1 : Int) else 0) = 0) : p = true := by
  cases p with
  | true => rfl
  | false => exact absurd rfl h
theorem ff (x : Int) {p : Bool} (h : (if p = true then (1 : Int) else 0) = 0) : p = false := by
  cases p with
  | false => rfl
  | true => exact absurd h (by decide)
/-- two expressions -/
theorem nd_05 (hs : SH s) (hN : NRr T s) (ha : q_in a) (hb : q_in b) (hw : 0 ≤ w ∧ w ≤ 5) : QW (fun n => (q_rcv s 7 (.ref 38)).bind fun b10 => (g_96 o n 0 s b10 a 0).bind fun q9 => (q_g (q_in q9.2)).bind fun _ => if q9.2 = 0 then g_95 o n 1 q9.1 0 w a b 0 (.ref 38) 0 else (q_rcv q9.1 7 (.ref 38)).bind fun b21 => (g_96 o n 0 q9.1 b21 b 0).bind fun q20 => (q_g (q_in q20.2)).bind fun _ => if q20.2 = 0 then g_95 o n 1 q20.1 0 w a b 0 (.ref 38) 0 else g_95 o n 2 q20.1 0 w a b 0 (.ref 38) 1) (fun q => q = ndP T s w a b c) := by
  have hn : 0 ≤ q_F s 38 1 ∧ q_F s 38 1 ≤ 300 := by rw [hN.2.2.1]; exact ⟨hN.1, hN.2.1⟩
  have e0 : (eE T a && eE T b) = false → ndP T s w a b c = (s, -1) := fun z => ndP_n (by unfold ndA; rw [if_pos hw, z]; rfl)
  have K : (eE T a && eE T b) = false → QW (fun n => g_95 o n 1 s 0 w a b 0 (.ref 38) 0) (fun q => q = ndP T s w a b c) := fun z => by
    rw [e0 z]
    exact m_95_s (fun n => by simp only [g_95]) (m_95_2 hs hn (by decide) pS0)
  refine QW_p (k_rc (hs _ _ rfl)) ?_
  refine QW_e (m_96 hs hN ha) ?_
  refine QW_g qin01 ?_
  refine QW_by (fun z => K (by rw [ff 0 z]; rfl)) (fun z => ?_)
  refine QW_p (k_rc (hs _ _ rfl)) ?_
  refine QW_e (m_96 hs hN hb) ?_
  refine QW_g qin01 ?_
  refine QW_by (fun y => K (by rw [ff 0 y, Bool.and_false])) (fun y => ?_)
  refine m_95_2 hs hn (by decide) ?_
  rw [ndP_s (r := (0, a, b, -1)) (by unfold ndA; rw [if_pos hw, tt 0 z, tt 0 y]; rfl)]
/-- two statements -/
theorem nd_14 (hs : SH s) (hN : NRr T s) (ha : q_in a) (hb : q_in b) (hw : w = 14 ∨ w = 18) : QW (fun n => (q_rcv s 7 (.ref 38)).bind fun b10 => (g_98 o n 0 s b10 a 0).bind fun q9 => (q_g (q_in q9.2)).bind fun _ => if q9.2 = 0 then g_95 o n 9 q9.1 0 w a b 0 (.ref 38) 0 else (q_rcv q9.1 7 (.ref 38)).bind fun b21 => (g_98 o n 0 q9.1 b21 b 0).bind fun q20 => (q_g (q_in q20.2)).bind fun _ => if q20.2 = 0 then g_95 o n 9 q20.1 0 w a b 0 (.ref 38) 0 else g_95 o n 10 q20.1 0 w a b 0 (.ref 38) 1) (fun q => q = ndP T s w a b c) := by
  have hn : 0 ≤ q_F s 38 1 ∧ q_F s 38 1 ≤ 300 := by rw [hN.2.2.1]; exact ⟨hN.1, hN.2.1⟩
  have hA : ndA T w a b c = if (eS T a && eS T b) = true then some (0, a, b, -1) else none := by
    unfold ndA
    rw [if_neg (by omega), if_neg (by omega), if_neg (by omega), if_neg (by omega), if_neg (by omega), if_pos hw]
  have K : (eS T a && eS T b) = false → QW (fun n => g_95 o n 9 s 0 w a b 0 (.ref 38) 0) (fun q => q = ndP T s w a b c) := fun z => by
    rw [ndP_n (by rw [hA, z]; rfl)]
    exact m_95_s (fun n => by simp only [g_95]) (m_95_10 hs hn (by decide) pS0)
  refine QW_p (k_rc (hs _ _ rfl)) ?_
  refine QW_e (m_98 hs hN ha) ?_
  refine QW_g qin01 ?_
  refine QW_by (fun z => K (by rw [ff 0 z]; rfl)) (fun z => ?_)
  refine QW_p (k_rc (hs _ _ rfl)) ?_
  refine QW_e (m_98 hs hN hb) ?_
  refine QW_g qin01 ?_
  refine QW_by (fun y => K (by rw [ff 0 y, Bool.and_false])) (fun y => ?_)
  refine m_95_10 hs hn (by decide) ?_
  rw [ndP_s (r := (0, a, b, -1)) (by rw [hA, tt 0 z, tt 0 y]; rfl)]
/-- a number and an expression -/
theorem nd_10 (hs : SH s) (hN : NRr T s) (ha : q_in a) (hb : q_in b) (hw : w = 10) : QW (fun n => (q_g (q_in a)).bind fun _ => if a < 0 then g_95 o n 3 s 0 w a b 0 (.ref 38) 0 else (q_g (q_in a)).bind fun _ => if 8 ≤ a then g_95 o n 3 s 0 w a b 0 (.ref 38) 0 else (q_rcv s 7 (.ref 38)).bind fun b174 => (g_96 o n 0 s b174 b 0).bind fun q173 => (q_g (q_in q173.2)).bind fun _ => if q173.2 = 0 then g_95 o n 3 q173.1 0 w a b 0 (.ref 38) 0 else g_95 o n 4 q173.1 0 w a b 0 (.ref 38) 1) (fun q => q = ndP T s w a b c) := by
  have hn : 0 ≤ q_F s 38 1 ∧ q_F s 38 1 ≤ 300 := by rw [hN.2.2.1]; exact ⟨hN.1, hN.2.1⟩
  have hA : ndA T w a b c = if (i8 8 a && eE T b) = true then some (a, b, -1, -1) else none := by
    unfold ndA
    rw [if_neg (by omega), if_neg (by omega), if_pos hw]
  have K : (i8 8 a && eE T b) = false → QW (fun n => g_95 o n 3 s 0 w a b 0 (.ref 38) 0) (fun q => q = ndP T s w a b c) := fun z => by
    rw [ndP_n (by rw [hA, z]; rfl)]
    exact m_95_s (fun n => by simp only [g_95]) (m_95_4 hs hn (by decide) ha pS0)
  refine QW_g ha ?_
  refine QW_by (fun z => K (by rw [show i8 8 a = false from decide_eq_false (by omega)]; rfl)) (fun z => ?_)
  refine QW_g ha ?_
  refine QW_by (fun y => K (by rw [show i8 8 a = false from decide_eq_false (by omega)]; rfl)) (fun y => ?_)
  refine QW_p (k_rc (hs _ _ rfl)) ?_
  refine QW_e (m_96 hs hN hb) ?_
  refine QW_g qin01 ?_
  refine QW_by (fun x => K (by rw [ff 0 x, Bool.and_false])) (fun x => ?_)
  refine m_95_4 hs hn (by decide) ha ?_
  rw [ndP_s (r := (a, b, -1, -1)) (by rw [hA, tt 0 x, show i8 8 a = true from decide_eq_true (by omega)]; rfl)]
theorem nd_11 (hs : SH s) (hN : NRr T s) (ha : q_in a) (hb : q_in b) (hw : w = 11) : QW (fun n => (q_g (q_in a)).bind fun _ => if a < 0 then g_95 o n 5 s 0 w a b 0 (.ref 38) 0 else (q_g (q_in a)).bind fun _ => if 16 ≤ a then g_95 o n 5 s 0 w a b 0 (.ref 38) 0 else (q_rcv s 7 (.ref 38)).bind fun b174 => (g_96 o n 0 s b174 b 0).bind fun q173 => (q_g (q_in q173.2)).bind fun _ => if q173.2 = 0 then g_95 o n 5 q173.1 0 w a b 0 (.ref 38) 0 else g_95 o n 6 q173.1 0 w a b 0 (.ref 38) 1) (fun q => q = ndP T s w a b c) := by
  have hn : 0 ≤ q_F s 38 1 ∧ q_F s 38 1 ≤ 300 := by rw [hN.2.2.1]; exact ⟨hN.1, hN.2.1⟩
  have hA : ndA T w a b c = if (i8 16 a && eE T b) = true then some (a, b, -1, -1) else none := by
    unfold ndA
    rw [if_neg (by omega), if_neg (by omega), if_neg (by omega), if_pos hw]
  have K : (i8 16 a && eE T b) = false → QW (fun n => g_95 o n 5 s 0 w a b 0 (.ref 38) 0) (fun q => q = ndP T s w a b c) := fun z => by
    rw [ndP_n (by rw [hA, z]; rfl)]
    exact m_95_s (fun n => by simp only [g_95]) (m_95_6 hs hn (by decide) ha pS0)
  refine QW_g ha ?_
  refine QW_by (fun z => K (by rw [show i8 16 a = false from decide_eq_false (by omega)]; rfl)) (fun z => ?_)
  refine QW_g ha ?_
  refine QW_by (fun y => K (by rw [show i8 16 a = false from decide_eq_false (by omega)]; rfl)) (fun y => ?_)
  refine QW_p (k_rc (hs _ _ rfl)) ?_
  refine QW_e (m_96 hs hN hb) ?_
  refine QW_g qin01 ?_
  refine QW_by (fun x => K (by rw [ff 0 x, Bool.and_false])) (fun x => ?_)
  refine m_95_6 hs hn (by decide) ha ?_
  rw [ndP_s (r := (a, b, -1, -1)) (by rw [hA, tt 0 x, show i8 16 a = true from decide_eq_true (by omega)]; rfl)]
theorem nd_20 (hs : SH s) (hN : NRr T s) (ha : q_in a) (hb : q_in b) (hw : w = 20) : QW (fun n => (q_g (q_in a)).bind fun _ => if a < 0 then g_95 o n 20 s 0 w a b 0 (.ref 38) 0 else (q_g (q_in a)).bind fun _ => if 8 ≤ a then g_95 o n 20 s 0 w a b 0 (.ref 38) 0 else (q_rcv s 7 (.ref 38)).bind fun b174 => (g_98 o n 0 s b174 b 0).bind fun q173 => (q_g (q_in q173.2)).bind fun _ => if q173.2 = 0 then g_95 o n 20 q173.1 0 w a b 0 (.ref 38) 0 else g_95 o n 21 q173.1 0 w a b 0 (.ref 38) 1) (fun q => q = ndP T s w a b c) := by
  have hn : 0 ≤ q_F s 38 1 ∧ q_F s 38 1 ≤ 300 := by rw [hN.2.2.1]; exact ⟨hN.1, hN.2.1⟩
  have hA : ndA T w a b c = if (i8 8 a && eS T b) = true then some (a, b, -1, -1) else none := by
    subst hw
    rfl
  have K : (i8 8 a && eS T b) = false → QW (fun n => g_95 o n 20 s 0 w a b 0 (.ref 38) 0) (fun q => q = ndP T s w a b c) := fun z => by
    rw [ndP_n (by rw [hA, z]; rfl)]
    exact m_95_s (fun n => by simp only [g_95]) (m_95_21 hs hn (by decide) ha pS0)
  refine QW_g ha ?_
  refine QW_by (fun z => K (by rw [show i8 8 a = false from decide_eq_false (by omega)]; rfl)) (fun z => ?_)
  refine QW_g ha ?_
  refine QW_by (fun y => K (by rw [show i8 8 a = false from decide_eq_false (by omega)]; rfl)) (fun y => ?_)
  refine QW_p (k_rc (hs _ _ rfl)) ?_
  refine QW_e (m_98 hs hN hb) ?_
  refine QW_g qin01 ?_
  refine QW_by (fun x => K (by rw [ff 0 x, Bool.and_false])) (fun x => ?_)
  refine m_95_21 hs hn (by decide) ha ?_
  rw [ndP_s (r := (a, b, -1, -1)) (by rw [hA, tt 0 x, show i8 8 a = true from decide_eq_true (by omega)]; rfl)]
theorem nd_17 (hs : SH s) (hN : NRr T s) (ha : q_in a) (hb : q_in b) (hw : w = 17) : QW (fun n => (q_rcv s 7 (.ref 38)).bind fun b10 => (g_96 o n 0 s b10 a 0).bind fun q9 => (q_g (q_in q9.2)).bind fun _ => if q9.2 = 0 then g_95 o n 16 q9.1 0 w a b 0 (.ref 38) 0 else (q_rcv q9.1 7 (.ref 38)).bind fun b21 => (g_98 o n 0 q9.1 b21 b 0).bind fun q20 => (q_g (q_in q20.2)).bind fun _ => if q20.2 = 0 then g_95 o n 16 q20.1 0 w a b 0 (.ref 38) 0 else g_95 o n 17 q20.1 0 w a b 0 (.ref 38) 1) (fun q => q = ndP T s w a b c) := by
  have hn : 0 ≤ q_F s 38 1 ∧ q_F s 38 1 ≤ 300 := by rw [hN.2.2.1]; exact ⟨hN.1, hN.2.1⟩
  have hA : ndA T w a b c = if (eE T a && eS T b) = true then some (0, a, b, -1) else none := by
    subst hw
    rfl
  have K : (eE T a && eS T b) = false → QW (fun n => g_95 o n 16 s 0 w a b 0 (.ref 38) 0) (fun q => q = ndP T s w a b c) := fun z => by
    rw [ndP_n (by rw [hA, z]; rfl)]
    exact m_95_s (fun n => by simp only [g_95]) (m_95_17 hs hn (by decide) pS0)
  refine QW_p (k_rc (hs _ _ rfl)) ?_
  refine QW_e (m_96 hs hN ha) ?_
  refine QW_g qin01 ?_
  refine QW_by (fun z => K (by rw [ff 0 z]; rfl)) (fun z => ?_)
  refine QW_p (k_rc (hs _ _ rfl)) ?_
  refine QW_e (m_98 hs hN hb) ?_
  refine QW_g qin01 ?_
  refine QW_by (fun y => K (by rw [ff 0 y, Bool.and_false])) (fun y => ?_)
  refine m_95_17 hs hn (by decide) ?_
  rw [ndP_s (r := (0, a, b, -1)) (by rw [hA, tt 0 z, tt 0 y]; rfl)]
/-- three -/
theorem nd_13 (hs : SH s) (hN : NRr T s) (ha : q_in a) (hb : q_in b) (hc : q_in c) (hw : w = 13) : QW (fun n => (q_g (q_in a)).bind fun _ => if a < 0 then g_95 o n 7 s 0 w a b c (.ref 38) 0 else (q_g (q_in a)).bind fun _ => if 8 ≤ a then g_95 o n 7 s 0 w a b c (.ref 38) 0 else (q_rcv s 7 (.ref 38)).bind fun b227 => (g_96 o n 0 s b227 b 0).bind fun q226 => (q_g (q_in q226.2)).bind fun _ => if q226.2 = 0 then g_95 o n 7 q226.1 0 w a b c (.ref 38) 0 else (q_rcv q226.1 7 (.ref 38)).bind fun b238 => (g_96 o n 0 q226.1 b238 c 0).bind fun q237 => (q_g (q_in q237.2)).bind fun _ => if q237.2 = 0 then g_95 o n 7 q237.1 0 w a b c (.ref 38) 0 else g_95 o n 8 q237.1 0 w a b c (.ref 38) 1) (fun q => q = ndP T s w a b c) := by
  have hn : 0 ≤ q_F s 38 1 ∧ q_F s 38 1 ≤ 300 := by rw [hN.2.2.1]; exact ⟨hN.1, hN.2.1⟩
  have hA : ndA T w a b c = if (i8 8 a && eE T b && eE T c) = true then some (a, b, c, -1) else none := by
    subst hw
    rfl
  have K : (i8 8 a && eE T b && eE T c) = false → QW (fun n => g_95 o n 7 s 0 w a b c (.ref 38) 0) (fun q => q = ndP T s w a b c) := fun z => by
    rw [ndP_n (by rw [hA, z]; rfl)]
    exact m_95_s (fun n => by simp only [g_95]) (m_95_8 hs hn (by decide) ha pS0)
  refine QW_g ha ?_
  refine QW_by (fun z => K (by rw [show i8 8 a = false from decide_eq_false (by omega)]; rfl)) (fun z => ?_)
  refine QW_g ha ?_
  refine QW_by (fun y => K (by rw [show i8 8 a = false from decide_eq_false (by omega)]; rfl)) (fun y => ?_)
  refine QW_p (k_rc (hs _ _ rfl)) ?_
  refine QW_e (m_96 hs hN hb) ?_
  refine QW_g qin01 ?_
  refine QW_by (fun x => K (by rw [ff 0 x, Bool.and_false, Bool.false_and])) (fun x => ?_)
  refine QW_p (k_rc (hs _ _ rfl)) ?_
  refine QW_e (m_96 hs hN hc) ?_
  refine QW_g qin01 ?_
  refine QW_by (fun x => K (by rw [ff 0 x, Bool.and_false])) (fun x' => ?_)
  refine m_95_8 hs hn (by decide) ha ?_
  rw [ndP_s (r := (a, b, c, -1)) (by rw [hA, tt 0 x, tt 0 x', show i8 8 a = true from decide_eq_true (by omega)]; rfl)]
theorem nd_16 (hs : SH s) (hN : NRr T s) (ha : q_in a) (hb : q_in b) (hc : q_in c) (hw : w = 16) : QW (fun n => (q_rcv s 7 (.ref 38)).bind fun b310 => (g_96 o n 0 s b310 a 0).bind fun q309 => (q_g (q_in q309.2)).bind fun _ => if q309.2 = 0 then g_95 o n 14 q309.1 0 w a b c (.ref 38) 0 else (q_rcv q309.1 7 (.ref 38)).bind fun b321 => (g_98 o n 0 q309.1 b321 b 0).bind fun q320 => (q_g (q_in q320.2)).bind fun _ => if q320.2 = 0 then g_95 o n 14 q320.1 0 w a b c (.ref 38) 0 else (q_rcv q320.1 7 (.ref 38)).bind fun b332 => (g_98 o n 0 q320.1 b332 c 0).bind fun q331 => (q_g (q_in q331.2)).bind fun _ => if q331.2 = 0 then g_95 o n 14 q331.1 0 w a b c (.ref 38) 0 else g_95 o n 15 q331.1 0 w a b c (.ref 38) 1) (fun q => q = ndP T s w a b c) := by
  have hn : 0 ≤ q_F s 38 1 ∧ q_F s 38 1 ≤ 300 := by rw [hN.2.2.1]; exact ⟨hN.1, hN.2.1⟩
  have hA : ndA T w a b c = if (eE T a && eS T b && eS T c) = true then some (0, a, b, c) else none := by
    subst hw
    rfl
  have K : (eE T a && eS T b && eS T c) = false → QW (fun n => g_95 o n 14 s 0 w a b c (.ref 38) 0) (fun q => q = ndP T s w a b c) := fun z => by
    rw [ndP_n (by rw [hA, z]; rfl)]
    exact m_95_s (fun n => by simp only [g_95]) (m_95_15 hs hn (by decide) pS0)
  refine QW_p (k_rc (hs _ _ rfl)) ?_
  refine QW_e (m_96 hs hN ha) ?_
  refine QW_g qin01 ?_
  refine QW_by (fun z => K (by rw [ff 0 z]; rfl)) (fun z => ?_)
  refine QW_p (k_rc (hs _ _ rfl)) ?_
  refine QW_e (m_98 hs hN hb) ?_
  refine QW_g qin01 ?_
  refine QW_by (fun x => K (by rw [ff 0 x, Bool.and_false, Bool.false_and])) (fun x => ?_)
  refine QW_p (k_rc (hs _ _ rfl)) ?_
  refine QW_e (m_98 hs hN hc) ?_
  refine QW_g qin01 ?_
  refine QW_by (fun x => K (by rw [ff 0 x, Bool.and_false])) (fun x' => ?_)
  refine m_95_15 hs hn (by decide) ?_
  rw [ndP_s (r := (0, a, b, c)) (by rw [hA, tt 0 z, tt 0 x, tt 0 x']; rfl)]
theorem nd_15 (hs : SH s) (hN : NRr T s) (ha : q_in a) (hb : q_in b) (hc : q_in c) (hw : w = 15) : QW (fun n => (q_rcv s 7 (.ref 38)).bind fun b273 => (g_96 o n 0 s b273 a 0).bind fun q272 => (q_g (q_in q272.2)).bind fun _ => if q272.2 = 0 then g_95 o n 12 q272.1 0 w a b c (.ref 38) 0 else (q_rcv q272.1 7 (.ref 38)).bind fun b284 => (g_98 o n 0 q272.1 b284 b 0).bind fun q283 => (q_g (q_in q283.2)).bind fun _ => if q283.2 = 0 then g_95 o n 12 q283.1 0 w a b c (.ref 38) 0 else (q_g (q_in c)).bind fun _ => if c = (-1) then g_95 o n 11 q283.1 0 w a b c (.ref 38) 0 else (q_rcv q283.1 7 (.ref 38)).bind fun b298 => (g_98 o n 0 q283.1 b298 c 0).bind fun q297 => (q_g (q_in q297.2)).bind fun _ => if q297.2 = 0 then g_95 o n 12 q297.1 0 w a b c (.ref 38) 0 else g_95 o n 11 q297.1 0 w a b c (.ref 38) 0) (fun q => q = ndP T s w a b c) := by
  have hn : 0 ≤ q_F s 38 1 ∧ q_F s 38 1 ≤ 300 := by rw [hN.2.2.1]; exact ⟨hN.1, hN.2.1⟩
  have hA : ndA T w a b c = if (eE T a && eS T b && (decide (c = -1) || eS T c)) = true then some (0, a, b, c) else none := by
    subst hw
    rfl
  have K : (eE T a && eS T b && (decide (c = -1) || eS T c)) = false → QW (fun n => g_95 o n 12 s 0 w a b c (.ref 38) 0) (fun q => q = ndP T s w a b c) := fun z => by
    rw [ndP_n (by rw [hA, z]; rfl)]
    exact m_95_s (fun n => by simp only [g_95]) (m_95_13 hs hn (by decide) pS0)
  have K1 : (eE T a && eS T b && (decide (c = -1) || eS T c)) = true → QW (fun n => g_95 o n 11 s 0 w a b c (.ref 38) 0) (fun q => q = ndP T s w a b c) := fun z => by
    rw [ndP_s (r := (0, a, b, c)) (by rw [hA, z]; rfl)]
    exact m_95_s (fun n => by simp only [g_95]) (m_95_13 hs hn (by decide) rfl)
  refine QW_p (k_rc (hs _ _ rfl)) ?_
  refine QW_e (m_96 hs hN ha) ?_
  refine QW_g qin01 ?_
  refine QW_by (fun z => K (by rw [ff 0 z]; rfl)) (fun z => ?_)
  refine QW_p (k_rc (hs _ _ rfl)) ?_
  refine QW_e (m_98 hs hN hb) ?_
  refine QW_g qin01 ?_
  refine QW_by (fun x => K (by rw [ff 0 x, Bool.and_false, Bool.false_and])) (fun x => ?_)
  refine QW_g hc ?_
  refine QW_by (fun y => K1 (by rw [tt 0 z, tt 0 x, decide_eq_true y]; rfl)) (fun y => ?_)
  refine QW_p (k_rc (hs _ _ rfl)) ?_
  refine QW_e (m_98 hs hN hc) ?_
  refine QW_g qin01 ?_
  refine QW_by (fun x' => K (by rw [ff 0 x', decide_eq_false y, Bool.or_false, Bool.and_false])) (fun x' => K1 (by rw [tt 0 z, tt 0 x, tt 0 x', Bool.or_true]; rfl))
theorem nd_19 (hs : SH s) (hN : NRr T s) (ha : q_in a) (hw : w = 19) : QW (fun n => (q_g (q_in a)).bind fun _ => if a < 0 then g_95 o n 18 s 0 w a 0 0 (.ref 38) 0 else (q_g (q_in a)).bind fun _ => if 8 ≤ a then g_95 o n 18 s 0 w a 0 0 (.ref 38) 0 else g_95 o n 19 s 0 w a 0 0 (.ref 38) 1) (fun q => q = ndP T s w a b c) := by
  have hn : 0 ≤ q_F s 38 1 ∧ q_F s 38 1 ≤ 300 := by rw [hN.2.2.1]; exact ⟨hN.1, hN.2.1⟩
  have hA : ndA T w a b c = if i8 8 a = true then some (a, -1, -1, -1) else none := by
    subst hw
    rfl
  have K : i8 8 a = false → QW (fun n => g_95 o n 18 s 0 w a 0 0 (.ref 38) 0) (fun q => q = ndP T s w a b c) := fun z => by
    rw [ndP_n (by rw [hA, z]; rfl)]
    exact m_95_s (fun n => by simp only [g_95]) (m_95_19 hs hn (by decide) ha pS0)
  refine QW_g ha ?_
  refine QW_by (fun z => K (decide_eq_false (by omega))) (fun z => ?_)
  refine QW_g ha ?_
  refine QW_by (fun y => K (decide_eq_false (by omega))) (fun y => ?_)
  refine m_95_19 hs hn (by decide) ha ?_
  rw [ndP_s (r := (a, -1, -1, -1)) (by rw [hA, show i8 8 a = true from decide_eq_true (by omega)]; rfl)]
/-- node -/
theorem m_95 (hs : SH s) (hN : NRr T s) (hw : q_in w) (ha : q_in a) (hb : q_in b) (hc : q_in c) : QW (fun n => g_95 o n 0 s 38 w a b c .null 0) (fun q => q = ndP T (q_sf s 38 0 0) w a b c) := by
  have hs1 : SH (q_sf s 38 0 0) := fun a t x => hs a t x
  have hN1 : NRr T (q_sf s 38 0 0) := by
    obtain ⟨n0, n1, h1, h⟩ := hN
    refine ⟨n0, n1, by rw [q_F_sf, if_neg (by decide)]; exact h1, fun i i0 i1 => ?_⟩
    obtain ⟨b0, b1, b2, b3, b4, b5⟩ := h i i0 i1
    exact ⟨b0, by rw [q_I_sf, if_neg (fun z => absurd z.1 (by decide))]; exact b1, b2, by rw [q_I_sf, if_neg (fun z => absurd z.1 (by decide))]; exact b3, by rw [q_I_sf, if_neg (fun z => absurd z.1 (by decide))]; exact b4, by rw [q_I_sf, if_neg (fun z => absurd z.1 (by decide))]; exact b5⟩
  refine QW_s ?_
  simp only [g_95]
  refine QW_p (k_pi (hs _ _ rfl) rfl rfl) ?_
  generalize q_sf s 38 0 0 = s1 at hs1 hN1
  have hn : 0 ≤ q_F s1 38 1 ∧ q_F s1 38 1 ≤ 300 := by rw [hN1.2.2.1]; exact ⟨hN1.1, hN1.2.1⟩
  refine QW_g hw ?_
  refine QW_by (fun z => ?_) (fun z => ?_)
  · refine QW_ret (ndP_n ?_).symm
    unfold ndA
    repeat rw [if_neg (by omega)]
  refine QW_by (fun z0 => nd_05 hs1 hN1 ha hb (by omega)) (fun z0 => ?_)
  refine QW_by (fun z1 => nd_05 hs1 hN1 ha hb (by omega)) (fun z1 => ?_)
  refine QW_by (fun z2 => nd_05 hs1 hN1 ha hb (by omega)) (fun z2 => ?_)
  refine QW_by (fun z3 => nd_05 hs1 hN1 ha hb (by omega)) (fun z3 => ?_)
  refine QW_by (fun z4 => nd_05 hs1 hN1 ha hb (by omega)) (fun z4 => ?_)
  refine QW_by (fun z5 => nd_05 hs1 hN1 ha hb (by omega)) (fun z5 => ?_)
  have one : w = 6 ∨ w = 12 → QW (fun n => (q_rcv s1 7 (.ref 38)).bind fun b148 => (g_96 o n 0 s1 b148 a 0).bind fun q147 => (q_rcv q147.1 7 (.ref 38)).bind fun b156 => (g_97 o n 0 q147.1 b156 q147.2 w 0 a (-1) (-1) 0).bind fun q155 => some (q155.1, q155.2)) (fun q => q = ndP T s1 w a b c) := fun h => by
    have hA : ndA T w a b c = if eE T a = true then some (0, a, -1, -1) else none := by
      rcases h with h | h <;> (subst h; rfl)
    refine QW_p (k_rc (hs1 _ _ rfl)) ?_
    refine QW_e (m_96 hs1 hN1 ha) ?_
    refine QW_p (k_rc (hs1 _ _ rfl)) ?_
    refine QW_e (m_97 hs1 hn qin01 (by decide)) ?_
    refine QW_ret ?_
    cases y : eE T a with
    | true => rw [ndP_s (r := (0, a, -1, -1)) (by rw [hA, y]; rfl)]; rfl
    | false => rw [ndP_n (by rw [hA, y]; rfl)]; rfl
  have no : w = 7 ∨ w = 8 ∨ w = 9 → QW (fun n => some (s1, (-1 : Int))) (fun q => q = ndP T s1 w a b c) := fun h => by
    refine QW_ret (ndP_n ?_).symm
    rcases h with h | h | h <;> (subst h; rfl)
  refine QW_by (fun z => one (Or.inl z)) (fun z6 => ?_)
  refine QW_by (fun z => no (Or.inl z)) (fun z7 => ?_)
  refine QW_by (fun z => no (Or.inr (Or.inl z))) (fun z8 => ?_)
  refine QW_by (fun z => no (Or.inr (Or.inr z))) (fun z9 => ?_)
  refine QW_by (fun z => nd_10 hs1 hN1 ha hb z) (fun z10 => ?_)
  refine QW_by (fun z => nd_11 hs1 hN1 ha hb z) (fun z11 => ?_)
  refine QW_by (fun z => one (Or.inr z)) (fun z12 => ?_)
  refine QW_by (fun z => nd_13 hs1 hN1 ha hb hc z) (fun z13 => ?_)
  refine QW_by (fun z => nd_14 hs1 hN1 ha hb (Or.inl z)) (fun z14 => ?_)
  refine QW_by (fun z => nd_15 hs1 hN1 ha hb hc z) (fun z15 => ?_)
  refine QW_by (fun z => nd_16 hs1 hN1 ha hb hc z) (fun z16 => ?_)
  refine QW_by (fun z => nd_17 hs1 hN1 ha hb z) (fun z17 => ?_)
  refine QW_by (fun z => nd_14 hs1 hN1 ha hb (Or.inr z)) (fun z18 => ?_)
  refine QW_by (fun z => nd_19 hs1 hN1 ha z) (fun z19 => ?_)
  refine QW_by (fun z => nd_20 hs1 hN1 ha hb z) (fun z20 => ?_)
  refine QW_it (by omega) ?_
  have w21 : w = 21 := by omega
  have hA : ndA T w a b c = if eS T a = true then some (0, a, -1, -1) else none := by
    subst w21; rfl
  refine QW_p (k_rc (hs1 _ _ rfl)) ?_
  refine QW_e (m_98 hs1 hN1 ha) ?_
  refine QW_p (k_rc (hs1 _ _ rfl)) ?_
  refine QW_e (m_97 hs1 hn qin01 (by decide)) ?_
  refine QW_ret ?_
  cases y : eS T a with
  | true => rw [ndP_s (r := (0, a, -1, -1)) (by rw [hA, y]; rfl)]; rfl
  | false => rw [ndP_n (by rw [hA, y]; rfl)]; rfl
end RNF
