/-! THE ABSTRACT RUN: branches with their frames (inner first) and sides; a second's look and run -/
abbrev FR : Type := Int × Int64
abbrev DT : Type := Int × Int64 × Int64 × Int64
abbrev CT : Type := Int × Int × DT × List FR
abbrev BT (k : Nat) : Type := Nat.rec (motive := fun _ => Type) Unit (fun _ B => Int × Int × DT × List FR × Option (B × B)) k
/-- values, outputs, names, phases, swap, program, begun, sides -/
abbrev GT : Type := (Int → Int64) × (Int → Int64) × (Int → Int) × Int × Int × Int × Int × Int
def G_v (G : GT) : Int → Int64 := G.1
def G_o (G : GT) : Int → Int64 := G.2.1
def G_n (G : GT) : Int → Int := G.2.2.1
def G_ph (G : GT) : Int := G.2.2.2.1
def G_sw (G : GT) : Int := G.2.2.2.2.1
def G_pg (G : GT) : Int := G.2.2.2.2.2.1
def G_bg (G : GT) : Int := G.2.2.2.2.2.2.1
def G_sd (G : GT) : Int := G.2.2.2.2.2.2.2
def upF {α : Type} (f : Int → α) (j : Int) (v : α) : Int → α := fun i => if i = j then v else f i
def G_begun (G : GT) : GT := (G.1, G.2.1, G.2.2.1, G.2.2.2.1, G.2.2.2.2.1, G.2.2.2.2.2.1, G.2.2.2.2.2.2.1 + 1, G.2.2.2.2.2.2.2)
def G_bg0 (G : GT) : GT := (G.1, G.2.1, G.2.2.1, G.2.2.2.1, G.2.2.2.2.1, G.2.2.2.2.2.1, 0, G.2.2.2.2.2.2.2)
def G_setV (G : GT) (j : Int) (v : Int64) : GT := (upF G.1 j v, G.2.1, G.2.2.1, G.2.2.2.1, G.2.2.2.2.1, G.2.2.2.2.2.1, G.2.2.2.2.2.2.1, G.2.2.2.2.2.2.2)
def G_setO (G : GT) (j : Int) (v : Int64) : GT := (G.1, upF G.2.1 j v, G.2.2.1, G.2.2.2.1, G.2.2.2.2.1, G.2.2.2.2.2.1, G.2.2.2.2.2.2.1, G.2.2.2.2.2.2.2)
def G_setN (G : GT) (j v : Int) : GT := (G.1, G.2.1, upF G.2.2.1 j v, G.2.2.2.1, G.2.2.2.2.1, G.2.2.2.2.2.1, G.2.2.2.2.2.2.1, G.2.2.2.2.2.2.2)
def G_side (G : GT) (n : Int) : GT := (G.1, G.2.1, G.2.2.1, G.2.2.2.1, G.2.2.2.2.1, G.2.2.2.2.2.1, G.2.2.2.2.2.2.1, G.2.2.2.2.2.2.2 + n)
def G_phase (G : GT) : GT := (G.1, G.2.1, G.2.2.1, G.2.2.2.1 + 1, G.2.2.2.2.1, G.2.2.2.2.2.1, G.2.2.2.2.2.2.1, G.2.2.2.2.2.2.2)
def G_over (G : GT) : GT := (G.1, G.2.1, (fun _ => -1), G.2.2.2.1, -1, G.2.2.2.2.1, G.2.2.2.2.2.2.1, G.2.2.2.2.2.2.2)
/-- up the rows -/
def upR (P : PT) : Nat → Int → Int
  | 0, q => q
  | f + 1, q => if ¬ q = -1 ∧ P_w P q = 14 then upR P f (P_u P q) else q
def isPh (P : PT) (p : Int) : Bool := decide (P_w P p = 21) && decide (upR P 500 (P_u P p) = -1)
/-- the place of a phase by its number, from p on -/
def phA (P : PT) : Nat → Int → Int → Int
  | 0, _, _ => -1
  | f + 1, p, n => if P_n P ≤ p then -1 else if isPh P p = true then (if n - 1 = 0 then p else phA P f (p + 1) (n - 1)) else phA P f (p + 1) n
section AB
variable (Ps : Int → PT) (sig : Int → Int64) (sec : Int)
def evG (G : GT) (p : Int) : Int64 ⊕ (Int × Int) := ev (Ps (G_pg G)) sig (G_v G) 500 p
/-- a branch's new frame, if there is room -/
def pushA (base p : Int) (st : List FR) (k : (GT × CT) ⊕ (Int × Int)) : (GT × CT) ⊕ (Int × Int) := if base + st.length = 60 then .inr (4, p) else k
def beginA (base : Int) (G : GT) (p : Int) (d : DT) (st : List FR) : (GT × CT) ⊕ (Int × Int) :=
  if P_w (Ps (G_pg G)) p = 14 then .inl (G, (2, P_1 (Ps (G_pg G)) p, d, st))
  else if G_bg G = 500 then .inr (4, p)
  else if P_w (Ps (G_pg G)) p = 10 then (match evG Ps sig G (P_1 (Ps (G_pg G)) p) with
    | .inr x => .inr x
    | .inl v => .inl (G_setO (G_begun G) (P_v (Ps (G_pg G)) p).toInt v, (3, p, d, st)))
  else if P_w (Ps (G_pg G)) p = 11 then (match evG Ps sig G (P_1 (Ps (G_pg G)) p) with
    | .inr x => .inr x
    | .inl v => .inl (G_setV (G_begun G) (P_v (Ps (G_pg G)) p).toInt v, (3, p, d, st)))
  else if P_w (Ps (G_pg G)) p = 12 then (match evG Ps sig G (P_1 (Ps (G_pg G)) p) with
    | .inr x => .inr x
    | .inl v => .inl (G_begun G, (if v < 1 then 3 else 1, p, (sec, v, d.2.2.1, d.2.2.2), st)))
  else if P_w (Ps (G_pg G)) p = 13 then (match evG Ps sig G (P_1 (Ps (G_pg G)) p) with
    | .inr x => .inr x
    | .inl v => (match evG Ps sig G (P_2 (Ps (G_pg G)) p) with
      | .inr x => .inr x
      | .inl m => .inl (if m < 1 then G_setO (G_begun G) (P_v (Ps (G_pg G)) p).toInt v else G_begun G, (if m < 1 then 3 else 1, p, (sec, m, G_o G (P_v (Ps (G_pg G)) p).toInt, v), st))))
  else if P_w (Ps (G_pg G)) p = 15 then (match evG Ps sig G (P_1 (Ps (G_pg G)) p) with
    | .inr x => .inr x
    | .inl v => .inl (G_begun G, if ¬ v = 0 then (2, P_2 (Ps (G_pg G)) p, d, st) else if P_3 (Ps (G_pg G)) p = -1 then (3, p, d, st) else (2, P_3 (Ps (G_pg G)) p, d, st)))
  else if P_w (Ps (G_pg G)) p = 16 then (match evG Ps sig G (P_1 (Ps (G_pg G)) p) with
    | .inr x => .inr x
    | .inl v => if v = 0 then .inl (G_begun G, (2, P_3 (Ps (G_pg G)) p, d, st)) else pushA base p st (.inl (G_begun G, (2, P_2 (Ps (G_pg G)) p, d, (p, 0) :: st))))
  else if P_w (Ps (G_pg G)) p = 17 then (match evG Ps sig G (P_1 (Ps (G_pg G)) p) with
    | .inr x => .inr x
    | .inl v => if v < 1 then .inl (G_begun G, (3, p, d, st)) else pushA base p st (.inl (G_begun G, (2, P_2 (Ps (G_pg G)) p, d, (p, v) :: st))))
  else if P_w (Ps (G_pg G)) p = 18 then pushA base p st (if 1 + 2 * (G_sd G + 1) > 100 then .inr (4, p) else .inl (G_side (G_begun G) 1, (4, p, d, (p, 0) :: st)))
  else if P_w (Ps (G_pg G)) p = 19 then (if G_n G (P_v (Ps (G_pg G)) p).toInt = -1 then .inr (3, p) else pushA base p st (.inl (G_begun G, (2, G_n G (P_v (Ps (G_pg G)) p).toInt, d, (p, 0) :: st))))
  else if P_w (Ps (G_pg G)) p = 20 then .inl (G_setN (G_begun G) (P_v (Ps (G_pg G)) p).toInt (P_1 (Ps (G_pg G)) p), (3, p, d, st))
  else .inl (G_begun G, (2, P_1 (Ps (G_pg G)) p, d, st))
/-- a phase is over -/
def phaseA (G : GT) (q : Int) (d : DT) (st : List FR) : GT × CT :=
  if G_sw G = -1 then (G_phase G, (3, q, d, st))
  else if phA (Ps (G_sw G)) 501 0 (G_ph G + 1) = -1 then (G_over (G_phase G), (0, q, d, st))
  else (G_over (G_phase G), (3, phA (Ps (G_sw G)) 501 0 (G_ph G + 1), d, st))
/-- what comes when the statement at p is over -/
def behindA (G : GT) (p : Int) (d : DT) (st : List FR) : GT × CT :=
  if P_u (Ps (G_pg G)) p = -1 then (G, (0, p, d, st))
  else if P_w (Ps (G_pg G)) (P_u (Ps (G_pg G)) p) = 14 then (G, if p = P_1 (Ps (G_pg G)) (P_u (Ps (G_pg G)) p) then (2, P_2 (Ps (G_pg G)) (P_u (Ps (G_pg G)) p), d, st) else (3, P_u (Ps (G_pg G)) p, d, st))
  else if P_w (Ps (G_pg G)) (P_u (Ps (G_pg G)) p) = 16 then (G, (3, P_u (Ps (G_pg G)) p, d, if p = P_2 (Ps (G_pg G)) (P_u (Ps (G_pg G)) p) then st.tail else st))
  else if P_w (Ps (G_pg G)) (P_u (Ps (G_pg G)) p) = 17 then (match st with
    | (x, a) :: t => (G, if 0 < a - 1 then (2, p, d, (x, a - 1) :: t) else (3, P_u (Ps (G_pg G)) p, d, t))
    | [] => (G, (0, p, d, [])))
  else if P_w (Ps (G_pg G)) (P_u (Ps (G_pg G)) p) = 18 then (G, (0, p, d, st))
  else if P_w (Ps (G_pg G)) (P_u (Ps (G_pg G)) p) = 20 then (match st with
    | (x, _) :: t => (G, (3, x, d, t))
    | [] => (G, (0, p, d, [])))
  else if P_w (Ps (G_pg G)) (P_u (Ps (G_pg G)) p) = 21 then (if isPh (Ps (G_pg G)) (P_u (Ps (G_pg G)) p) = true then phaseA Ps G (P_u (Ps (G_pg G)) p) d st else (G, (3, P_u (Ps (G_pg G)) p, d, st)))
  else (G, (3, P_u (Ps (G_pg G)) p, d, st))
/-- a step that stands: what a ramp puts out now, whether it is over -/
def standA (G : GT) (p : Int) (d : DT) : GT × Bool :=
  (if P_w (Ps (G_pg G)) p = 13 then G_setO G (P_v (Ps (G_pg G)) p).toInt (if d.2.1 ≤ Int64.ofInt (sec - d.1) then d.2.2.2 else d.2.2.1 + (d.2.2.2 - d.2.2.1) * Int64.ofInt (sec - d.1) / d.2.1) else G, decide (d.2.1 ≤ Int64.ofInt (sec - d.1)))
def newB (k : Nat) (p : Int) : BT (k + 1) := (2, p, (0, 0, 0, 0), [], none)
def subB (k : Nat) (p : Int) : BT k := match k with
  | 0 => ()
  | k + 1 => newB k p
def modeB (k : Nat) (t : BT k) : Int := match k, t with
  | 0, _ => 0
  | _ + 1, t => t.1
/-- a branch's run in a second: none if the first number is too small; a fault with what stood then -/
def runA : Nat → (k : Nat) → Int → GT → BT k → Option ((GT × BT k) ⊕ (GT × Int × Int))
  | 0, _, _, _, _ => none
  | _ + 1, 0, _, _, _ => none
  | f + 1, k + 1, base, G, (m, p, d, st, sub) =>
    if m = 2 then (match beginA Ps sig sec base G p d st with
      | .inr x => some (.inr (G, x))
      | .inl (G', c) => runA f (k + 1) base G' (c.1, c.2.1, c.2.2.1, c.2.2.2, if c.1 = 4 then some (subB k (P_1 (Ps (G_pg G)) p), subB k (P_2 (Ps (G_pg G)) p)) else none))
    else if m = 3 then runA f (k + 1) base (behindA Ps G p d st).1 ((behindA Ps G p d st).2.1, (behindA Ps G p d st).2.2.1, (behindA Ps G p d st).2.2.2.1, (behindA Ps G p d st).2.2.2.2, none)
    else if m = 1 then (if (standA Ps sec G p d).2 = true then runA f (k + 1) base (standA Ps sec G p d).1 (3, p, d, st, none) else some (.inl ((standA Ps sec G p d).1, (1, p, d, st, none))))
    else if m = 4 then (match sub with
      | none => none
      | some (l, r) => (match runA f k (base + st.length) G l with
        | none => none
        | some (.inr x) => some (.inr x)
        | some (.inl (G1, l1)) => (match runA f k (base + st.length) G1 r with
          | none => none
          | some (.inr x) => some (.inr x)
          | some (.inl (G2, r1)) =>
            if modeB k l1 = 0 ∧ modeB k r1 = 0 then runA f (k + 1) base (G_side G2 (-1)) (3, (st.headD (0, 0)).1, d, st.tail, none)
            else some (.inl (G2, (4, p, d, st, some (l1, r1)))))))
    else some (.inl (G, (m, p, d, st, sub)))
/-- how many sides -/
def sidesB : (k : Nat) → BT k → Int
  | 0, _ => 0
  | k + 1, (_, _, _, _, sub) => match sub with
    | none => 0
    | some (l, r) => 1 + sidesB k l + sidesB k r
/-- the outermost limit that doesn't hold, and the frames around it -/
def limA (P : PT) (val : Int → Int64) : List FR → List FR → Option (Int × List FR) ⊕ (Int × Int)
  | [], _ => .inl none
  | (p, a) :: t, acc => if P_w P p = 16 then (match ev P sig val 500 (P_1 P p) with
      | .inr x => .inr x
      | .inl v => if v = 0 then .inl (some (p, acc)) else limA P val t ((p, a) :: acc))
    else limA P val t ((p, a) :: acc)
/-- a second's look at the limits -/
def lookA (G : GT) : (k : Nat) → BT k → (BT k × Int) ⊕ (Int × Int)
  | 0, t => .inl (t, 0)
  | k + 1, (m, p, d, st, sub) => match limA sig (Ps (G_pg G)) (G_v G) st.reverse [] with
    | .inr x => .inr x
    | .inl (some (q, acc)) => .inl ((2, P_3 (Ps (G_pg G)) q, d, acc, none), sidesB (k + 1) (m, p, d, st, sub))
    | .inl none => if m = 4 then (match sub with
        | none => .inl ((m, p, d, st, sub), 0)
        | some (l, r) => (match lookA G k l with
          | .inr x => .inr x
          | .inl (l1, n1) => (match lookA G k r with
            | .inr x => .inr x
            | .inl (r1, n2) => .inl ((m, p, d, st, some (l1, r1)), n1 + n2))))
      else .inl ((m, p, d, st, sub), 0)
end AB
