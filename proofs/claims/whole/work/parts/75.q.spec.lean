/-! THE ABSTRACT PLANNER. A: scratch (0: 8 planned size, 9 own place; 24 planned), terms (1), counts (2), streams (12 .. 17), log (22 2 its length, 23 straight), disk (26). C: the cache by block: 0 there, 1 stamp, 2 touched, 3 owner, 4 fetched at, 5 ahead; 10000 0 the latest stamp. H: the trace, straight (18 4 its length, 19, 20, 21). -/
def qa_log (A : ST) (r n a b : Int32) : ST :=
  if A 22 2 = 40 then fun c k => if c = 23 then (if k < 156 then A 23 (k + 4) else if k = 156 then r else if k = 157 then n else if k = 158 then a else if k = 159 then b else A 23 k) else A c k
  else zUp (zUp (zUp (zUp (zUp A 23 (4 * (A 22 2).toNatClampNeg) r) 23 (4 * (A 22 2).toNatClampNeg + 1) n) 23 (4 * (A 22 2).toNatClampNeg + 2) a) 23 (4 * (A 22 2).toNatClampNeg + 3) b) 22 2 (A 22 2 + 1)
def qa_widen (A : ST) (p : Nat) (w : Int32) : ST :=
  if w = A (12 + p) 4 then A else zUp (zUp (qa_log A (A 2 0) (A (12 + p) 0) (A (12 + p) 4) w) (12 + p) 4 w) 2 17 (if A 2 17 < w then w else A 2 17)
def qa_change (A : ST) (p : Nat) (w : Int32) : ST := qa_widen A p (if w < A 1 3 then w else A 1 3)
def qa_first (P : Nat → Bool) : Nat → Nat → Option Nat
  | 0, _ => none
  | m + 1, j => if P j = true then some j else qa_first P m (j + 1)
def qa_fin (o : Option Nat) : Option (Fin 6) := match o with
  | none => none
  | some p => if h : p < 6 then some ⟨p, h⟩ else none
def qa_eC (o : Option Nat) : Int32 := match o with
  | none => -1
  | some p => nI p
def qa_eR (o : Option Nat) : Int32 := match o with
  | none => -1
  | some p => nI (542 + 12 * p)
def qa_streamOf (A : ST) (num : Int32) : Option Nat := if num = -1 then none else qa_first (fun p => decide (A (12 + p) 0 = num)) 6 0
def qa_half (w : Int32) : Int32 := if 1 < w / 2 then w / 2 else 1
def qa_waste (A : ST) (num : Int32) : ST := match qa_streamOf A num with
  | none => zUp A 2 6 (A 2 6 + 1)
  | some p => qa_change (zUp (zUp A 2 6 (A 2 6 + 1)) (12 + p) 10 (A (12 + p) 10 + 1)) p (qa_half (A (12 + p) 4))
/-- how many blocks are in the cache; how many of them are ahead -/
def qin (C : ST) : Nat := qcnt (fun b => decide (C b 0 = 1)) 10000
def qah (C : ST) : Nat := qcnt (fun b => decide (C b 0 = 1 ∧ C b 5 = 1)) 10000
/-- which one goes -/
def qw (A C : ST) (b : Nat) : Int := (if A 1 8 = 2 then (C b 2).toInt * 4294967296 else 0) + (C b 1).toInt
def qaho (A C : ST) : Prop := A 1 8 = 1 ∧ A 1 0 / 4 < nI (qah C)
def qcand (A C : ST) (x : Int32) (b : Nat) : Prop := b < 10000 ∧ C b 0 = 1 ∧ nI b ≠ x ∧ (qaho A C → C b 5 = 1)
def qvic (A C : ST) (x : Int32) (b : Nat) : Prop := qcand A C x b ∧ ∀ b', qcand A C x b' → qw A C b ≤ qw A C b'
noncomputable def qa_vic (A C : ST) (x : Int32) : Nat := Classical.epsilon (fun b => qvic A C x b)
noncomputable def qa_room (A C : ST) (x : Int32) : ST × ST :=
  if nI (qin C) < A 1 0 then (A, C) else (if C (qa_vic A C x) 5 = 1 then qa_waste A (C (qa_vic A C x) 3) else A, zUp C (qa_vic A C x) 0 0)
def qa_put (C : ST) (b : Nat) (own reads : Int32) : ST := fun c k =>
  if c = b then (if k = 0 then 1 else if k = 1 then C 10000 0 + 1 else if k = 2 then (if own = -1 then 1 else 0) else if k = 3 then own else if k = 4 then reads else if k = 5 then (if own = -1 then 0 else 1) else C c k)
  else if c = 10000 ∧ k = 0 then C 10000 0 + 1 else C c k
def qa_touch (C : ST) (b : Nat) : ST := fun c k =>
  if c = b then (if k = 1 then C 10000 0 + 1 else if k = 2 then C b 2 + 1 else if k = 5 then 0 else C c k)
  else if c = 10000 ∧ k = 0 then C 10000 0 + 1 else C c k
def qa_plan (A : ST) (b : Nat) : ST := if A 0 8 < 0 then A else if 32 ≤ A 0 8 then A else zUp (zUp A 24 (A 0 8).toNatClampNeg (nI b)) 0 8 (A 0 8 + 1)
/-- a block is fetched ahead for the stream in place p -/
def qa_fetched (A : ST) (p b : Nat) : ST := qa_plan (zUp (zUp A 2 5 (A 2 5 + 1)) (12 + p) 8 (A (12 + p) 8 + 1)) b
noncomputable def qa_fetch (A C : ST) (p b : Nat) (x : Int32) : ST × ST :=
  (qa_fetched (qa_room A C x).1 p b, qa_put (qa_room A C x).2 b ((qa_room A C x).1 (12 + p) 0) ((qa_room A C x).1 2 0))
def qa_may (A C : ST) (x : Int32) : Bool := decide (0 ≤ x) && decide (x < A 1 7) && decide (nI (qah C) < A 1 0 / 2) && (decide (C x.toNatClampNeg 0 = 1) || decide (0 ≤ A 26 x.toNatClampNeg))
def qa_to (A : ST) (p i : Nat) : ST := if i = 0 then zUp (zUp A (12 + p) 5 (A (12 + p) 5 + A (12 + p) 2)) (12 + p) 6 (A (12 + p) 5 + A (12 + p) 2) else zUp A (12 + p) 5 (A (12 + p) 5 + A (12 + p) 2)
noncomputable def qa_bstep (A C : ST) (p : Nat) (x : Int32) (i : Nat) : ST × ST :=
  if C (A (12 + p) 5 + A (12 + p) 2).toNatClampNeg 0 = 1 then (zUp (qa_to A p i) 2 7 (A 2 7 + 1), C)
  else qa_fetch (qa_to A p i) C p (A (12 + p) 5 + A (12 + p) 2).toNatClampNeg x
noncomputable def qa_bloop (p : Nat) (x : Int32) : Nat → Nat → ST → ST → ST × ST
  | 0, _, A, C => (A, C)
  | m + 1, i, A, C => if qa_may A C (A (12 + p) 5 + A (12 + p) 2) = true then qa_bloop p x m (i + 1) (qa_bstep A C p x i).1 (qa_bstep A C p x i).2 else (A, C)
def qa_bat0 (A : ST) (p : Nat) : ST := zUp (zUp A (12 + p) 6 (-1)) 2 9 (A 2 9 + 1)
noncomputable def qa_batch (A C : ST) (p : Nat) (x : Int32) : ST × ST :=
  if A 2 6 * 100 ≤ A 1 5 * A 2 5 then qa_bloop p x (A (12 + p) 4).toNatClampNeg 0 (qa_bat0 A p) C
  else (zUp (qa_bat0 A p) 2 8 (A 2 8 + 1), C)
/-- the stream of a read -/
def qa_stepping (A : ST) (x : Int32) : Nat → Nat → Option Nat → Option Nat
  | 0, _, f => f
  | m + 1, p, f => if A (12 + p) 0 = -1 ∨ A (12 + p) 2 = 0 ∨ ¬ A (12 + p) 1 + A (12 + p) 2 = x then qa_stepping A x m (p + 1) f
    else if A (12 + p) 4 ≤ 0 then qa_stepping A x m (p + 1) (if f = none then some p else f) else some p
def qa_lastAt (A : ST) (x : Int32) : Option Nat := qa_first (fun p => decide (¬ A (12 + p) 0 = -1) && decide (A (12 + p) 1 = x)) 6 0
def qa_far (A : ST) (x : Int32) (p : Nat) : Int32 := if 0 ≤ x - A (12 + p) 1 then x - A (12 + p) 1 else 0 - (x - A (12 + p) 1)
def qa_pairing (A : ST) (x : Int32) : Nat → Nat → Option Nat → Int32 → Option Nat
  | 0, _, f, _ => f
  | m + 1, p, f, near => if A (12 + p) 0 = -1 ∨ ¬ A (12 + p) 2 = 0 ∨ near ≤ qa_far A x p then qa_pairing A x m (p + 1) f near
    else qa_pairing A x m (p + 1) (some p) (qa_far A x p)
def qa_open (A : ST) : Nat → Nat → Nat → Nat
  | 0, _, f => f
  | m + 1, p, f => if A (12 + p) 0 = -1 then p
    else if (if (A (12 + p) 4 ≤ 0 ↔ A (12 + f) 4 ≤ 0) then ¬ A (12 + f) 7 ≤ A (12 + p) 7 else ¬ A (12 + f) 4 ≤ 0) then qa_open A m (p + 1) p else qa_open A m (p + 1) f
def qa_begin (A : ST) (p : Nat) (x : Int32) : ST := fun c k =>
  if c = 12 + p then (if k = 0 then A 2 14 else if k = 1 then x else if k = 5 then x else if k = 6 then -1 else if k < 11 then 0 else A c k)
  else if c = 2 ∧ k = 14 then A 2 14 + 1 else A c k
def qa_stepA (A : ST) (p : Nat) (x : Int32) : ST := zUp (zUp A (12 + p) 1 x) (12 + p) 3 (if A (12 + p) 3 + 1 < 99 then A (12 + p) 3 + 1 else 99)
def qa_pairA (A : ST) (p : Nat) (x : Int32) : ST := zUp (zUp (zUp A (12 + p) 2 (x - A (12 + p) 1)) (12 + p) 3 1) (12 + p) 1 x
def qa_find (A : ST) (x : Int32) : Int32 × Nat × ST := match qa_stepping A x 6 0 none with
  | some p => (1, p, qa_stepA (zUp A 0 9 (nI p)) p x)
  | none => match qa_lastAt A x with
    | some p => (2, p, zUp A 0 9 (nI p))
    | none => match qa_pairing A x 6 0 none (A 1 4 + 1) with
      | some p => (3, p, qa_pairA (zUp A 0 9 (nI p)) p x)
      | none => (4, qa_open A (A 1 6).toNatClampNeg 0 0, qa_begin (zUp A 0 9 (nI (qa_open A (A 1 6).toNatClampNeg 0 0))) (qa_open A (A 1 6).toNatClampNeg 0 0) x)
def qa_beyond (A : ST) (p : Nat) (x : Int32) : Bool := if 0 ≤ A (12 + p) 2 then decide (¬ A (12 + p) 5 ≤ x) else decide (¬ x ≤ A (12 + p) 5)
def qa_ask (A : ST) (p : Nat) : Bool × ST :=
  if A (12 + p) 4 = 0 then (if A 1 1 ≤ A (12 + p) 3 then (true, zUp (qa_change A p (A 1 2)) (12 + p) 5 (A (12 + p) 1)) else (false, A))
  else if A (12 + p) 1 = A (12 + p) 6 then (true, qa_change A p (2 * A (12 + p) 4))
  else if qa_beyond A p (A (12 + p) 1) = true then (false, A) else (true, zUp A (12 + p) 5 (A (12 + p) 1))
noncomputable def qa_goes (A C : ST) (p : Nat) (x : Int32) : ST × ST := if (qa_ask A p).1 = true then qa_batch (qa_ask A p).2 C p x else ((qa_ask A p).2, C)
/-- the streams that are one now -/
def qa_join (p : Nat) : Nat → Nat → ST → ST
  | 0, _, A => A
  | m + 1, q, A => if A (12 + p) 0 = -1 then A
    else if q = p ∨ A (12 + q) 0 = -1 ∨ A (12 + p) 2 = 0 ∨ ¬ A (12 + q) 2 = A (12 + p) 2 ∨ ¬ A (12 + q) 1 = A (12 + p) 1 then qa_join p m (q + 1) A
    else if A (12 + q) 0 ≤ A (12 + p) 0 then qa_join p m (q + 1) (zUp (zUp (zUp A 2 19 (A 2 19 + 1)) (12 + p) 0 (-1)) 0 9 (-1))
    else qa_join p m (q + 1) (zUp (zUp A 2 19 (A 2 19 + 1)) (12 + q) 0 (-1))
def qa_trace (H : ST) (x num kind : Int32) : ST :=
  if H 18 4 = 400 then fun c k => if c = 19 then (if k < 399 then H 19 (k + 1) else if k = 399 then x else H 19 k) else if c = 20 then (if k < 399 then H 20 (k + 1) else if k = 399 then num else H 20 k) else if c = 21 then (if k < 399 then H 21 (k + 1) else if k = 399 then kind else H 21 k) else H c k
  else zUp (zUp (zUp (zUp H 19 (H 18 4).toNatClampNeg x) 20 (H 18 4).toNatClampNeg num) 21 (H 18 4).toNatClampNeg kind) 18 4 (H 18 4 + 1)
/-- a read: a hit, a miss -/
def qa_left (A C : ST) (b : Nat) (reads : Int32) : Int32 := if C b 3 = -1 then 0 else if 0 < A 1 9 - (reads - C b 4) then A 1 9 - (reads - C b 4) else 0
def qa_hitA (A C : ST) (b : Nat) : ST := if C b 5 = 1 then (match qa_streamOf A (C b 3) with
    | none => zUp (zUp A 2 1 (A 2 1 + 1)) 2 4 (A 2 4 + 1)
    | some p => zUp (zUp (zUp A 2 1 (A 2 1 + 1)) 2 4 (A 2 4 + 1)) (12 + p) 9 (A (12 + p) 9 + 1)) else zUp A 2 1 (A 2 1 + 1)
def qa_lateA (A : ST) (o : Option Nat) (left : Int32) : ST := if left ≤ 0 then A else match o with
    | none => zUp (zUp A 2 32 (A 2 32 + 1)) 2 33 (A 2 33 + left)
    | some p => qa_change (zUp (zUp A 2 32 (A 2 32 + 1)) 2 33 (A 2 33 + left)) p (2 * A (12 + p) 4)
def qa_hit (A C : ST) (b : Nat) : ST × ST := (qa_lateA (qa_hitA A C b) (qa_streamOf A (C b 3)) (qa_left A C b (A 2 0 - 1)), qa_touch C b)
noncomputable def qa_admit (A C : ST) (b : Nat) : ST × ST :=
  ((qa_room (zUp A 2 2 (A 2 2 + 1)) C (nI b)).1, qa_put (qa_room (zUp A 2 2 (A 2 2 + 1)) C (nI b)).2 b (-1) ((qa_room (zUp A 2 2 (A 2 2 + 1)) C (nI b)).1 2 0))
noncomputable def qa_got (A C : ST) (b : Nat) : ST × ST := if C b 0 = 1 then qa_hit (zUp A 2 0 (A 2 0 + 1)) C b else qa_admit (zUp A 2 0 (A 2 0 + 1)) C b
/-- behind hit or miss: the stream's part; the stamp is the cache's latest -/
noncomputable def qa_rest (A C H : ST) (b : Nat) : Int32 × ST × ST × ST :=
  let f := qa_find A (nI b)
  let g := if f.1 = 1 ∨ f.1 = 3 then qa_goes f.2.2 C f.2.1 (nI b) else (f.2.2, C)
  let A1 := zUp g.1 (12 + f.2.1) 7 (g.2 10000 0)
  (f.1, qa_join f.2.1 6 0 A1, g.2, qa_trace H (nI b) (A1 (12 + f.2.1) 0) f.1)
def qa_clr (A : ST) : ST := zUp (zUp A 0 8 0) 0 9 (-1)
/-- a read of block b (within SIZE): how its stream was found, 0 if it fails -/
noncomputable def qa_take (A C H : ST) (b : Nat) : Int32 × ST × ST × ST :=
  if C b 0 = 1 ∨ 0 ≤ A 26 b then qa_rest (qa_got (qa_clr A) C b).1 (qa_got (qa_clr A) C b).2 H b
  else (0, zUp (qa_clr A) 2 3 (A 2 3 + 1), C, H)
