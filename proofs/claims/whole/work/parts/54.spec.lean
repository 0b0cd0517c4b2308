/-! what the document says, as functions: rules -/
abbrev TB : Type := Nat → Nat → Int32
abbrev IT : Type := Nat × Int32
abbrev RE : Type := Bool × Nat × List IT × List IT
abbrev RU : Type := Nat × Int32 × List IT × List RE
def opI (k : Nat) (a b : Int32) : Int32 := if k = 2 then a + b else if k = 3 then a - b else a * b
def st2 (f : Int32 → Int32 → Int32) : List Int32 → List Int32
  | b :: a :: s => f a b :: s
  | s => s
def evI (v : Nat → Int32) : List IT → List Int32 → List Int32
  | [], s => s
  | q :: l, s => if q.1 = 0 then evI v l (q.2 :: s) else if q.1 = 1 then evI v l (v q.2.toNatClampNeg :: s) else evI v l (st2 (opI q.1) s)
def valS (v : Nat → Int32) (l : List IT) : Int32 := (evI v l []).headD 0
def cmpS (k : Nat) (a b : Int32) : Bool := if k = 0 then decide (a = b) else if k = 1 then !(decide (a = b)) else if k = 2 then decide (a < b) else decide (a ≤ b)
def relS (v : Nat → Int32) (r : RE) : Bool := cmpS r.2.1 (valS v r.2.2.1) (valS v r.2.2.2)
def allS (v : Nat → Int32) : Bool → List RE → Bool
  | a, [] => a
  | a, r :: l => if r.1 = true then (if a = true then true else allS v (relS v r) l) else (if a = true then allS v (relS v r) l else allS v false l)
def hdS (v : Nat → Int32) (l : List RE) : Bool := l.isEmpty || allS v false l
def finS (v : Nat → Int32) (s : Nat) (x : Int32) : Nat → List RU → Option (Nat × RU)
  | _, [] => none
  | k, r :: l => if r.1 = s ∧ r.2.1 = x ∧ hdS v r.2.2.2 = true then some (k, r) else finS v s x (k + 1) l
def barS (l : List RU) (x : Int32) (v : Nat → Int32) : Int32 := match finS v 2 x 0 l with
  | none => -1
  | some q => nI q.1
def sayS (l : List RU) (s : Nat) (x : Int32) (v : Nat → Int32) : Int32 := match finS v s x 0 l with
  | none => 0
  | some q => valS v q.2.2.2.1
/-! the road; e: the land's cells; D: the evening of a day, by rows: 0 inn, 1 room, 2 hungry, 3 late, 4 paid, 5 first, 6 barring, 7 left, 8 gets -/
def vrS (e : TB) (c : Nat) (hun lat : Int32) (d : Nat) (inn : Int32) (k : Nat) : Int32 := if k = 0 then e 17 c else if k = 1 then e 18 c else if k = 2 then e 19 c else if k = 3 then e 23 c else if k = 4 then hun else if k = 5 then nI d else if k = 6 then inn else lat
def wkS (e D : TB) (c : Nat) : Int32 := if D 0 c = e 21 c then -1 else D 0 c
def nxS (e : TB) (c : Nat) (h : Int32) : Int32 := if e 21 c ≤ h then h - 1 else h + 1
def slS (D : TB) (c : Nat) (h : Int32) : TB := u2 (u2 (u2 (u2 D 0 c h) 1 c (-1)) 5 c 0) 6 c (-1)
def goS (e : TB) (l : List RU) (d c : Nat) (h n : Int32) (D : TB) : TB :=
  if e 4 n.toNatClampNeg = e 4 h.toNatClampNeg then u2 D 0 c n
  else if sayS l 1 (e 4 n.toNatClampNeg) (vrS e c (D 2 c) (D 3 c) d n) ≤ 0 then u2 D 0 c n
  else u2 (u2 (u2 D 0 c n) 4 c (D 4 c + sayS l 1 (e 4 n.toNatClampNeg) (vrS e c (D 2 c) (D 3 c) d n))) 8 (e 4 n.toNatClampNeg).toNatClampNeg (D 8 (e 4 n.toNatClampNeg).toNatClampNeg + sayS l 1 (e 4 n.toNatClampNeg) (vrS e c (D 2 c) (D 3 c) d n))
def brS (e : TB) (l : List RU) (sh : Nat → Nat → Bool) (d c : Nat) (h n : Int32) (D : TB) : TB :=
  if barS l (e 4 n.toNatClampNeg) (vrS e c (D 2 c) (D 3 c) d n) = -1 ∧ sh (imin h n).toNatClampNeg d = false ∧ ¬ 3 ≤ D 2 c
  then goS e l d c h n (u2 D 6 c (barS l (e 4 n.toNatClampNeg) (vrS e c (D 2 c) (D 3 c) d n)))
  else u2 D 6 c (barS l (e 4 n.toNatClampNeg) (vrS e c (D 2 c) (D 3 c) d n))
def mo1S (e : TB) (l : List RU) (sh : Nat → Nat → Bool) (d : Nat) (D : TB) (c : Nat) : TB :=
  if wkS e D c = -1 then slS D c (wkS e D c) else brS e l sh d c (wkS e D c) (nxS e c (wkS e D c)) (slS D c (wkS e D c))
def morS (e : TB) (l : List RU) (sh : Nat → Nat → Bool) (d : Nat) (D : TB) : Nat → TB
  | 0 => D
  | n + 1 => mo1S e l sh d (morS e l sh d D n) n
def beS (e : TB) (d : Nat) (D : TB) (c : Nat) : TB := if e 22 c = nI d then u2 D 0 c (e 20 c) else D
def fiS (e : TB) (l : List RU) (d : Nat) (D : TB) (c : Nat) : TB := if D 0 c = -1 then D else u2 D 5 c (sayS l 0 0 (vrS e c (D 2 c) (D 3 c) d (D 0 c)))
def evS (e : TB) (l : List RU) (d : Nat) (D : TB) : Nat → TB
  | 0 => D
  | n + 1 => fiS e l d (beS e d (evS e l d D n) n) n
/-! rooms -/
def insR (rk : Nat → Int32) (c : Nat) : List Nat → List Nat
  | [] => [c]
  | x :: xs => if rk c ≤ rk x then c :: x :: xs else x :: insR rk c xs
def ordS (D : TB) (i : Nat) : Nat → List Nat
  | 0 => []
  | n + 1 => if D 0 n = nI i then insR (D 5) n (ordS D i n) else ordS D i n
def opnS (e : TB) (i : Nat) (st : TB) (r c : Nat) : Bool := (decide (st 0 r = 0) || decide (st 2 r = e 17 c)) && !(decide (e (9 + i) r < st 1 r + e 19 c))
def putS (e st : TB) (r c : Nat) : TB := u2 (u2 (u2 st 0 r (st 0 r + 1)) 1 r (st 1 r + e 19 c)) 2 r (e 17 c)
def fitS (e : TB) (i R : Nat) : List Nat → TB → Option (List Nat)
  | [], _ => some []
  | c :: cs, st => (List.range R).findSome? (fun r => if opnS e i st r c = true then (fitS e i R cs (putS e st r c)).map (fun l => r :: l) else none)
def layS (e : TB) (i R : Nat) : List Nat → List Nat → List Nat → Int32 → List Nat × List Nat
  | [], lod, tr, _ => (lod, tr)
  | c :: cs, lod, tr, b => if e 5 i < b + e 18 c then layS e i R cs lod tr b else match fitS e i R (lod ++ [c]) (fun _ _ => 0) with
    | none => layS e i R cs lod tr b
    | some t => layS e i R cs (lod ++ [c]) t (b + e 18 c)
def rmS (q : List Nat × List Nat) (c : Nat) : Int32 := match (q.1.zip q.2).lookup c with
  | none => -1
  | some r => nI r
def rmF (rm : Nat → Int32) : List Nat → TB → TB
  | [], D => D
  | c :: cs, D => rmF rm cs (if rm c = -1 then u2 (u2 D 1 c (rm c)) 3 c (D 3 c + 1) else u2 D 1 c (rm c))
def fdF (e : TB) : List Nat → Int32 → (Nat → Int32) → Int32 × (Nat → Int32)
  | [], s, h => (s, h)
  | c :: cs, s, h => if s < e 18 c then fdF e cs s (fun j => if j = c then h c + 1 else h j) else fdF e cs (s - e 18 c) (fun j => if j = c then 0 else h j)
def hoS (e : TB) (nc : Nat) (D : TB) (i : Nat) : TB :=
  fun k j => if k = 2 then (fdF e (ordS D i nc).reverse (imin 200 (D 7 i + e 6 i)) (D 2)).2 j else if k = 7 ∧ j = i then (fdF e (ordS D i nc).reverse (imin 200 (D 7 i + e 6 i)) (D 2)).1 else rmF (rmS (layS e i (e 7 i).toNatClampNeg (ordS D i nc).reverse [] [] 0)) (ordS D i nc).reverse D k j
def hosS (e : TB) (nc : Nat) (D : TB) : Nat → TB
  | 0 => D
  | n + 1 => hoS e nc (hosS e nc D n) n
def dayS (e : TB) (l : List RU) (sh : Nat → Nat → Bool) (na nc d : Nat) (D : TB) : TB := hosS e nc (evS e l d (morS e l sh d D nc) nc) na
/-- the evening ahead of day d -/
def rodS (e : TB) (l : List RU) (sh : Nat → Nat → Bool) (na nc : Nat) : Nat → TB
  | 0 => fun k _ => if k = 0 then -1 else 0
  | d + 1 => dayS e l sh na nc d (rodS e l sh na nc d)
