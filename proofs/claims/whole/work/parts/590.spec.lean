/-! THE TELLING, as functions on plain data: what the class does with a history, and (later) what the reference does. Events: kind, x, y, when. -/
section SPT
abbrev Ev := Nat × Nat × Nat × Nat
def ek (e : Ev) : Int := (e.1 : Int)
def ex (e : Ev) : Int := (e.2.1 : Int)
def ey (e : Ev) : Int := (e.2.2.1 : Int)
def ew (e : Ev) : Int := (e.2.2.2 : Int)
/-- what is fixed in a telling: 0 the number of events, 1 how many arrivals TASKs count, 2, 3 as long as fewer than so many are taken, so many events are seen, 4 the way (1: without looking), 5 the number of lines; the events; the lines (command, a, b) -/
abbrev CX := (Int → Int) × (Int → Ev) × (Int → Int × Int × Int)
/-- the state: ints (0: scalars, by the slots of the class's state: 5 there, 6 begun, 7 patches, 8 cancelled, 9 over, 10 taken, 11 arrivalAt, 12 commandAt, 13 taskAt; 28 taking, 29 steps, 30 stuck, 31 difference, 40 how many lines were come to, 41 how many signals came; 1: variables; 2 + k: the branch at the place k; -1: the parents of all branches that were begun), the handlers of the branch at a place, the queues, the compensations, the new commands -/
abbrev TS := MM × (Int → List Int) × (Int → List Int) × List Int × List (Int × Int × Int)
def sg (s : TS) (a j : Int) : Int := s.1 a j
def st (s : TS) (a j v : Int) : TS := (mset s.1 a j v, s.2)
def sh (s : TS) (k : Int) : List Int := s.2.1 k
def sth (s : TS) (k : Int) (l : List Int) : TS := (s.1, fun i => if i = k then l else s.2.1 i, s.2.2)
def sq (s : TS) (n : Int) : List Int := s.2.2.1 n
def stq (s : TS) (n : Int) (l : List Int) : TS := (s.1, s.2.1, fun i => if i = n then l else s.2.2.1 i, s.2.2.2)
def su (s : TS) : List Int := s.2.2.2.1
def stu (s : TS) (l : List Int) : TS := (s.1, s.2.1, s.2.2.1, l, s.2.2.2.2)
def sn (s : TS) : List (Int × Int × Int) := s.2.2.2.2
def stn (s : TS) (l : List (Int × Int × Int)) : TS := (s.1, s.2.1, s.2.2.1, s.2.2.2.1, l)
/-- the next command event, the next arrival, the first TASK that counts more -/
def nxc (x : CX) : Nat → Int → Int
  | 0, i => i
  | n + 1, i => if i < x.1 0 then (if 7 < ek (x.2.1 i) then (if ek (x.2.1 i) = 17 then nxc x n (i + 1) else i) else nxc x n (i + 1)) else i
def nxa (x : CX) : Nat → Int → Int
  | 0, i => i
  | n + 1, i => if i < x.1 0 then (if 7 < ek (x.2.1 i) then nxa x n (i + 1) else i) else i
def nxt (x : CX) (t : Int) : Nat → Int → Int
  | 0, i => i
  | n + 1, i => if i < x.1 0 then (if ek (x.2.1 i) = 17 then (if t < ex (x.2.1 i) then i else nxt x t n (i + 1)) else nxt x t n (i + 1)) else i
def nc (x : CX) (i : Int) : Int := nxc x (x.1 0 - i).toNat i
def na (x : CX) (i : Int) : Int := nxa x (x.1 0 - i).toNat i
def tb (x : CX) (t : Int) : Int := nxt x t (x.1 0).toNat 0
def goes (s : TS) : Bool := decide (sg s 0 30 = 0) && decide (sg s 0 9 = 0)
def sSeen (x : CX) (s : TS) : Int := if sg s 0 10 < x.1 2 then x.1 3 else x.1 0
def sStuck (s : TS) (e : Int) : TS := st (st s 0 30 1) 0 31 e
def eis (e : Ev) (k a b : Int) : Bool := decide (ek e = k) && (decide (ex e = a) && decide (ey e = b))
/-- a command: met, or new, or the run is stuck by it (then -1) -/
def sCmd (x : CX) (k a b : Int) (s : TS) : Int × TS :=
  if nc x (sg s 0 12) < sSeen x s then
    (if x.1 4 = 1 ∨ eis (x.2.1 (nc x (sg s 0 12))) k a b = true then (nc x (sg s 0 12), st (st s 0 12 (nc x (sg s 0 12))) 0 12 (nc x (sg s 0 12) + 1)) else (-1, sStuck (st s 0 12 (nc x (sg s 0 12))) (nc x (sg s 0 12))))
  else if sg s 0 10 < x.1 1 then (-1, sStuck (st s 0 12 (nc x (sg s 0 12))) (tb x (sg s 0 10)))
  else (x.1 0 + ((sn s).length : Int), stn (st s 0 12 (nc x (sg s 0 12))) (sn s ++ [(k, a, b)]))
def sGo (k l : Int) (s : TS) : TS := st (st s (2 + k) 7 0) (2 + k) 4 l
def sWait (k w n : Int) (s : TS) : TS := st (st s (2 + k) 7 w) (2 + k) 8 n
def sFail (x : CX) (k : Int) (s : TS) : TS := match sh s k with
  | v :: t => sth (sGo k v (sGo k (sg s (2 + k) 4) s)) k t
  | [] => match sCmd x 15 0 0 (sGo k (sg s (2 + k) 4) s) with
    | (r, s1) => if r < 0 then s1 else st s1 0 9 15
def sTell (x : CX) : Nat → Int → TS → TS
  | 0, _, s => s
  | n + 1, k, s => if k < sg s 0 5 then (if goes s then (if 0 < sg s (2 + k) 5 then sTell x n (k + 1) (st s (2 + k) 6 1)
      else if sg s (2 + k) 7 = 1 ∨ sg s (2 + k) 7 = 2 then (match sCmd x 11 (sg s (2 + k) 8) 0 s with
        | (r, s1) => if r < 0 then sTell x n (k + 1) s1 else sTell x n (k + 1) (sFail x k s1))
      else sTell x n (k + 1) (sFail x k s)) else s) else s
/-- the place of the branch with a number, -1 if it is not there -/
def sFind (s : TS) (j v : Int) : Nat → Int → Int
  | 0, _ => -1
  | n + 1, k => if k < sg s 0 5 then (if sg s (2 + k) j = v then k else sFind s j v n (k + 1)) else -1
def find (s : TS) (v : Int) : Int := sFind s 0 v 12 0
def hasKid (s : TS) (v : Int) : Bool := decide (0 ≤ sFind s 1 v 12 0)
def sWtr (s : TS) (e : Int) : Nat → Int → Int
  | 0, _ => -1
  | n + 1, k => if k < sg s 0 5 then (if sg s (2 + k) 7 = 1 ∨ sg s (2 + k) 7 = 2 then (if sg s (2 + k) 8 = e then k else sWtr s e n (k + 1)) else sWtr s e n (k + 1)) else -1
def wtr (s : TS) (e : Int) : Int := sWtr s e 12 0
def bOf (x : CX) (l : Int) : Int := (x.2.2 l).2.2
def sEnded (x : CX) (k kind v : Int) (s : TS) : TS := if k < 0 then s else if sg s (2 + k) 7 = 2 then sGo k (sg s (2 + k) 4) s
  else if kind = 3 then sGo k (sg s (2 + k) 4 + 1) s else sGo k (sg s (2 + k) 4 + 1) (st s 1 (bOf x (sg s (2 + k) 4)) v)
def sFailed (x : CX) (k : Int) (s : TS) : TS := if k < 0 then s else if sg s (2 + k) 7 = 2 then sGo k (sg s (2 + k) 4) s else sFail x k s
/-- another branch, for which there is room -/
def sBegin (p l : Int) (s : TS) : TS := st (st (sth ((fun a j => if a = 2 + sg s 0 5 then (if j = 0 then sg s 0 6 else if j = 1 then p else if j = 2 then p else if j = 3 then -1 else if j = 4 then l else 0) else if a = -1 ∧ j = sg s 0 6 then p else s.1 a j), s.2) (sg s 0 5) []) 0 5 (sg s 0 5 + 1)) 0 6 (sg s 0 6 + 1)
def sNote (x : CX) (k a b : Int) (s : TS) : TS :=
  if k = 0 then sBegin (-1) 0 (st (st s 1 0 a) 0 40 (sg s 0 40 + 1))
  else if k = 2 then sFailed x (wtr s a) s
  else if k = 6 then sFailed x (wtr s a) s
  else if k = 4 then st (stq s a (sq s a ++ [b])) 0 41 (sg s 0 41 + 1)
  else if k = 7 then sTell x 13 0 (st s 0 8 1)
  else sEnded x (wtr s a) k b s
def sAble (s : TS) (k : Int) : Bool := if sg s (2 + k) 7 = 0 then true else if sg s (2 + k) 7 = 3 then decide (sq s (sg s (2 + k) 8) ≠ []) else if sg s (2 + k) 7 = 4 then !(hasKid s (sg s (2 + k) 0)) else false
def sFirst (s : TS) : Nat → Int → Int
  | 0, _ => -1
  | n + 1, k => if k < sg s 0 5 then (if sAble s k then k else sFirst s n (k + 1)) else -1
def first (s : TS) : Int := sFirst s 12 0
/-- what the branch at a place waited for is there -/
def sAwake (x : CX) (k : Int) (s : TS) : TS :=
  if sg s (2 + k) 7 = 3 then sGo k (sg s (2 + k) 4 + 1) (stq (st s 1 (bOf x (sg s (2 + k) 4)) ((sq s (sg s (2 + k) 8)).headD 0)) (sg s (2 + k) 8) (sq s (sg s (2 + k) 8)).tail)
  else sGo k (sg s (2 + k) 4 + 1) s
/-- the branch at a place is there no more; those below it are below what was above it -/
def sRem (k : Int) (s : TS) : TS := (fun a j => if a = 0 ∧ j = 5 then s.1 0 5 - 1 else if 2 ≤ a ∧ a < 2 + (s.1 0 5 - 1) then
    (if j = 2 ∧ s.1 (if a < 2 + k then a else a + 1) 2 = s.1 (2 + k) 0 then s.1 (2 + k) 2 else s.1 (if a < 2 + k then a else a + 1) j) else s.1 a j,
  fun i => if i < k then s.2.1 i else s.2.1 (i + 1), s.2.2)
def sEnd (x : CX) (k : Int) (s : TS) : TS := if sg s (2 + k) 0 = 0 then (match sCmd x 14 (sg s 1 0) 0 s with
    | (r, s1) => if r < 0 then s1 else st s1 0 9 14) else sRem k s
def sBelow (k l : Int) (s : TS) : TS := if sg s 0 5 < 12 then sBegin (sg s (2 + k) 0) l s else sStuck s (-1)
def sRace (k l : Int) (s : TS) : TS := if sg s 0 5 < 12 then (match sBegin (sg s (2 + k) 0) l s with
    | s1 => (match (if find s1 (sg s1 (2 + k) 3) < 0 then s1 else st s1 (2 + find s1 (sg s1 (2 + k) 3)) 3 (-1)) with
      | s2 => st (st s2 (2 + k) 3 (sg s2 (2 + sg s 0 5) 0)) (2 + sg s 0 5) 3 (sg s2 (2 + k) 0)))
  else sStuck s (-1)
def sDoomL : Nat → Int → TS → TS
  | 0, _, s => s
  | n + 1, k, s => if k < sg s 0 5 then (if find s (sg s (2 + k) 2) < 0 then sDoomL n (k + 1) s else if sg s (2 + find s (sg s (2 + k) 2)) 9 = 0 then sDoomL n (k + 1) s else sDoomL n (k + 1) (st s (2 + k) 9 1)) else s
def sDoom (k : Int) (s : TS) : TS := sDoomL 12 0 (st s (2 + k) 9 1)
def sWin (x : CX) (k : Int) (s : TS) : TS := match find s (sg s (2 + k) 3) with
  | o => if o < 0 then s else (match st (st s (2 + k) 3 (-1)) (2 + o) 3 (-1) with
    | s1 => if sg s1 (2 + o) 0 = sg s1 (2 + k) 1 then
        (if sg s1 (2 + o) 7 = 1 ∨ sg s1 (2 + o) 7 = 2 then (match sCmd x 11 (sg s1 (2 + o) 8) 0 s1 with
          | (r, s2) => if r < 0 then s2 else sDoom k (sGo o (sg s2 (2 + k) 4) s2))
        else sDoom k (sGo o (sg s1 (2 + k) 4) s1))
      else sDoom o s1)
def sDrop1 (x : CX) : Nat → Int → TS → TS
  | 0, _, s => s
  | n + 1, k, s => if k < sg s 0 5 then (if goes s then (if sg s (2 + k) 9 ≠ 0 ∧ (sg s (2 + k) 7 = 1 ∨ sg s (2 + k) 7 = 2) then sDrop1 x n (k + 1) (sCmd x 11 (sg s (2 + k) 8) 0 s).2 else sDrop1 x n (k + 1) s) else s) else s
def sDrop2 : Nat → Int → TS → TS
  | 0, _, s => s
  | n + 1, k, s => if k < 0 then s else if sg s (2 + k) 9 = 0 then sDrop2 n (k - 1) s else sDrop2 n (k - 1) (sRem k s)
def sDrop (x : CX) (s : TS) : TS := match sDrop1 x 13 0 s with
  | s1 => sDrop2 13 (sg s1 0 5 - 1) s1
def sUndo (x : CX) (k : Int) (s : TS) : TS := match su s with
  | [] => sGo k (sg s (2 + k) 4 + 1) s
  | v :: t => match sCmd x 8 (v / 1000) (v % 1000) (stu s t) with
    | (r, s1) => sWait k 2 r s1
def sPatch (x : CX) (p : Int) (s : TS) : Bool × TS := if iAnd (iShr (sg s 0 7) p) 1 = 0 then
    (if (nc x (sg s 0 12) < sSeen x s ∧ eis (x.2.1 (nc x (sg s 0 12))) 12 p 0 = true) ∨ (¬ nc x (sg s 0 12) < sSeen x s ∧ ¬ sg s 0 10 < x.1 1) then (true, (sCmd x 12 p 0 (st s 0 7 (iOr (sg s 0 7) (iShl 1 p)))).2) else (false, s))
  else (true, s)
def sBare (k : Int) (s : TS) : Bool × TS := match (if 0 < sg s (2 + k) 5 then sg s (2 + k) 5 - 1 else 0) with
  | h => if sg s (2 + k) 6 ≠ 0 ∧ h = 0 then (true, st (st s (2 + k) 5 h) (2 + k) 6 0) else (false, st (st s (2 + k) 5 h) (2 + k) 6 (if sg s (2 + k) 6 = 0 then 0 else 1))
def sLine (x : CX) (k c a b : Int) (s : TS) : TS :=
  if c = 0 then sGo k (sg s (2 + k) 4 + 1) (st s 1 a b)
  else if c = 1 then sGo k (sg s (2 + k) 4 + 1) (st s 1 a ((sg s 1 a + sg s 1 b) % 1000))
  else if c = 2 then (match sCmd x 8 a (sg s 1 b) s with
    | (r, s1) => sWait k 1 r s1)
  else if c = 3 then (match sCmd x 9 a 0 s with
    | (r, s1) => sWait k 1 r s1)
  else if c = 4 then sWait k 3 a s
  else if c = 5 then (match sCmd x 10 a (sg s 1 b) s with
    | (r, s1) => sWait k 1 r s1)
  else if c = 6 then (if sg s 1 a = 0 then sGo k b s else sGo k (sg s (2 + k) 4 + 1) s)
  else if c = 7 then sGo k a s
  else if c = 8 then sBelow k a (sGo k (sg s (2 + k) 4 + 1) s)
  else if c = 9 then sWait k 4 0 s
  else if c = 10 then sRace k a (sGo k (sg s (2 + k) 4 + 1) s)
  else if c = 11 then sDrop x (sWin x k (sGo k (sg s (2 + k) 4 + 1) s))
  else if c = 12 then sth (sGo k (sg s (2 + k) 4 + 1) s) k (a :: sh s k)
  else if c = 13 then sth (sGo k (sg s (2 + k) 4 + 1) s) k (sh s k).tail
  else if c = 14 then sGo k (sg s (2 + k) 4 + 1) (stu s ((1000 * a + sg s 1 b) :: su s))
  else if c = 15 then sUndo x k s
  else if c = 16 then sEnd x k s
  else if c = 17 then sFail x k s
  else if c = 18 then (match sCmd x 16 (sg s 1 a) 0 s with
    | (r, s1) => if r < 0 then s1 else st s1 0 9 16)
  else if c = 19 then (match sPatch x a s with
    | (p, s1) => sGo k (if p then sg s (2 + k) 4 + 1 else b) s1)
  else if c = 20 then sGo k (sg s (2 + k) 4 + 1) (st s 1 a (ew (x.2.1 (sg s 0 28)) % 1024))
  else if c = 21 then sGo k (sg s (2 + k) 4 + 1) (st s (2 + k) 5 (sg s (2 + k) 5 + 1))
  else if c = 23 then sGo k (sg s (2 + k) 4 + 1) (sCmd x 13 (sg s 1 a) 0 s).2
  else (match sBare k s with
    | (f, s1) => if f then sFail x k (sGo k (sg s (2 + k) 4 + 1) s1) else sGo k (sg s (2 + k) 4 + 1) s1)
/-- one turn of the branch at a place -/
def sTurn (x : CX) (k : Int) (s : TS) : TS := if sg s (2 + k) 7 ≠ 0 then sAwake x k s
  else if x.1 5 ≤ sg s (2 + k) 4 then sEnd x k s
  else if 60 ≤ sg s 0 29 then sStuck s (-1)
  else sLine x k (x.2.2 (sg s (2 + k) 4)).1 (x.2.2 (sg s (2 + k) 4)).2.1 (x.2.2 (sg s (2 + k) 4)).2.2 (st (st s 0 29 (sg s 0 29 + 1)) 0 40 (sg s 0 40 + 1))
def sOn (x : CX) : Nat → TS → TS
  | 0, s => s
  | n + 1, s => if first s < 0 then s else if goes s then sOn x n (sTurn x (first s) s) else s
def sPass (x : CX) : Nat → Int → TS → TS
  | 0, _, s => s
  | n + 1, i, s => if i < x.1 0 then (if sg s 0 30 = 0 then (if ek (x.2.1 i) = 17 then (if sg s 0 10 < ex (x.2.1 i) then st s 0 13 i
      else sPass x n (i + 1) (if nc x (sg s 0 12) < i then sStuck s (nc x (sg s 0 12)) else s)) else sPass x n (i + 1) s) else st s 0 13 i) else st s 0 13 i
/-- an arrival is taken -/
def sTake (x : CX) (i : Int) (s : TS) : TS :=
  match sOn x 1000 (sNote x (ek (x.2.1 i)) (ex (x.2.1 i)) (ey (x.2.1 i)) (st (st (st s 0 28 i) 0 11 (i + 1)) 0 29 0)) with
  | s1 => sPass x (x.1 0 - sg s1 0 13 + 1).toNat (sg s1 0 13) (st s1 0 10 (sg s1 0 10 + 1))
def sFollow (x : CX) (lim : Int) : Nat → Int → TS → TS
  | 0, _, s => s
  | n + 1, i, s => if i < lim then (if goes s then (if na x (sg s 0 11) < x.1 0 then sFollow x lim n (i + 1) (sTake x (na x (sg s 0 11)) s) else st s 0 28 (na x (sg s 0 11))) else s) else s
end SPT
