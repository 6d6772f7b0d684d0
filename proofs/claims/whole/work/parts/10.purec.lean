section KPC
/-! The class as pure steps. Cells: 0 the kernel (3 now, 4 arrivals), 3 words, 4 level, 5 frame, 6 depth, 7 parent, 8 + i thread i, 16 + i its registers.
A thread's places: 0 number, 2 state, 3 space, 4 pager, 5 offerPage, 6 offerLevel, 7 offerGrant, 8 windowPage, 9 lastOutcome, 10 lastSender, 11 lastValue, 12 messagesTaken, 13 partner, 14 deadline, 15 arrival, 16 wantedPage, 17 wantedLevel, 18 wantedWord -/
-- a thread's row
def cRun (u : kSt) (i : Nat) (o : Int32) : kSt := kup (kup u (8 + i) 2 0) (8 + i) 9 o
def cWait (u : kSt) (i : Nat) (st pa dl : Int32) : kSt := kup (kup (kup u (8 + i) 2 st) (8 + i) 13 pa) (8 + i) 14 dl
def cTake (u : kSt) (i : Nat) (s a b c e : Int32) : kSt := kup (kup (kup (kup (kup (kup u (16 + i) 0 a) (16 + i) 1 b) (16 + i) 2 c) (16 + i) 3 e) (8 + i) 10 s) (8 + i) 12 (u (8 + i) 12 + 1)
def cClear (u : kSt) (i : Nat) : Nat → kSt
  | 0 => u
  | n + 1 => kup (cClear u i n) (16 + i) n 0
def cBegin (u : kSt) (i : Nat) (sp pg : Int32) : kSt := kup (kup (kup (kup (kup (kup (kup (kup (kup (cClear u i 4) (8 + i) 2 0) (8 + i) 3 sp) (8 + i) 4 pg) (8 + i) 5 (-1)) (8 + i) 8 (-1)) (8 + i) 9 0) (8 + i) 10 (-1)) (8 + i) 11 0) (8 + i) 12 0
def cWaits (u : kSt) (i : Nat) : Bool := if u (8 + i) 2 = 1 then true else if u (8 + i) 2 = 2 then true else if u (8 + i) 2 = 3 then true else false
def cWaitsTo (u : kSt) (i : Nat) (t : Int32) : Bool := if u (8 + i) 2 = 1 ∨ u (8 + i) 2 = 3 ∨ u (8 + i) 2 = 4 then (if u (8 + i) 13 = t then true else false) else false
def cRecv (u : kSt) (i : Nat) (t : Int32) : Bool := if u (8 + i) 2 = 2 then (if u (8 + i) 13 = -1 then true else if u (8 + i) 13 = t then true else false) else false
def cTakes (u : kSt) (i : Nat) (t : Int32) : Bool := if cRecv u i t = true then true else if u (8 + i) 2 = 5 then (if u (8 + i) 13 = t then true else false) else false
def cOut1 (u : kSt) (i : Nat) (t : Int32) : kSt := if cWaits u i = true ∧ u (8 + i) 13 = t then cRun u i 2 else u
def cOut2 (u : kSt) (i : Nat) (t : Int32) : kSt := if u (8 + i) 4 = t then (if u (8 + i) 2 = 4 ∨ u (8 + i) 2 = 5 then kup (kup u (8 + i) 4 (-1)) (8 + i) 2 6 else kup u (8 + i) 4 (-1)) else u
def cOutlive (u : kSt) (i : Nat) (t : Int32) : kSt := cOut2 (cOut1 u i t) i t
-- the mappings
def cHolds (u : kSt) (k : Nat) : Bool := if u 4 k = 0 then false else true
def cDescribe (u : kSt) (k : Nat) : Int32 := if cHolds u k = true then 1000 * u 6 k + 10 * u 5 k + u 4 k else -1
/-- the rows of parents and depths are in their ranges -/
def cPar (u : kSt) : Prop := ∀ j, j < 96 → u 7 j = -1 ∨ ∃ p, p < 96 ∧ u 7 j = nI p
def cDep (u : kSt) : Prop := ∀ j, j < 96 → ∃ e, e ≤ 12 ∧ u 6 j = nI e
/-- n steps upward at most, from slot a, to the slot z -/
def cUp (u : kSt) (z : Int32) : Nat → Int32 → Bool
  | 0, _ => false
  | n + 1, a => if a = -1 then false else if u 7 (ix a) = z then true else cUp u z n (u 7 (ix a))
def cDesc (u : kSt) (k : Nat) (z : Int32) : Bool := cUp u z (ix (u 6 k)) (nI k)
def cCount (u : kSt) (z : Int32) : Nat → Int32
  | 0 => 0
  | n + 1 => if cHolds u n = true ∧ cDesc u n z = true then cCount u z n + 1 else cCount u z n
def cLower (u : kSt) (k : Nat) (m : Int32) : kSt := if m < u 4 k then kup u 4 k m else u
def cLowerN (u : kSt) (k : Nat) (m : Int32) : Int32 := if m < u 4 k then 1 else 0
/-- the slots below n lowered, if they descend from z -/
def cLow (u : kSt) (z m : Int32) : Nat → kSt
  | 0 => u
  | n + 1 => if cHolds (cLow u z m n) n = true ∧ cDesc (cLow u z m n) n z = true then cLower (cLow u z m n) n m else cLow u z m n
def cLowN (u : kSt) (z m : Int32) : Nat → Int32
  | 0 => 0
  | n + 1 => if cHolds (cLow u z m n) n = true ∧ cDesc (cLow u z m n) n z = true then cLowN u z m n + cLowerN (cLow u z m n) n m else cLowN u z m n
/-- the slots below n whose parent was z get the parent t -/
def cAdopt (u : kSt) (z t : Int32) : Nat → kSt
  | 0 => u
  | n + 1 => if cHolds (cAdopt u z t n) n = true ∧ cAdopt u z t n 7 n = z then kup (cAdopt u z t n) 7 n t else cAdopt u z t n
def cMove (u : kSt) (s t : Nat) : kSt := kup (cAdopt (kup (kup (kup (kup u 4 t (u 4 s)) 5 t (u 5 s)) 6 t (u 6 s)) 7 t (u 7 s)) (nI s) (nI t) 96) 4 s 0
def cDerive (u : kSt) (s t : Nat) (m : Int32) : kSt := kup (kup (kup (kup u 4 t m) 5 t (u 5 s)) 6 t (u 6 s + 1)) 7 t (nI s)
def cClean (u : kSt) (t : Nat) : kSt := if cHolds u t = true then cLower (cLow u (nI t) 0 96) t 0 else u
def cHand2 (u : kSt) (s t : Nat) (m g : Int32) : kSt := if cHolds u s = true then (if g ≠ 0 then cMove u s t else if 12 ≤ u 6 s then u else cDerive u s t (if u 4 s < m then u 4 s else m)) else u
def cHandOn (u : kSt) (s t : Nat) (m g : Int32) : kSt := if s = t then u else if cHolds u s = true then cHand2 (cClean u t) s t m g else u
-- the kernel
def cIsThread (u : kSt) (t : Int32) : Bool := if t < 0 then false else if 8 ≤ t then false else if u (8 + ix t) 2 = -1 then false else true
def cIsRun (u : kSt) (t : Int32) : Bool := if cIsThread u t = true then (if u (8 + ix t) 2 = 0 then true else false) else false
def cIsLimit (n : Int32) : Bool := if n < -1 then false else if 100 < n then false else true
def cMaySend (u : kSt) (t o n : Int32) : Bool := if cIsRun u t = true then (if o = t then false else if cIsThread u o = true then (if cIsLimit n = true then true else false) else false) else false
def cIsSpace (n : Int32) : Bool := if n < 0 then false else if 6 ≤ n then false else true
def cIsPage (n : Int32) : Bool := if n < 0 then false else if 16 ≤ n then false else true
def cIsPageN (n : Int32) : Bool := if n = -1 then true else if cIsPage n = true then true else false
def cIsLevel (n : Int32) : Bool := if n = 1 then true else if n = 2 then true else false
def cDeadline (u : kSt) (n : Int32) : Int32 := if n = -1 then -1 else u 0 3 + n
/-- the least number from n on that is free, of the last m ones -/
def cFree (u : kSt) : Nat → Nat → Int32
  | _, 0 => -1
  | n, m + 1 => if u (8 + n) 2 = -1 then nI n else cFree u (n + 1) m
def cJoin (u : kSt) (i : Nat) (st tg dl : Int32) : kSt := cWait (kup (kup u (8 + i) 15 (u 0 4)) 0 4 (u 0 4 + 1)) i st tg dl
def cGiveUp (u : kSt) (i : Nat) : kSt := cRun u i 1
def cWaitSend (u : kSt) (i : Nat) (st o n : Int32) : kSt := if n = 0 then cRun u i 1 else cJoin u i st o (cDeadline u n)
def cWaitSendN (n : Int32) : Int32 := if n = 0 then 2 else 1
def cPassFault (u : kSt) (f g : Nat) : kSt := cRun (cWait (cTake u g (nI f) (u (8 + f) 16) (u (8 + f) 17) 0 0) f 5 (nI g) (-1)) g 0
def cFault (u : kSt) (f g : Nat) : kSt := if cRecv (cJoin u f 4 (nI g) (-1)) g (nI f) = true then cPassFault (cJoin u f 4 (nI g) (-1)) f g else cJoin u f 4 (nI g) (-1)
def cDoAccess (u : kSt) (i fr : Nat) : kSt := if u (8 + i) 17 = 2 then cRun (kup u 3 fr (u (8 + i) 18)) i 0 else cRun (kup u (8 + i) 11 (u 3 fr)) i 0
/-- the slot of page p of a space -/
def sl (sp p : Int32) : Nat := ix (sp * 16 + p)
def cTry (u : kSt) (i : Nat) : kSt := if u 4 (sl (u (8 + i) 3) (u (8 + i) 16)) < u (8 + i) 17 then (if u (8 + i) 4 = -1 then kup u (8 + i) 2 6 else cFault u i (ix (u (8 + i) 4))) else cDoAccess u i (ix (u 5 (sl (u (8 + i) 3) (u (8 + i) 16))))
def cPage (u : kSt) (g : Nat) : Int32 := if u (8 + g) 2 = 5 then u (8 + g) 16 else u (8 + g) 8
def cOffer1 (u : kSt) (f g : Nat) : kSt := if u (8 + f) 5 = -1 then u else if cPage u g = -1 then u else cHandOn u (sl (u (8 + f) 3) (u (8 + f) 5)) (sl (u (8 + g) 3) (cPage u g)) (u (8 + f) 6) (u (8 + f) 7)
def cOffer (u : kSt) (f g : Nat) : kSt := kup (cOffer1 u f g) (8 + f) 5 (-1)
def cPass3 (u : kSt) (g : Nat) (rests : Bool) : kSt := if rests = true then cTry u g else cRun u g 0
def cPass2 (u : kSt) (f g : Nat) (calls : Int32) : kSt := if calls = 0 then cRun u f 0 else cWait u f 2 (nI g) (-1)
def cPass1 (u : kSt) (f g : Nat) : kSt := if u (8 + g) 2 = 5 then u else cTake u g (nI f) (u (16 + f) 0) (u (16 + f) 1) (u (16 + f) 2) (u (16 + f) 3)
def cPass (u : kSt) (f g : Nat) (calls : Int32) : kSt := cPass3 (cPass2 (cOffer (cPass1 u f g) f g) f g calls) g (decide (u (8 + g) 2 = 5))
def cTakeW (u : kSt) (f g : Nat) : kSt := if u (8 + f) 2 = 4 then cPassFault u f g else cPass u f g (if u (8 + f) 2 = 3 then 1 else 0)
/-- of the threads n, n + 1, .. (m of them) and the first one so far: the one that has waited for longest -/
def cLong (u : kSt) (t fr : Int32) : Nat → Nat → Option Nat → Option Nat
  | _, 0, b => b
  | n, m + 1, b => if (fr = -1 ∨ fr = nI n) ∧ cWaitsTo u n t = true then (match b with
      | none => cLong u t fr (n + 1) m (some n)
      | some k => if u (8 + k) 15 ≤ u (8 + n) 15 then cLong u t fr (n + 1) m (some k) else cLong u t fr (n + 1) m (some n)) else cLong u t fr (n + 1) m b
-- the calls: the answer, the state
def cSpawn (u : kSt) (sp pg : Int32) : Int32 × kSt := if cIsSpace sp = true then (if pg = -1 ∨ cIsThread u pg = true then (if cFree u 0 8 = -1 then (-1, u) else (cFree u 0 8, cBegin u (ix (cFree u 0 8)) sp pg)) else (-1, u)) else (-1, u)
def cOutAll (u : kSt) (t : Int32) : Nat → kSt
  | 0 => u
  | n + 1 => cOutlive (cOutAll u t n) n t
def cDelete (u : kSt) (t : Int32) : Int32 × kSt := if t = 0 then (0, u) else if cIsThread u t = true then (1, cOutAll (kup u (8 + ix t) 2 (-1)) t 8) else (0, u)
def cLoad (u : kSt) (t k v : Int32) : Int32 × kSt := if cIsRun u t = true then (if k < 0 then (0, u) else if k < 4 then (1, kup u (16 + ix t) (ix k) v) else (0, u)) else (0, u)
def cOfferCall (u : kSt) (t p m g : Int32) : Int32 × kSt := if cIsRun u t = true then (if cIsPageN p = true then (if p ≠ -1 ∧ cIsLevel m = false then (0, u) else (1, kup (kup (kup u (8 + ix t) 5 p) (8 + ix t) 6 m) (8 + ix t) 7 g)) else (0, u)) else (0, u)
def cWindow (u : kSt) (t p : Int32) : Int32 × kSt := if cIsRun u t = true then (if cIsPageN p = true then (1, kup u (8 + ix t) 8 p) else (0, u)) else (0, u)
def cSend (u : kSt) (t o n : Int32) : Int32 × kSt := if cMaySend u t o n = true then (if cTakes u (ix o) t = true then (0, cPass u (ix t) (ix o) 0) else (cWaitSendN n, cWaitSend u (ix t) 1 o n)) else (-1, u)
def cCall (u : kSt) (t o n : Int32) : Int32 × kSt := if cMaySend u t o n = true then (if cTakes u (ix o) t = true then (1, cPass u (ix t) (ix o) 1) else (cWaitSendN n, cWaitSend u (ix t) 3 o n)) else (-1, u)
def cRec2 (u : kSt) (t e n : Int32) : Int32 × kSt := match cLong u t e 0 8 none with
  | some k => (0, cTakeW u k (ix t))
  | none => if n = 0 then (2, cRun u (ix t) 1) else (1, cWait u (ix t) 2 e (cDeadline u n))
def cReceive (u : kSt) (t fr n : Int32) : Int32 × kSt := if cIsRun u t = true then (if fr = t then (-1, u) else if fr ≠ -1 ∧ cIsThread u fr = false then (-1, u) else if cIsLimit n = true then cRec2 u t fr n else (-1, u)) else (-1, u)
def cWant (u : kSt) (i : Nat) (p st v : Int32) : kSt := kup (kup (kup u (8 + i) 16 p) (8 + i) 17 (if st = 0 then 1 else 2)) (8 + i) 18 v
def cAccess (u : kSt) (t p st v : Int32) : Int32 × kSt := if cIsRun u t = true then (if cIsPage p = true then (if cTry (cWant u (ix t) p st v) (ix t) (8 + ix t) 2 = 0 then 0 else if cTry (cWant u (ix t) p st v) (ix t) (8 + ix t) 2 = 6 then 2 else 1, cTry (cWant u (ix t) p st v) (ix t)) else (-1, u)) else (-1, u)
def cUnmap (u : kSt) (t p m self : Int32) : Int32 × kSt := if cIsRun u t = true then (if cIsPage p = true then (if cIsLevel m = true then (if cHolds u (sl (u (8 + ix t) 3) p) = true then
    (if self = 0 then (cLowN u (nI (sl (u (8 + ix t) 3) p)) (m - 1) 96 + 0, cLow u (nI (sl (u (8 + ix t) 3) p)) (m - 1) 96)
      else (cLowN u (nI (sl (u (8 + ix t) 3) p)) (m - 1) 96 + cLowerN (cLow u (nI (sl (u (8 + ix t) 3) p)) (m - 1) 96) (sl (u (8 + ix t) 3) p) (m - 1), cLower (cLow u (nI (sl (u (8 + ix t) 3) p)) (m - 1) 96) (sl (u (8 + ix t) 3) p) (m - 1)))
    else (0, u)) else (-1, u)) else (-1, u)) else (-1, u)
/-- the first n threads ticked -/
def cTickS (u : kSt) : Nat → kSt
  | 0 => u
  | n + 1 => if cWaits (cTickS u n) n = true ∧ cTickS u n (8 + n) 14 = cTickS u n 0 3 then cRun (cTickS u n) n 1 else cTickS u n
def cTickN (u : kSt) : Nat → Int32
  | 0 => 0
  | n + 1 => if cWaits (cTickS u n) n = true ∧ cTickS u n (8 + n) 14 = cTickS u n 0 3 then cTickN u n + 1 else cTickN u n
def cTick (u : kSt) : Int32 × kSt := (cTickN (kup u 0 3 (u 0 3 + 1)) 8, cTickS (kup u 0 3 (u 0 3 + 1)) 8)
def cState (u : kSt) (t : Int32) : Int32 := if cIsThread u t = true then u (8 + ix t) 2 else -1
def cRegister (u : kSt) (t k : Int32) : Int32 := if cIsThread u t = true then (if k < 0 then 0 else if k ≤ 4 then (if k = 4 then u (8 + ix t) 12 else u (16 + ix t) (ix k)) else 0) else 0
def cOutcome (u : kSt) (t : Int32) : Int32 := if cIsThread u t = true then u (8 + ix t) 9 else -1
def cValue (u : kSt) (t : Int32) : Int32 := if cIsThread u t = true then u (8 + ix t) 11 else 0
def cSender (u : kSt) (t : Int32) : Int32 := if cIsThread u t = true then u (8 + ix t) 10 else -1
def cMapping (u : kSt) (sp p : Int32) : Int32 := if cIsSpace sp = true then (if cIsPage p = true then cDescribe u (sl sp p) else -1) else -1
def cHeirs (u : kSt) (sp p : Int32) : Int32 := if cIsSpace sp = true then (if cIsPage p = true then (if cHolds u (sl sp p) = true then cCount u (nI (sl sp p)) 96 else -1) else -1) else -1
def cWaitCount (u : kSt) (t : Int32) : Nat → Int32
  | 0 => 0
  | n + 1 => if cWaitsTo u n t = true then cWaitCount u t n + 1 else cWaitCount u t n
def cWaiting (u : kSt) (t : Int32) : Int32 := if cIsThread u t = true then cWaitCount u t 8 else -1
def cWord (u : kSt) (f : Int32) : Int32 := if f < 0 then 0 else if 16 ≤ f then 0 else u 3 (ix f)
end KPC
