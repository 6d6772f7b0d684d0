section KPR
/-! The reference as pure steps. Cells: 0 (0 now, 1 clock), 1 alive, 2 space, 3 pager, 4 registers, 5 offered, 6 offeredLevel, 7 granted, 8 windows, 9 outcomes, 10 senders, 11 values, 12 counts, 13 states, 14 other, 15 until, 16 since, 17 wanted, 18 storing, 19 stored, 20 frames, 21 levels, 22 depths, 23 parents, 24 words -/
def rThread (v : kSt) (t : Int32) : Bool := if t < 0 then false else if 8 ≤ t then false else if v 1 (ix t) = 0 then false else true
def rRunning (v : kSt) (t : Int32) : Bool := if rThread v t = true then (if v 13 (ix t) = 0 then true else false) else false
def rRun (v : kSt) (t : Nat) (o : Int32) : kSt := kup (kup v 13 t 0) 9 t o
def rLinger (v : kSt) (t : Nat) (st on n : Int32) : kSt := kup (kup (kup (kup (kup v 13 t st) 14 t on) 15 t (if n < 0 then -1 else v 0 0 + n)) 16 t (v 0 1)) 0 1 (v 0 1 + 1)
def rClear (v : kSt) (t : Nat) : Nat → kSt
  | 0 => v
  | n + 1 => kup (rClear v t n) 4 (4 * t + n) 0
def rBegin (v : kSt) (t : Nat) (sp pg : Int32) : kSt :=
  kup (kup (kup (kup (kup (kup (kup (rClear (kup (kup (kup v 1 t 1) 2 t sp) 3 t pg) t 4) 5 t (-1)) 8 t (-1)) 9 t 0) 10 t (-1)) 11 t 0) 12 t 0) 13 t 0
/-- the least free number of those from n on up to 7, -1 if none: going down from 7 -/
def rFree (v : kSt) : Nat → Int32
  | 0 => -1
  | m + 1 => if v 1 (7 - m) = 0 then nI (7 - m) else rFree v m
/-- n steps upward at most, from place a, to the place z -/
def rUp (v : kSt) (z : Int32) : Nat → Int32 → Bool
  | 0, _ => false
  | n + 1, a => if v 23 (ix a) = z then true else rUp v z n (v 23 (ix a))
def rDesc (v : kSt) (k : Nat) (z : Int32) : Bool := rUp v z (ix (if v 20 k < 0 then 0 else v 22 k)) (nI k)
def rCount (v : kSt) (z : Int32) : Nat → Int32
  | 0 => 0
  | n + 1 => rCount v z n + (if rDesc v n z = true then 1 else 0)
/-- of the first n places those of depth e that descend from z are emptied -/
def rRem1 (v : kSt) (z e : Int32) : Nat → kSt
  | 0 => v
  | n + 1 => if rRem1 v z e n 20 n < 0 then rRem1 v z e n else if rRem1 v z e n 22 n = e then (if rDesc (rRem1 v z e n) n z = true then kup (rRem1 v z e n) 20 n (-1) else rRem1 v z e n) else rRem1 v z e n
def rRem1N (v : kSt) (z e : Int32) (a : Int32) : Nat → Int32
  | 0 => a
  | n + 1 => if rRem1 v z e n 20 n < 0 then rRem1N v z e a n else if rRem1 v z e n 22 n = e then (if rDesc (rRem1 v z e n) n z = true then rRem1N v z e a n + 1 else rRem1N v z e a n) else rRem1N v z e a n
/-- depths e, e - 1, .. 1 -/
def rRem (v : kSt) (z : Int32) : Nat → kSt
  | 0 => v
  | e + 1 => rRem (rRem1 v z (nI (e + 1)) 96) z e
def rRemN (v : kSt) (z : Int32) (a : Int32) : Nat → Int32
  | 0 => a
  | e + 1 => rRemN (rRem1 v z (nI (e + 1)) 96) z (rRem1N v z (nI (e + 1)) a 96) e
/-- those of the first n places that are below s get the parent t -/
def rAdopt (v : kSt) (s t : Int32) : Nat → kSt
  | 0 => v
  | n + 1 => if rAdopt v s t n 20 n < 0 then rAdopt v s t n else if rAdopt v s t n 22 n ≤ 0 then rAdopt v s t n else if rAdopt v s t n 23 n = s then kup (rAdopt v s t n) 23 n t else rAdopt v s t n
def rMove (v : kSt) (s t : Nat) : kSt := rAdopt (kup (kup (kup (kup (kup v 20 t (v 20 s)) 21 t (v 21 s)) 22 t (v 22 s)) 23 t (v 23 s)) 20 s (-1)) (nI s) (nI t) 96
def rDerive (v : kSt) (i s t : Nat) : kSt := kup (kup (kup (kup v 20 t (v 20 s)) 21 t (if v 6 i < v 21 s then v 6 i else v 21 s)) 22 t (v 22 s + 1)) 23 t (nI s)
def rClean (v : kSt) (t : Nat) : kSt := if v 20 t < 0 then v else kup (rRem v (nI t) 12) 20 t (-1)
def rHand2 (v : kSt) (i s t : Nat) : kSt := if v 20 s < 0 then v else if v 7 i = 0 then (if 12 ≤ v 22 s then v else rDerive v i s t) else rMove v s t
def rHandOn (v : kSt) (i s t : Nat) : kSt := if s = t then v else if v 20 s < 0 then v else rHand2 (rClean v t) i s t
def rTake (v : kSt) (r : Nat) (s a b c e : Int32) : kSt := kup (kup (kup (kup (kup (kup v 4 (4 * r) a) 4 (4 * r + 1) b) 4 (4 * r + 2) c) 4 (4 * r + 3) e) 10 r s) 12 r (v 12 r + 1)
def rReport (v : kSt) (t : Nat) : kSt := rRun (kup (kup (rTake v (ix (v 3 t)) (nI t) (v 17 t) (if v 18 t = 0 then 1 else 2) 0 0) 13 t 5) 14 t (v 3 t)) (ix (v 3 t)) 0
def rOk (v : kSt) (t k : Nat) : Bool := if v 20 k < 0 then false else if v 21 k < (if v 18 t = 0 then 1 else 2) then false else true
def rAttempt3 (v : kSt) (t : Nat) : kSt := if v 13 (ix (v 3 t)) = 2 then (if v 14 (ix (v 3 t)) = nI t then rReport v t else if v 14 (ix (v 3 t)) < 0 then rReport v t else v) else v
def rAttempt2 (v : kSt) (t : Nat) : kSt := if v 3 t < 0 then kup v 13 t 6 else rAttempt3 (rLinger v t 4 (v 3 t) (-1)) t
def rDo (v : kSt) (t k : Nat) : kSt := if v 18 t = 0 then rRun (kup v 11 t (v 24 (ix (v 20 k)))) t 0 else rRun (kup v 24 (ix (v 20 k)) (v 19 t)) t 0
def rsl (sp p : Int32) : Nat := ix (16 * sp + p)
def rAttempt (v : kSt) (t : Nat) : kSt := if rOk v t (rsl (v 2 t) (v 17 t)) = true then rDo v t (rsl (v 2 t) (v 17 t)) else rAttempt2 v t
def rPage (v : kSt) (r : Nat) (rests : Bool) : Int32 := if rests = true then v 17 r else v 8 r
def rMsg1 (v : kSt) (s r : Nat) (rests : Bool) : kSt := if rests = true then v else rTake v r (nI s) (v 4 (4 * s)) (v 4 (4 * s + 1)) (v 4 (4 * s + 2)) (v 4 (4 * s + 3))
def rMsg2 (v : kSt) (s r : Nat) (rests : Bool) : kSt := if v 5 s < 0 then v else if rPage v r rests < 0 then v else rHandOn v s (rsl (v 2 s) (v 5 s)) (rsl (v 2 r) (rPage v r rests))
def rMsg3 (v : kSt) (s r : Nat) (calls : Int32) : kSt := if calls = 0 then rRun v s 0 else rLinger v s 2 (nI r) (-1)
def rMsg4 (v : kSt) (r : Nat) (rests : Bool) : kSt := if rests = true then rAttempt v r else rRun v r 0
def rMessage (v : kSt) (s r : Nat) (calls : Int32) : kSt := rMsg4 (rMsg3 (kup (rMsg2 (rMsg1 v s r (decide (v 13 r = 5))) s r (decide (v 13 r = 5))) 5 s (-1)) s r calls) r (decide (v 13 r = 5))
def rTakes (v : kSt) (r s : Nat) : Bool := if v 13 r = 2 ∧ (v 14 r = nI s ∨ v 14 r < 0) then true else if v 13 r = 5 then (if v 14 r = nI s then true else false) else false
def rSpeak (v : kSt) (t o n calls : Int32) : Int32 × kSt := if rRunning v t = true then (if o = t then (-1, v) else if rThread v o = true then (if n < -1 then (-1, v) else if 100 < n then (-1, v) else
    if rTakes v (ix o) (ix t) = true then (if calls = 0 then 0 else 1, rMessage v (ix t) (ix o) calls) else if n = 0 then (2, kup v 9 (ix t) 1) else (1, rLinger v (ix t) (if calls = 0 then 1 else 3) o n)) else (-1, v)) else (-1, v)
def rWaits (v : kSt) (i : Nat) (t : Int32) : Bool := if v 1 i = 0 then false else if v 13 i = 1 ∨ v 13 i = 3 ∨ v 13 i = 4 then (if v 14 i = t then true else false) else false
/-- the longest waiting one of the first n, as the loop has it -/
def rBest (v : kSt) (t fr : Int32) : Nat → Int32
  | 0 => -1
  | n + 1 => if rWaits v n t = true ∧ (fr < 0 ∨ nI n = fr) then (if rBest v t fr n < 0 then nI n else if v 16 n < v 16 (ix (rBest v t fr n)) then nI n else rBest v t fr n) else rBest v t fr n
def rReceive (v : kSt) (t fr n : Int32) : Int32 × kSt := if rRunning v t = true then (if fr = t then (-1, v) else if fr ≠ -1 ∧ rThread v fr = false then (-1, v) else if n < -1 then (-1, v) else if 100 < n then (-1, v) else
    if rBest v t fr 8 < 0 then (if n = 0 then (2, kup v 9 (ix t) 1) else (1, rLinger v (ix t) 2 fr n)) else
    (0, if v 13 (ix (rBest v t fr 8)) = 4 then rReport v (ix (rBest v t fr 8)) else rMessage v (ix (rBest v t fr 8)) (ix t) (if v 13 (ix (rBest v t fr 8)) = 3 then 1 else 0))) else (-1, v)
def rWant (v : kSt) (t : Nat) (p st a : Int32) : kSt := kup (kup (kup v 17 t p) 18 t st) 19 t a
def rAccess (v : kSt) (t p st a : Int32) : Int32 × kSt := if rRunning v t = true then (if p < 0 then (-1, v) else if 15 < p then (-1, v) else
    (if rAttempt (rWant v (ix t) p st a) (ix t) 13 (ix t) = 0 then 0 else if rAttempt (rWant v (ix t) p st a) (ix t) 13 (ix t) = 6 then 2 else 1, rAttempt (rWant v (ix t) p st a) (ix t))) else (-1, v)
/-- of the first n places the descendants of z, and z itself if asked, get level 1 -/
def rSoft (v : kSt) (z self : Int32) : Nat → kSt
  | 0 => v
  | n + 1 => if rSoft v z self n 20 n < 0 then rSoft v z self n else if rSoft v z self n 21 n = 2 then (if rDesc (rSoft v z self n) n z = true ∨ (self ≠ 0 ∧ nI n = z) then kup (rSoft v z self n) 21 n 1 else rSoft v z self n) else rSoft v z self n
def rSoftN (v : kSt) (z self : Int32) : Nat → Int32
  | 0 => 0
  | n + 1 => if rSoft v z self n 20 n < 0 then rSoftN v z self n else if rSoft v z self n 21 n = 2 then (if rDesc (rSoft v z self n) n z = true ∨ (self ≠ 0 ∧ nI n = z) then rSoftN v z self n + 1 else rSoftN v z self n) else rSoftN v z self n
def rUnmap (v : kSt) (t p m self : Int32) : Int32 × kSt := if rRunning v t = true then (if p < 0 then (-1, v) else if 15 < p then (-1, v) else if m ≠ 1 ∧ m ≠ 2 then (-1, v) else
    if v 20 (rsl (v 2 (ix t)) p) < 0 then (0, v) else if m = 1 then
      (rRemN v (nI (rsl (v 2 (ix t)) p)) 0 12 + (if self = 0 then 0 else 1), kup (rRem v (nI (rsl (v 2 (ix t)) p)) 12) 20 (rsl (v 2 (ix t)) p) (if self = 0 then rRem v (nI (rsl (v 2 (ix t)) p)) 12 20 (rsl (v 2 (ix t)) p) else -1))
    else (rSoftN v (nI (rsl (v 2 (ix t)) p)) self 96, rSoft v (nI (rsl (v 2 (ix t)) p)) self 96)) else (-1, v)
def rTickB (v : kSt) (i : Nat) : Bool := if v 1 i = 0 then false else if v 13 i = 1 ∨ v 13 i = 3 ∨ v 13 i = 2 then (if v 15 i < 0 then false else if v 0 0 < v 15 i then false else true) else false
def rTickS (v : kSt) : Nat → kSt
  | 0 => v
  | n + 1 => if rTickB (rTickS v n) n = true then rRun (rTickS v n) n 1 else rTickS v n
def rTickN (v : kSt) : Nat → Int32
  | 0 => 0
  | n + 1 => if rTickB (rTickS v n) n = true then rTickN v n + 1 else rTickN v n
def rTick (v : kSt) : Int32 × kSt := (rTickN (kup v 0 0 (v 0 0 + 1)) 8, rTickS (kup v 0 0 (v 0 0 + 1)) 8)
def rState (v : kSt) (t : Int32) : Int32 := if rThread v t = true then v 13 (ix t) else -1
def rRegister (v : kSt) (t k : Int32) : Int32 := if rThread v t = true then (if k < 0 then 0 else if 4 < k then 0 else if k = 4 then v 12 (ix t) else v 4 (ix (4 * t + k))) else 0
def rOutcome (v : kSt) (t : Int32) : Int32 := if rThread v t = true then v 9 (ix t) else -1
def rValue (v : kSt) (t : Int32) : Int32 := if rThread v t = true then v 11 (ix t) else 0
def rSender (v : kSt) (t : Int32) : Int32 := if rThread v t = true then v 10 (ix t) else -1
def rPlace (v : kSt) (sp p : Int32) : Int32 := if sp < 0 then -1 else if 5 < sp then -1 else if p < 0 then -1 else if 15 < p then -1 else if v 20 (rsl sp p) < 0 then -1 else 16 * sp + p
def rMapping (v : kSt) (sp p : Int32) : Int32 := if rPlace v sp p < 0 then -1 else 1000 * v 22 (ix (rPlace v sp p)) + 10 * v 20 (ix (rPlace v sp p)) + v 21 (ix (rPlace v sp p))
def rHeirs (v : kSt) (sp p : Int32) : Int32 := if rPlace v sp p < 0 then -1 else rCount v (rPlace v sp p) 96
def rWaitCount (v : kSt) (t : Int32) : Nat → Int32
  | 0 => 0
  | n + 1 => rWaitCount v t n + (if rWaits v n t = true then 1 else 0)
def rWaiting (v : kSt) (t : Int32) : Int32 := if rThread v t = true then rWaitCount v t 8 else -1
def rWord (v : kSt) (f : Int32) : Int32 := if f < 0 then 0 else if 15 < f then 0 else v 24 (ix f)
def rSpawn (v : kSt) (sp pg : Int32) : Int32 × kSt := if sp < 0 then (-1, v) else if 5 < sp then (-1, v) else if pg ≠ -1 ∧ rThread v pg = false then (-1, v) else if rFree v 8 < 0 then (-1, v) else (rFree v 8, rBegin v (ix (rFree v 8)) sp pg)
/-- a thread that outlives t -/
def rMeets (v : kSt) (i : Nat) (t : Int32) : Bool := if v 13 i = 1 ∨ v 13 i = 3 ∨ v 13 i = 2 then (if v 14 i = t then true else false) else false
def rOut1 (v : kSt) (i : Nat) (t : Int32) : kSt := if rMeets v i t = true then rRun v i 2 else v
def rOut2 (v : kSt) (i : Nat) (t : Int32) : kSt := if v 3 i = t then kup (kup v 3 i (-1)) 13 i (if v 13 i = 4 then 6 else if v 13 i = 5 then 6 else v 13 i) else v
def rOutlive (v : kSt) (i : Nat) (t : Int32) : kSt := if v 1 i = 0 then v else rOut2 (rOut1 v i t) i t
def rOutAll (v : kSt) (t : Int32) : Nat → kSt
  | 0 => v
  | n + 1 => rOutlive (rOutAll v t n) n t
def rDelete (v : kSt) (t : Int32) : Int32 × kSt := if rThread v t = true then (if t = 0 then (0, v) else (1, rOutAll (kup v 1 (ix t) 0) t 8)) else (0, v)
def rLoad (v : kSt) (t k a : Int32) : Int32 × kSt := if rRunning v t = true then (if k < 0 then (0, v) else if 3 < k then (0, v) else (1, kup v 4 (ix (4 * t + k)) a)) else (0, v)
def rOfferCall (v : kSt) (t p m g : Int32) : Int32 × kSt := if rRunning v t = true then (if p < -1 then (0, v) else if 15 < p then (0, v) else if ¬ p < 0 ∧ m ≠ 1 ∧ m ≠ 2 then (0, v) else (1, kup (kup (kup v 5 (ix t) p) 6 (ix t) m) 7 (ix t) g)) else (0, v)
def rWindow (v : kSt) (t p : Int32) : Int32 × kSt := if rRunning v t = true then (if p < -1 then (0, v) else if 15 < p then (0, v) else (1, kup v 8 (ix t) p)) else (0, v)
end KPR
