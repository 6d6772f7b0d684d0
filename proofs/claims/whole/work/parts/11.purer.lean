section KPR
/-! The reference as pure steps. Cells: 0 (0 now, 1 clock), 1 alive, 2 space, 3 pager, 4 registers, 5 offered, 6 offeredLevel, 7 granted, 8 windows, 9 outcomes, 10 senders, 11 values, 12 counts, 13 states, 14 other, 15 until, 16 since, 17 wanted, 18 storing, 19 stored, 20 frames, 21 levels, 22 depths, 23 parents, 24 words -/
def rThread (v : kSt) (t : Int32) : Bool := if t < 0 then false else if 8 ≤ t then false else if v 1 (ix t) = 0 then false else true
def rRunning (v : kSt) (t : Int32) : Bool := if rThread v t = true then (if v 13 (ix t) = 0 then true else false) else false
def rRun (v : kSt) (t : Nat) (o : Int32) : kSt := kup (kup v 13 t 0) 9 t o
def rLinger (v : kSt) (t : Nat) (st on n : Int32) : kSt := kup (kup (kup (kup (kup v 13 t st) 14 t on) 15 t (if 0 ≤ n then v 0 0 + n else -1)) 16 t (v 0 1)) 0 1 (v 0 1 + 1)
def rClear (v : kSt) (t : Nat) : Nat → kSt
  | 0 => v
  | n + 1 => kup (rClear v t n) 4 (4 * t + n) 0
def rBegin (v : kSt) (t : Nat) (sp pg : Int32) : kSt :=
  kup (kup (kup (kup (kup (kup (kup (rClear (kup (kup (kup v 1 t 1) 2 t sp) 3 t pg) t 4) 5 t (-1)) 8 t (-1)) 9 t 0) 10 t (-1)) 11 t 0) 12 t 0) 13 t 0
/-- the least free number of the last n ones, -1 if none -/
def rFree (v : kSt) : Nat → Int32
  | 0 => -1
  | m + 1 => if v 1 (7 - m) = 0 then nI (7 - m) else rFree v m
/-- n steps upward at most, from place a, to the place z -/
def rUp (v : kSt) (z : Int32) : Nat → Int32 → Bool
  | 0, _ => false
  | n + 1, a => if v 23 (ix a) = z then true else rUp v z n (v 23 (ix a))
def rDesc (v : kSt) (k : Nat) (z : Int32) : Bool := rUp v z (ix (if 0 ≤ v 20 k then v 22 k else 0)) (nI k)
def rCount (v : kSt) (z : Int32) : Nat → Int32
  | 0 => 0
  | n + 1 => rCount v z n + (if rDesc v n z = true then 1 else 0)
/-- whether the removal at depth e takes place n -/
def rHit (v : kSt) (z e : Int32) (n : Nat) : Bool := if v 20 n < 0 then false else if v 22 n = e then (if rDesc v n z = true then true else false) else false
/-- of the first n places those of depth e that descend from z are emptied -/
def rRem1 (v : kSt) (z e : Int32) : Nat → kSt
  | 0 => v
  | n + 1 => if rHit (rRem1 v z e n) z e n = true then kup (rRem1 v z e n) 20 n (-1) else rRem1 v z e n
def rRem1N (v : kSt) (z e : Int32) (a : Int32) : Nat → Int32
  | 0 => a
  | n + 1 => if rHit (rRem1 v z e n) z e n = true then rRem1N v z e a n + 1 else rRem1N v z e a n
/-- depths e, e - 1, .. 1, over the first N places -/
def rRem (v : kSt) (z : Int32) (N : Nat) : Nat → kSt
  | 0 => v
  | e + 1 => rRem (rRem1 v z (nI (e + 1)) N) z N e
def rRemN (v : kSt) (z : Int32) (a : Int32) (N : Nat) : Nat → Int32
  | 0 => a
  | e + 1 => rRemN (rRem1 v z (nI (e + 1)) N) z (rRem1N v z (nI (e + 1)) a N) N e
/-- whether place n is below s -/
def rBelow (v : kSt) (s : Int32) (n : Nat) : Bool := if v 20 n < 0 then false else if v 22 n ≤ 0 then false else if v 23 n = s then true else false
/-- those of the first n places that are below s get the parent t -/
def rAdopt (v : kSt) (s t : Int32) : Nat → kSt
  | 0 => v
  | n + 1 => if rBelow (rAdopt v s t n) s n = true then kup (rAdopt v s t n) 23 n t else rAdopt v s t n
def rMove (v : kSt) (s t : Nat) : kSt := rAdopt (kup (kup (kup (kup (kup v 20 t (v 20 s)) 21 t (v 21 s)) 22 t (v 22 s)) 23 t (v 23 s)) 20 s (-1)) (nI s) (nI t) 96
def rDerive (v : kSt) (i s t : Nat) : kSt := kup (kup (kup (kup v 20 t (v 20 s)) 21 t (if v 21 s ≤ v 6 i then v 21 s else v 6 i)) 22 t (v 22 s + 1)) 23 t (nI s)
def rClean (v : kSt) (t : Nat) : kSt := if v 20 t < 0 then v else kup (rRem v (nI t) 96 12) 20 t (-1)
def rHand2 (v : kSt) (i s t : Nat) : kSt := if 0 ≤ v 20 s then (if v 7 i = 0 then (if 12 ≤ v 22 s then v else rDerive v i s t) else rMove v s t) else v
def rHandOn (v : kSt) (i s t : Nat) : kSt := if s = t then v else if 0 ≤ v 20 s then rHand2 (rClean v t) i s t else v
def rTake (v : kSt) (r : Nat) (s a b c e : Int32) : kSt := kup (kup (kup (kup (kup (kup v 4 (4 * r) a) 4 (4 * r + 1) b) 4 (4 * r + 2) c) 4 (4 * r + 3) e) 10 r s) 12 r (v 12 r + 1)
def rReport (v : kSt) (t : Nat) : kSt := rRun (kup (kup (rTake v (ix (v 3 t)) (nI t) (v 17 t) (if v 18 t = 0 then 1 else 2) 0 0) 13 t 5) 14 t (v 3 t)) (ix (v 3 t)) 0
def rOk (v : kSt) (t k : Nat) : Bool := if v 20 k < 0 then false else if v 21 k < (if v 18 t = 0 then 1 else 2) then false else true
def rAttempt3 (v : kSt) (t p : Nat) : kSt := if v 13 p = 2 then (if v 14 p = nI t then rReport v t else if 0 ≤ v 14 p then v else rReport v t) else v
def rAttempt2 (v : kSt) (t : Nat) : kSt := if 0 ≤ v 3 t then rAttempt3 (rLinger v t 4 (v 3 t) (-1)) t (ix (v 3 t)) else kup v 13 t 6
def rDo (v : kSt) (t k : Nat) : kSt := if v 18 t = 0 then rRun (kup v 11 t (v 24 (ix (v 20 k)))) t 0 else rRun (kup v 24 (ix (v 20 k)) (v 19 t)) t 0
def rsl (sp p : Int32) : Nat := ix (16 * sp + p)
def rAttempt (v : kSt) (t : Nat) : kSt := if rOk v t (rsl (v 2 t) (v 17 t)) = true then rDo v t (rsl (v 2 t) (v 17 t)) else rAttempt2 v t
def rPage (v : kSt) (r : Nat) (rests : Bool) : Int32 := if rests = true then v 17 r else v 8 r
def rMsg1 (v : kSt) (s r : Nat) (rests : Bool) : kSt := if rests = true then v else rTake v r (nI s) (v 4 (4 * s)) (v 4 (4 * s + 1)) (v 4 (4 * s + 2)) (v 4 (4 * s + 3))
def rMsg2 (v : kSt) (s r : Nat) (p : Int32) : kSt := if v 5 s < 0 then v else if p < 0 then v else rHandOn v s (rsl (v 2 s) (v 5 s)) (rsl (v 2 r) p)
def rMsg3 (v : kSt) (s r : Nat) (calls : Int32) : kSt := if calls = 0 then rRun v s 0 else rLinger v s 2 (nI r) (-1)
def rMsg4 (v : kSt) (r : Nat) (rests : Bool) : kSt := if rests = true then rAttempt v r else rRun v r 0
def rMsgB (v : kSt) (s r : Nat) (calls : Int32) (rests : Bool) : kSt := rMsg4 (rMsg3 (kup (rMsg2 v s r (rPage v r rests)) 5 s (-1)) s r calls) r rests
def rMessage (v : kSt) (s r : Nat) (calls : Int32) : kSt := rMsgB (rMsg1 v s r (decide (v 13 r = 5))) s r calls (decide (v 13 r = 5))
def rTakes (v : kSt) (r s : Nat) : Bool := if v 13 r = 2 ∧ (v 14 r = nI s ∨ v 14 r < 0) then true else if v 13 r = 5 then (if v 14 r = nI s then true else false) else false
def rSpk (v : kSt) (i j : Nat) (n calls : Int32) : Int32 × kSt := if rTakes v j i = true then (if calls = 0 then 0 else 1, rMessage v i j calls) else if n = 0 then (2, kup v 9 i 1) else (1, rLinger v i (if calls = 0 then 1 else 3) (nI j) n)
def rSpeak (v : kSt) (t o n calls : Int32) : Int32 × kSt := if rRunning v t = true then (if o = t then (-1, v) else if rThread v o = true then (if n < -1 then (-1, v) else if n ≤ 100 then rSpk v (ix t) (ix o) n calls else (-1, v)) else (-1, v)) else (-1, v)
def rWaits (v : kSt) (i : Nat) (t : Int32) : Bool := if v 1 i = 0 then false else if v 13 i = 1 ∨ v 13 i = 3 ∨ v 13 i = 4 then (if v 14 i = t then true else false) else false
/-- whether thread n is asked, and waits for t -/
def rAsk (v : kSt) (t fr : Int32) (n : Nat) : Bool := if rWaits v n t = true then (if fr < 0 then true else if nI n = fr then true else false) else false
/-- the longest waiting one of the first n, as the loop has it -/
def rBest (v : kSt) (t fr : Int32) : Nat → Int32
  | 0 => -1
  | n + 1 => if rAsk v t fr n = true then (if rBest v t fr n < 0 then nI n else if v 16 (ix (rBest v t fr n)) ≤ v 16 n then rBest v t fr n else nI n) else rBest v t fr n
def rRec2 (v : kSt) (i : Nat) (fr n b : Int32) : Int32 × kSt := if b < 0 then (if n = 0 then (2, kup v 9 i 1) else (1, rLinger v i 2 fr n)) else
    (0, if v 13 (ix b) = 4 then rReport v (ix b) else rMessage v (ix b) i (if v 13 (ix b) = 3 then 1 else 0))
def rReceive (v : kSt) (t fr n : Int32) : Int32 × kSt := if rRunning v t = true then (if fr = t then (-1, v) else if fr ≠ -1 ∧ rThread v fr = false then (-1, v) else if n < -1 then (-1, v) else if n ≤ 100 then rRec2 v (ix t) fr n (rBest v t fr 8) else (-1, v)) else (-1, v)
def rWant (v : kSt) (t : Nat) (p st a : Int32) : kSt := kup (kup (kup v 17 t p) 18 t st) 19 t a
def rAcc2 (v : kSt) (i : Nat) : Int32 × kSt := (if rAttempt v i 13 i = 0 then 0 else if rAttempt v i 13 i = 6 then 2 else 1, rAttempt v i)
def rAccess (v : kSt) (t p st a : Int32) : Int32 × kSt := if rRunning v t = true then (if p < 0 then (-1, v) else if p ≤ 15 then rAcc2 (rWant v (ix t) p st a) (ix t) else (-1, v)) else (-1, v)
/-- whether place n gets the level 1 -/
def rSoftB (v : kSt) (z self : Int32) (n : Nat) : Bool := if v 20 n < 0 then false else if v 21 n = 2 then (if rDesc v n z = true then true else if self = 0 then false else if nI n = z then true else false) else false
/-- of the first n places the descendants of z, and z itself if asked, get level 1 -/
def rSoft (v : kSt) (z self : Int32) : Nat → kSt
  | 0 => v
  | n + 1 => if rSoftB (rSoft v z self n) z self n = true then kup (rSoft v z self n) 21 n 1 else rSoft v z self n
def rSoftN (v : kSt) (z self : Int32) : Nat → Int32
  | 0 => 0
  | n + 1 => if rSoftB (rSoft v z self n) z self n = true then rSoftN v z self n + 1 else rSoftN v z self n
def rUnm (v : kSt) (k : Nat) (m self : Int32) : Int32 × kSt := if 0 ≤ v 20 k then (if m = 1 then
      (rRemN v (nI k) 0 96 12 + (if self = 0 then 0 else 1), kup (rRem v (nI k) 96 12) 20 k (if self = 0 then rRem v (nI k) 96 12 20 k else -1))
    else (rSoftN v (nI k) self 96, rSoft v (nI k) self 96)) else (0, v)
def rUnmap (v : kSt) (t p m self : Int32) : Int32 × kSt := if rRunning v t = true then (if p < 0 then (-1, v) else if 15 < p then (-1, v) else if m ≠ 1 ∧ m ≠ 2 then (-1, v) else rUnm v (rsl (v 2 (ix t)) p) m self) else (-1, v)
def rTickB (v : kSt) (i : Nat) : Bool := if v 1 i = 0 then false else if v 13 i = 1 ∨ v 13 i = 3 ∨ v 13 i = 2 then (if v 15 i < 0 then false else if v 0 0 < v 15 i then false else true) else false
def rTickS (v : kSt) : Nat → kSt
  | 0 => v
  | n + 1 => if rTickB (rTickS v n) n = true then rRun (rTickS v n) n 1 else rTickS v n
def rTickN (v : kSt) : Nat → Int32
  | 0 => 0
  | n + 1 => if rTickB (rTickS v n) n = true then rTickN v n + 1 else rTickN v n
def rTick (v : kSt) : Int32 × kSt := (rTickN (kup v 0 0 (v 0 0 + 1)) 8, rTickS (kup v 0 0 (v 0 0 + 1)) 8)
def rState (v : kSt) (t : Int32) : Int32 := if rThread v t = true then v 13 (ix t) else -1
def rRegister (v : kSt) (t k : Int32) : Int32 := if rThread v t = true then (if k < 0 then 0 else if k ≤ 4 then (if k = 4 then v 12 (ix t) else v 4 (ix (4 * t + k))) else 0) else 0
def rOutcome (v : kSt) (t : Int32) : Int32 := if rThread v t = true then v 9 (ix t) else -1
def rValue (v : kSt) (t : Int32) : Int32 := if rThread v t = true then v 11 (ix t) else 0
def rSender (v : kSt) (t : Int32) : Int32 := if rThread v t = true then v 10 (ix t) else -1
def rPlace (v : kSt) (sp p : Int32) : Int32 := if sp < 0 then -1 else if 5 < sp then -1 else if p < 0 then -1 else if 15 < p then -1 else if 0 ≤ v 20 (rsl sp p) then 16 * sp + p else -1
def rMapping (v : kSt) (sp p : Int32) : Int32 := if 0 ≤ rPlace v sp p then 1000 * v 22 (ix (rPlace v sp p)) + 10 * v 20 (ix (rPlace v sp p)) + v 21 (ix (rPlace v sp p)) else -1
def rHeirs (v : kSt) (sp p : Int32) : Int32 := if 0 ≤ rPlace v sp p then rCount v (rPlace v sp p) 96 else -1
def rWaitCount (v : kSt) (t : Int32) : Nat → Int32
  | 0 => 0
  | n + 1 => rWaitCount v t n + (if rWaits v n t = true then 1 else 0)
def rWaiting (v : kSt) (t : Int32) : Int32 := if rThread v t = true then rWaitCount v t 8 else -1
def rWord (v : kSt) (f : Int32) : Int32 := if f < 0 then 0 else if f ≤ 15 then v 24 (ix f) else 0
def rSp2 (v : kSt) (sp pg fr : Int32) : Int32 × kSt := if sp < 0 then (-1, v) else if 5 < sp then (-1, v) else if pg ≠ -1 ∧ rThread v pg = false then (-1, v) else if 0 ≤ fr then (fr, rBegin v (ix fr) sp pg) else (-1, v)
def rSpawn (v : kSt) (sp pg : Int32) : Int32 × kSt := rSp2 v sp pg (rFree v 8)
/-- a thread that outlives t -/
def rMeets (v : kSt) (i : Nat) (t : Int32) : Bool := if v 13 i = 1 ∨ v 13 i = 3 ∨ v 13 i = 2 then (if v 14 i = t then true else false) else false
def rOut1 (v : kSt) (i : Nat) (t : Int32) : kSt := if rMeets v i t = true then rRun v i 2 else v
def rOut2 (v : kSt) (i : Nat) (t : Int32) : kSt := if v 3 i = t then kup (kup v 3 i (-1)) 13 i (if v 13 i = 4 then 6 else if v 13 i = 5 then 6 else v 13 i) else v
def rOutlive (v : kSt) (i : Nat) (t : Int32) : kSt := if v 1 i = 0 then v else rOut2 (rOut1 v i t) i t
def rOutAll (v : kSt) (t : Int32) : Nat → kSt
  | 0 => v
  | n + 1 => rOutlive (rOutAll v t n) n t
def rDelete (v : kSt) (t : Int32) : Int32 × kSt := if rThread v t = true then (if t = 0 then (0, v) else (1, rOutAll (kup v 1 (ix t) 0) t 8)) else (0, v)
def rLoad (v : kSt) (t k a : Int32) : Int32 × kSt := if rRunning v t = true then (if k < 0 then (0, v) else if k ≤ 3 then (1, kup v 4 (ix (4 * t + k)) a) else (0, v)) else (0, v)
def rOfferCall (v : kSt) (t p m g : Int32) : Int32 × kSt := if rRunning v t = true then (if p < -1 then (0, v) else if 15 < p then (0, v) else if ¬ p < 0 ∧ m ≠ 1 ∧ m ≠ 2 then (0, v) else (1, kup (kup (kup v 5 (ix t) p) 6 (ix t) m) 7 (ix t) g)) else (0, v)
def rWindow (v : kSt) (t p : Int32) : Int32 × kSt := if rRunning v t = true then (if p < -1 then (0, v) else if p ≤ 15 then (1, kup v 8 (ix t) p) else (0, v)) else (0, v)
/-! ranges -/
def rOkv (a b : Nat) (x : Int32) : Prop :=
  (a = 2 → b < 8 → vp_in x 6) ∧ (a = 3 → b < 8 → x = -1 ∨ vp_in x 8) ∧ (a = 5 → b < 8 → x = -1 ∨ vp_in x 16) ∧ (a = 8 → b < 8 → x = -1 ∨ vp_in x 16) ∧ (a = 17 → b < 8 → vp_in x 16)
  ∧ (a = 20 → b < 96 → x = -1 ∨ vp_in x 16) ∧ (a = 22 → b < 96 → vp_in x 13) ∧ (a = 23 → b < 96 → vp_in x 96)
def rInv (v : kSt) : Prop := ∀ a b, rOkv a b (v a b)
theorem rInv.up {v : kSt} (h : rInv v) {k j : Nat} {x : Int32} (hx : rOkv k j x) : rInv (kup v k j x) := by
  intro a b
  show rOkv a b (if a = k ∧ b = j then x else v a b)
  split
  · rename_i hab
    obtain ⟨rfl, rfl⟩ := hab
    exact hx
  · exact h a b
theorem rInv.space {v : kSt} (h : rInv v) {i : Nat} (hi : i < 8) : vp_in (v 2 i) 6 := (h 2 i).1 rfl hi
theorem rInv.pager {v : kSt} (h : rInv v) {i : Nat} (hi : i < 8) : v 3 i = -1 ∨ vp_in (v 3 i) 8 := (h 3 i).2.1 rfl hi
theorem rInv.offer {v : kSt} (h : rInv v) {i : Nat} (hi : i < 8) : v 5 i = -1 ∨ vp_in (v 5 i) 16 := (h 5 i).2.2.1 rfl hi
theorem rInv.window {v : kSt} (h : rInv v) {i : Nat} (hi : i < 8) : v 8 i = -1 ∨ vp_in (v 8 i) 16 := (h 8 i).2.2.2.1 rfl hi
theorem rInv.wanted {v : kSt} (h : rInv v) {i : Nat} (hi : i < 8) : vp_in (v 17 i) 16 := (h 17 i).2.2.2.2.1 rfl hi
theorem rInv.frame {v : kSt} (h : rInv v) {k : Nat} (hk : k < 96) : v 20 k = -1 ∨ vp_in (v 20 k) 16 := (h 20 k).2.2.2.2.2.1 rfl hk
theorem rInv.depth {v : kSt} (h : rInv v) {k : Nat} (hk : k < 96) : vp_in (v 22 k) 13 := (h 22 k).2.2.2.2.2.2.1 rfl hk
theorem rInv.parent {v : kSt} (h : rInv v) {k : Nat} (hk : k < 96) : vp_in (v 23 k) 96 := (h 23 k).2.2.2.2.2.2.2 rfl hk
/-- a place that may hold anything -/
theorem rOk_any {a b : Nat} {x : Int32} (h : a ≠ 2 ∧ a ≠ 3 ∧ a ≠ 5 ∧ a ≠ 8 ∧ a ≠ 17 ∧ a ≠ 20 ∧ a ≠ 22 ∧ a ≠ 23) : rOkv a b x :=
  ⟨fun e => absurd e h.1, fun e => absurd e h.2.1, fun e => absurd e h.2.2.1, fun e => absurd e h.2.2.2.1, fun e => absurd e h.2.2.2.2.1, fun e => absurd e h.2.2.2.2.2.1, fun e => absurd e h.2.2.2.2.2.2.1, fun e => absurd e h.2.2.2.2.2.2.2⟩
theorem rOk_2 {b : Nat} {x : Int32} (h : vp_in x 6) : rOkv 2 b x := ⟨fun _ _ => h, fun e => by omega, fun e => by omega, fun e => by omega, fun e => by omega, fun e => by omega, fun e => by omega, fun e => by omega⟩
theorem rOk_3 {b : Nat} {x : Int32} (h : x = -1 ∨ vp_in x 8) : rOkv 3 b x := ⟨fun e => by omega, fun _ _ => h, fun e => by omega, fun e => by omega, fun e => by omega, fun e => by omega, fun e => by omega, fun e => by omega⟩
theorem rOk_5 {b : Nat} {x : Int32} (h : x = -1 ∨ vp_in x 16) : rOkv 5 b x := ⟨fun e => by omega, fun e => by omega, fun _ _ => h, fun e => by omega, fun e => by omega, fun e => by omega, fun e => by omega, fun e => by omega⟩
theorem rOk_8 {b : Nat} {x : Int32} (h : x = -1 ∨ vp_in x 16) : rOkv 8 b x := ⟨fun e => by omega, fun e => by omega, fun e => by omega, fun _ _ => h, fun e => by omega, fun e => by omega, fun e => by omega, fun e => by omega⟩
theorem rOk_17 {b : Nat} {x : Int32} (h : vp_in x 16) : rOkv 17 b x := ⟨fun e => by omega, fun e => by omega, fun e => by omega, fun e => by omega, fun _ _ => h, fun e => by omega, fun e => by omega, fun e => by omega⟩
theorem rOk_20 {b : Nat} {x : Int32} (h : b < 96 → x = -1 ∨ vp_in x 16) : rOkv 20 b x := ⟨fun e => by omega, fun e => by omega, fun e => by omega, fun e => by omega, fun e => by omega, fun _ => h, fun e => by omega, fun e => by omega⟩
theorem rOk_22 {b : Nat} {x : Int32} (h : b < 96 → vp_in x 13) : rOkv 22 b x := ⟨fun e => by omega, fun e => by omega, fun e => by omega, fun e => by omega, fun e => by omega, fun e => by omega, fun _ => h, fun e => by omega⟩
theorem rOk_23 {b : Nat} {x : Int32} (h : b < 96 → vp_in x 96) : rOkv 23 b x := ⟨fun e => by omega, fun e => by omega, fun e => by omega, fun e => by omega, fun e => by omega, fun e => by omega, fun e => by omega, fun _ => h⟩
theorem rInv.run {v : kSt} (h : rInv v) {i : Nat} {o : Int32} : rInv (rRun v i o) := (h.up (rOk_any (by decide))).up (rOk_any (by decide))
theorem rInv.linger {v : kSt} (h : rInv v) {i : Nat} {a b c : Int32} : rInv (rLinger v i a b c) := ((((h.up (rOk_any (by decide))).up (rOk_any (by decide))).up (rOk_any (by decide))).up (rOk_any (by decide))).up (rOk_any (by decide))
theorem rInv.take {v : kSt} (h : rInv v) {i : Nat} {s a b c e : Int32} : rInv (rTake v i s a b c e) := (((((h.up (rOk_any (by decide))).up (rOk_any (by decide))).up (rOk_any (by decide))).up (rOk_any (by decide))).up (rOk_any (by decide))).up (rOk_any (by decide))
theorem rInv.report {v : kSt} (h : rInv v) {t : Nat} : rInv (rReport v t) := ((h.take.up (rOk_any (by decide))).up (rOk_any (by decide))).run
theorem rInv.attempt {v : kSt} (h : rInv v) {t : Nat} : rInv (rAttempt v t) := by
  unfold rAttempt rAttempt2 rAttempt3 rDo
  repeat' split
  · exact (h.up (rOk_any (by decide))).run
  · exact (h.up (rOk_any (by decide))).run
  · exact h.linger.report
  · exact h.linger
  · exact h.linger.report
  · exact h.linger
  · exact h.up (rOk_any (by decide))
theorem rInv.rem1 {v : kSt} (h : rInv v) {z e : Int32} : ∀ n, rInv (rRem1 v z e n)
  | 0 => h
  | n + 1 => by
    unfold rRem1
    split
    · exact (rInv.rem1 h n).up (rOk_20 (fun _ => Or.inl rfl))
    · exact rInv.rem1 h n
theorem rInv.rem {z : Int32} (N e : Nat) (v : kSt) (h : rInv v) : rInv (rRem v z N e) := by
  induction e generalizing v with
  | zero => exact h
  | succ e ih =>
    rw [rRem]
    exact ih _ (rInv.rem1 h N)
theorem rInv.clean {v : kSt} (h : rInv v) {t : Nat} : rInv (rClean v t) := by
  unfold rClean
  split
  · exact h
  · exact (rInv.rem 96 12 v h).up (rOk_20 (fun _ => Or.inl rfl))
theorem rInv.adopt {v : kSt} (h : rInv v) {s : Int32} {t : Nat} (ht : t < 96) : ∀ n, rInv (rAdopt v s (nI t) n)
  | 0 => h
  | n + 1 => by
    unfold rAdopt
    split
    · exact (rInv.adopt h ht n).up (rOk_23 (fun _ => vin_n ht))
    · exact rInv.adopt h ht n
theorem rInv.move {v : kSt} (h : rInv v) {s t : Nat} (hs : s < 96) (ht : t < 96) : rInv (rMove v s t) := by
  unfold rMove
  exact rInv.adopt (((((h.up (rOk_20 (fun _ => h.frame hs))).up (rOk_any (by decide))).up (rOk_22 (fun _ => h.depth hs))).up (rOk_23 (fun _ => h.parent hs))).up (rOk_20 (fun _ => Or.inl rfl))) ht 96
theorem rInv.derive {v : kSt} (h : rInv v) {i s t : Nat} (hs : s < 96) (hd : ¬ 12 ≤ v 22 s) : rInv (rDerive v i s t) := by
  unfold rDerive
  refine (((h.up (rOk_20 (fun _ => h.frame hs))).up (rOk_any (by decide))).up (rOk_22 (fun _ => ?_))).up (rOk_23 (fun _ => vin_n hs))
  obtain ⟨e, he, e2⟩ := vp_in_of (h.depth hs) (by decide)
  rw [e2] at hd ⊢
  have : e < 12 := by
    rcases Nat.lt_or_ge e 12 with h | h
    · exact h
    · exact absurd (nI_le (a := 12) (b := e) h (by omega)) hd
  rw [nI_1]
  exact vin_n (by omega)
theorem rInv.hand2 {v : kSt} (h : rInv v) {i s t : Nat} (hs : s < 96) (ht : t < 96) : rInv (rHand2 v i s t) := by
  unfold rHand2
  split
  · split
    · split
      · exact h
      · exact h.derive hs (by assumption)
    · exact h.move hs ht
  · exact h
theorem rInv.handOn {v : kSt} (h : rInv v) {i s t : Nat} (hs : s < 96) (ht : t < 96) : rInv (rHandOn v i s t) := by
  unfold rHandOn
  split
  · exact h
  · split
    · exact h.clean.hand2 hs ht
    · exact h
theorem rsl_eq {a b : Int32} (h1 : vp_in a 6) (h2 : vp_in b 16) : 16 * a + b = nI (rsl a b) ∧ rsl a b < 96 := by
  obtain ⟨i, hi, rfl⟩ := vp_in_of h1 (by decide)
  obtain ⟨j, hj, rfl⟩ := vp_in_of h2 (by decide)
  have e : 16 * nI i + nI j = nI (16 * i + j) := by
    rw [show (16 : Int32) = nI 16 from rfl, pk_mul, nI_add]
  unfold rsl
  rw [e, ix_nI (by omega)]
  exact ⟨rfl, by omega⟩
theorem or_ge {x : Int32} {n : Nat} (h : x = -1 ∨ vp_in x n) (hn : ¬ x < 0) : vp_in x n := h.resolve_left (fun e => hn (by rw [e]; decide))
theorem or_ge' {x : Int32} {n : Nat} (h : x = -1 ∨ vp_in x n) (hn : 0 ≤ x) : vp_in x n := h.resolve_left (fun e => absurd hn (by rw [e]; decide))
theorem rInv.page {v : kSt} (h : rInv v) {r : Nat} {b : Bool} (hr : r < 8) : rPage v r b = -1 ∨ vp_in (rPage v r b) 16 := by
  unfold rPage
  split
  · exact Or.inr (h.wanted hr)
  · exact h.window hr
theorem rInv.msg2 {v : kSt} (h : rInv v) {s r : Nat} {p : Int32} (hs : s < 8) (hr : r < 8) (hp : p = -1 ∨ vp_in p 16) : rInv (rMsg2 v s r p) := by
  unfold rMsg2
  split
  · exact h
  · split
    · exact h
    · exact h.handOn (rsl_eq (h.space hs) (or_ge (h.offer hs) (by assumption))).2 (rsl_eq (h.space hr) (or_ge hp (by assumption))).2
theorem rInv.msg3 {v : kSt} (h : rInv v) {s r : Nat} {c : Int32} : rInv (rMsg3 v s r c) := by
  unfold rMsg3
  split
  · exact h.run
  · exact h.linger
theorem rInv.msg1 {v : kSt} (h : rInv v) {s r : Nat} {b : Bool} : rInv (rMsg1 v s r b) := by
  unfold rMsg1
  split
  · exact h
  · exact h.take
theorem rInv.msg4 {v : kSt} (h : rInv v) {r : Nat} {b : Bool} : rInv (rMsg4 v r b) := by
  unfold rMsg4
  split
  · exact h.attempt
  · exact h.run
theorem rInv.msgB {v : kSt} (h : rInv v) {s r : Nat} {c : Int32} {b : Bool} (hs : s < 8) (hr : r < 8) : rInv (rMsgB v s r c b) := (((h.msg2 hs hr (h.page hr)).up (rOk_5 (Or.inl rfl))).msg3).msg4
theorem rInv.message {v : kSt} (h : rInv v) {s r : Nat} {c : Int32} (hs : s < 8) (hr : r < 8) : rInv (rMessage v s r c) := h.msg1.msgB hs hr
theorem rThread_in {v : kSt} {t : Int32} (h : rThread v t = true) : vp_in t 8 := by
  unfold rThread at h
  split at h
  · cases h
  · split at h
    · cases h
    · exact vin (by assumption) (by assumption)
theorem rRunning_th {v : kSt} {t : Int32} (h : rRunning v t = true) : rThread v t = true := by
  unfold rRunning at h
  split at h
  · assumption
  · cases h
theorem rRunning_in {v : kSt} {t : Int32} (h : rRunning v t = true) : vp_in t 8 := rThread_in (rRunning_th h)
theorem rFree_in {v : kSt} : ∀ n, rFree v n = -1 ∨ vp_in (rFree v n) 8
  | 0 => Or.inl rfl
  | n + 1 => by
    unfold rFree
    split
    · exact Or.inr (vin_n (by omega))
    · exact rFree_in n
theorem rBest_in {v : kSt} {t fr : Int32} : ∀ n, n ≤ 8 → (rBest v t fr n = -1 ∨ vp_in (rBest v t fr n) 8)
  | 0, _ => Or.inl rfl
  | n + 1, hn => by
    unfold rBest
    split
    · split
      · exact Or.inr (vin_n (by omega))
      · split
        · exact rBest_in n (by omega)
        · exact Or.inr (vin_n (by omega))
    · exact rBest_in n (by omega)
/-- places in the registers' row -/
theorem rg_eq {i j : Nat} (hi : i < 8) (hj : j < 4) : (4 : Int32) * nI i + nI j = nI (4 * i + j) := by
  rw [show (4 : Int32) = nI 4 from rfl, pk_mul, nI_add]
theorem rg_eq0 {i : Nat} : (4 : Int32) * nI i = nI (4 * i) := by
  rw [show (4 : Int32) = nI 4 from rfl, pk_mul]
theorem rg_in {a b : Int32} (h1 : vp_in a 8) (h2 : vp_in b 4) : vp_in (4 * a + b) 32 := by
  obtain ⟨i, hi, rfl⟩ := vp_in_of h1 (by decide)
  obtain ⟨j, hj, rfl⟩ := vp_in_of h2 (by decide)
  rw [rg_eq hi hj]
  exact vin_n (by omega)
end KPR
