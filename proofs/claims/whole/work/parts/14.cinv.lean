section KCI
theorem cIsThread_in {u : kSt} {t : Int32} (h : cIsThread u t = true) : vp_in t 8 := by
  unfold cIsThread at h
  split at h
  · cases h
  · split at h
    · cases h
    · exact vin (by assumption) (by assumption)
theorem cIsRun_th {u : kSt} {t : Int32} (h : cIsRun u t = true) : cIsThread u t = true := by
  unfold cIsRun at h
  split at h
  · assumption
  · cases h
theorem cIsRun_in {u : kSt} {t : Int32} (h : cIsRun u t = true) : vp_in t 8 := cIsThread_in (cIsRun_th h)
theorem cMaySend_in {u : kSt} {t o n : Int32} (h : cMaySend u t o n = true) : cIsRun u t = true ∧ ¬ o = t ∧ cIsThread u o = true ∧ cIsLimit n = true := by
  unfold cMaySend at h
  split at h
  · split at h
    · cases h
    · split at h
      · split at h
        · exact ⟨by assumption, by assumption, by assumption, by assumption⟩
        · cases h
      · cases h
  · cases h
theorem cIsPage_in {n : Int32} (h : cIsPage n = true) : vp_in n 16 := by
  unfold cIsPage at h
  split at h
  · cases h
  · split at h
    · cases h
    · exact vin (by assumption) (by assumption)
theorem cIsSpace_in {n : Int32} (h : cIsSpace n = true) : vp_in n 6 := by
  unfold cIsSpace at h
  split at h
  · cases h
  · split at h
    · cases h
    · exact vin (by assumption) (by assumption)
theorem cIsPageN_in {n : Int32} (h : cIsPageN n = true) : n = -1 ∨ vp_in n 16 := by
  unfold cIsPageN at h
  split at h
  · exact Or.inl (by assumption)
  · split at h
    · exact Or.inr (cIsPage_in (by assumption))
    · cases h
theorem sl_eq {a b : Int32} (h1 : vp_in a 6) (h2 : vp_in b 16) : a * 16 + b = nI (sl a b) ∧ sl a b < 96 := by
  obtain ⟨i, hi, rfl⟩ := vp_in_of h1 (by decide)
  obtain ⟨j, hj, rfl⟩ := vp_in_of h2 (by decide)
  have e : nI i * 16 + nI j = nI (i * 16 + j) := by
    rw [show (16 : Int32) = nI 16 from rfl, pk_mul, nI_add]
  unfold sl
  rw [e, ix_nI (by omega)]
  exact ⟨rfl, by omega⟩
theorem cFree_in {u : kSt} : ∀ (m n : Nat), n + m = 8 → ¬ cFree u n m = -1 → vp_in (cFree u n m) 8
  | 0, n, _, h => absurd rfl h
  | m + 1, n, hn, h => by
    unfold cFree at h ⊢
    split
    · exact vin_n (by omega)
    · rw [if_neg (by assumption)] at h
      exact cFree_in m (n + 1) (by omega) h
/-- what a place of the class's cells may hold, whatever the threads do -/
def cOk (a b : Nat) (v : Int32) : Prop :=
  (8 ≤ a → a < 16 → (b = 0 → v = nI (a - 8)) ∧ (b = 3 → vp_in v 6) ∧ (b = 4 → v = -1 ∨ vp_in v 8) ∧ (b = 5 → v = -1 ∨ vp_in v 16) ∧ (b = 8 → v = -1 ∨ vp_in v 16) ∧ (b = 16 → vp_in v 16))
  ∧ (a = 5 → b < 96 → vp_in v 16) ∧ (a = 6 → b < 96 → vp_in v 13) ∧ (a = 7 → b < 96 → v = -1 ∨ vp_in v 96)
def cInv (u : kSt) : Prop := ∀ a b, cOk a b (u a b)
theorem cInv.up {u : kSt} (h : cInv u) {k j : Nat} {v : Int32} (hv : cOk k j v) : cInv (kup u k j v) := by
  intro a b
  show cOk a b (if a = k ∧ b = j then v else u a b)
  split
  · rename_i hab
    obtain ⟨rfl, rfl⟩ := hab
    exact hv
  · exact h a b
theorem cInv.num {u : kSt} (h : cInv u) {i : Nat} (hi : i < 8) : u (8 + i) 0 = nI i := by
  have e := ((h (8 + i) 0).1 (by omega) (by omega)).1 rfl
  rw [show 8 + i - 8 = i by omega] at e
  exact e
theorem cInv.space {u : kSt} (h : cInv u) {i : Nat} (hi : i < 8) : vp_in (u (8 + i) 3) 6 := ((h (8 + i) 3).1 (by omega) (by omega)).2.1 rfl
theorem cInv.pager {u : kSt} (h : cInv u) {i : Nat} (hi : i < 8) : u (8 + i) 4 = -1 ∨ vp_in (u (8 + i) 4) 8 := ((h (8 + i) 4).1 (by omega) (by omega)).2.2.1 rfl
theorem cInv.offer {u : kSt} (h : cInv u) {i : Nat} (hi : i < 8) : u (8 + i) 5 = -1 ∨ vp_in (u (8 + i) 5) 16 := ((h (8 + i) 5).1 (by omega) (by omega)).2.2.2.1 rfl
theorem cInv.window {u : kSt} (h : cInv u) {i : Nat} (hi : i < 8) : u (8 + i) 8 = -1 ∨ vp_in (u (8 + i) 8) 16 := ((h (8 + i) 8).1 (by omega) (by omega)).2.2.2.2.1 rfl
theorem cInv.wanted {u : kSt} (h : cInv u) {i : Nat} (hi : i < 8) : vp_in (u (8 + i) 16) 16 := ((h (8 + i) 16).1 (by omega) (by omega)).2.2.2.2.2 rfl
theorem cInv.frame {u : kSt} (h : cInv u) {k : Nat} (hk : k < 96) : vp_in (u 5 k) 16 := (h 5 k).2.1 rfl hk
theorem cInv.depth {u : kSt} (h : cInv u) {k : Nat} (hk : k < 96) : vp_in (u 6 k) 13 := (h 6 k).2.2.1 rfl hk
theorem cInv.parent {u : kSt} (h : cInv u) {k : Nat} (hk : k < 96) : u 7 k = -1 ∨ vp_in (u 7 k) 96 := (h 7 k).2.2.2 rfl hk
theorem cInv.par {u : kSt} (h : cInv u) : cPar u := by
  intro j hj
  rcases h.parent hj with e | e
  · exact Or.inl e
  · obtain ⟨p, hp, e2⟩ := vp_in_of e (by decide)
    exact Or.inr ⟨p, hp, e2⟩
theorem cInv.dep {u : kSt} (h : cInv u) : cDep u := by
  intro j hj
  obtain ⟨p, hp, e2⟩ := vp_in_of (h.depth hj) (by decide)
  exact ⟨p, by omega, e2⟩
theorem or_in {v : Int32} {n : Nat} (h : v = -1 ∨ vp_in v n) (hn : ¬ v = -1) : vp_in v n := h.resolve_left hn
/-- a place that may hold anything -/
theorem cOk_any {a b : Nat} {v : Int32} (h : (a < 8 ∨ 16 ≤ a) ∨ (b ≠ 0 ∧ b ≠ 3 ∧ b ≠ 4 ∧ b ≠ 5 ∧ b ≠ 8 ∧ b ≠ 16)) (h5 : a ≠ 5 ∧ a ≠ 6 ∧ a ≠ 7) : cOk a b v := by
  refine ⟨fun h1 h2 => ?_, fun e => absurd e h5.1, fun e => absurd e h5.2.1, fun e => absurd e h5.2.2⟩
  rcases h with h | h
  · omega
  · exact ⟨fun e => absurd e h.1, fun e => absurd e h.2.1, fun e => absurd e h.2.2.1, fun e => absurd e h.2.2.2.1, fun e => absurd e h.2.2.2.2.1, fun e => absurd e h.2.2.2.2.2⟩
/-- a thread's place that may hold anything -/
theorem cOk_t {i b : Nat} {v : Int32} (h : b ≠ 0 ∧ b ≠ 3 ∧ b ≠ 4 ∧ b ≠ 5 ∧ b ≠ 8 ∧ b ≠ 16) : cOk (8 + i) b v := cOk_any (Or.inr h) ⟨by omega, by omega, by omega⟩
theorem cOk_r {i b : Nat} {v : Int32} : cOk (16 + i) b v := cOk_any (Or.inl (Or.inr (by omega))) ⟨by omega, by omega, by omega⟩
theorem cOk_0 {b : Nat} {v : Int32} : cOk 0 b v := cOk_any (Or.inl (Or.inl (by omega))) ⟨by omega, by omega, by omega⟩
theorem cOk_3 {b : Nat} {v : Int32} : cOk 3 b v := cOk_any (Or.inl (Or.inl (by omega))) ⟨by omega, by omega, by omega⟩
theorem cOk_4 {b : Nat} {v : Int32} : cOk 4 b v := cOk_any (Or.inl (Or.inl (by omega))) ⟨by omega, by omega, by omega⟩
theorem cOk_5 {b : Nat} {v : Int32} (h : b < 96 → vp_in v 16) : cOk 5 b v := ⟨fun h1 => by omega, fun _ => h, fun e => by omega, fun e => by omega⟩
theorem cOk_6 {b : Nat} {v : Int32} (h : b < 96 → vp_in v 13) : cOk 6 b v := ⟨fun h1 => by omega, fun e => by omega, fun _ => h, fun e => by omega⟩
theorem cOk_7 {b : Nat} {v : Int32} (h : b < 96 → v = -1 ∨ vp_in v 96) : cOk 7 b v := ⟨fun h1 => by omega, fun e => by omega, fun e => by omega, fun _ => h⟩
theorem cInv.run {u : kSt} (h : cInv u) {i : Nat} {o : Int32} : cInv (cRun u i o) := (h.up (cOk_t (by decide))).up (cOk_t (by decide))
theorem cInv.wait {u : kSt} (h : cInv u) {i : Nat} {a b c : Int32} : cInv (cWait u i a b c) := ((h.up (cOk_t (by decide))).up (cOk_t (by decide))).up (cOk_t (by decide))
theorem cInv.take {u : kSt} (h : cInv u) {i : Nat} {s a b c e : Int32} : cInv (cTake u i s a b c e) := (((((h.up cOk_r).up cOk_r).up cOk_r).up cOk_r).up (cOk_t (by decide))).up (cOk_t (by decide))
theorem cInv.join {u : kSt} (h : cInv u) {i : Nat} {a b c : Int32} : cInv (cJoin u i a b c) := ((h.up (cOk_t (by decide))).up cOk_0).wait
theorem cInv.passFault {u : kSt} (h : cInv u) {f g : Nat} : cInv (cPassFault u f g) := h.take.wait.run
theorem cInv.fault {u : kSt} (h : cInv u) {f g : Nat} : cInv (cFault u f g) := by
  unfold cFault
  split
  · exact h.join.passFault
  · exact h.join
theorem cInv.doAccess {u : kSt} (h : cInv u) {i f : Nat} : cInv (cDoAccess u i f) := by
  unfold cDoAccess
  split
  · exact (h.up cOk_3).run
  · exact (h.up (cOk_t (by decide))).run
theorem cInv.try {u : kSt} (h : cInv u) {i : Nat} : cInv (cTry u i) := by
  unfold cTry
  split
  · split
    · exact h.up (cOk_t (by decide))
    · exact h.fault
  · exact h.doAccess
theorem cInv.lower {u : kSt} (h : cInv u) {k : Nat} {m : Int32} : cInv (cLower u k m) := by
  unfold cLower
  split
  · exact h.up cOk_4
  · exact h
theorem cInv.low {u : kSt} (h : cInv u) {z m : Int32} : ∀ n, cInv (cLow u z m n)
  | 0 => h
  | n + 1 => by
    unfold cLow
    split
    · exact (cInv.low h n).lower
    · exact cInv.low h n
theorem cInv.clean {u : kSt} (h : cInv u) {t : Nat} : cInv (cClean u t) := by
  unfold cClean
  split
  · exact (h.low 96).lower
  · exact h
theorem cInv.adopt {u : kSt} (h : cInv u) {z : Int32} {t : Nat} (ht : t < 96) : ∀ n, cInv (cAdopt u z (nI t) n)
  | 0 => h
  | n + 1 => by
    unfold cAdopt
    split
    · exact (cInv.adopt h ht n).up (cOk_7 (fun _ => Or.inr (vin_n ht)))
    · exact cInv.adopt h ht n
theorem cInv.move {u : kSt} (h : cInv u) {s t : Nat} (hs : s < 96) (ht : t < 96) : cInv (cMove u s t) := by
  unfold cMove
  exact (cInv.adopt ((((h.up cOk_4).up (cOk_5 (fun _ => h.frame hs))).up (cOk_6 (fun _ => h.depth hs))).up (cOk_7 (fun _ => h.parent hs))) ht 96).up cOk_4
theorem cInv.derive {u : kSt} (h : cInv u) {s t : Nat} {m : Int32} (hs : s < 96) (hd : ¬ 12 ≤ u 6 s) : cInv (cDerive u s t m) := by
  unfold cDerive
  refine (((h.up cOk_4).up (cOk_5 (fun _ => h.frame hs))).up (cOk_6 (fun _ => ?_))).up (cOk_7 (fun _ => Or.inr (vin_n hs)))
  obtain ⟨e, he, e2⟩ := vp_in_of (h.depth hs) (by decide)
  rw [e2] at hd ⊢
  have : e < 12 := by
    rcases Nat.lt_or_ge e 12 with h | h
    · exact h
    · exact absurd (nI_le (a := 12) (b := e) h (by omega)) hd
  rw [nI_1]
  exact vin_n (by omega)
theorem cInv.hand2 {u : kSt} (h : cInv u) {s t : Nat} {m g : Int32} (hs : s < 96) (ht : t < 96) : cInv (cHand2 u s t m g) := by
  unfold cHand2
  split
  · split
    · exact h.move hs ht
    · split
      · exact h
      · exact h.derive hs (by assumption)
  · exact h
theorem cInv.handOn {u : kSt} (h : cInv u) {s t : Nat} {m g : Int32} (hs : s < 96) (ht : t < 96) : cInv (cHandOn u s t m g) := by
  unfold cHandOn
  split
  · exact h
  · split
    · exact h.clean.hand2 hs ht
    · exact h
theorem cInv.page {u : kSt} (h : cInv u) {g : Nat} (hg : g < 8) : cPage u g = -1 ∨ vp_in (cPage u g) 16 := by
  unfold cPage
  split
  · exact Or.inr (h.wanted hg)
  · exact h.window hg
theorem cInv.offer1 {u : kSt} (h : cInv u) {f g : Nat} (hf : f < 8) (hg : g < 8) : cInv (cOffer1 u f g) := by
  unfold cOffer1
  split
  · exact h
  · split
    · exact h
    · exact h.handOn (sl_eq (h.space hf) (or_in (h.offer hf) (by assumption))).2 (sl_eq (h.space hg) (or_in (h.page hg) (by assumption))).2
theorem cOk_off {i : Nat} : cOk (8 + i) 5 (-1) := by
  refine ⟨fun _ _ => ⟨fun e => by omega, fun e => by omega, fun e => by omega, fun _ => Or.inl rfl, fun e => by omega, fun e => by omega⟩, fun e => by omega, fun e => by omega, fun e => by omega⟩
theorem cInv.offerS {u : kSt} (h : cInv u) {f g : Nat} (hf : f < 8) (hg : g < 8) : cInv (cOffer u f g) := (h.offer1 hf hg).up cOk_off
theorem cInv.pass1 {u : kSt} (h : cInv u) {f g : Nat} : cInv (cPass1 u f g) := by
  unfold cPass1
  split
  · exact h
  · exact h.take
theorem cInv.pass2 {u : kSt} (h : cInv u) {f g : Nat} {c : Int32} : cInv (cPass2 u f g c) := by
  unfold cPass2
  split
  · exact h.run
  · exact h.wait
theorem cInv.pass3 {u : kSt} (h : cInv u) {g : Nat} {b : Bool} : cInv (cPass3 u g b) := by
  unfold cPass3
  split
  · exact h.try
  · exact h.run
theorem cInv.pass {u : kSt} (h : cInv u) {f g : Nat} {c : Int32} (hf : f < 8) (hg : g < 8) : cInv (cPass u f g c) := (h.pass1.offerS hf hg).pass2.pass3
end KCI
