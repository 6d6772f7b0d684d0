section KO3
variable {a m : Nat} {v u : kSt}
theorem state_ok (h : Rel a m v u) {t : Int32} : rState v t = cState u t := by
  unfold rState cState
  rw [thread_eq h]
  by_cases h1 : cIsThread u t = true
  · rw [if_pos h1, if_pos h1, (h.tt (vin_lt (cIsThread_in h1)) (cIsThread_al h h1)).1]
  · rw [if_neg h1, if_neg h1]
theorem outcome_ok (h : Rel a m v u) {t : Int32} : rOutcome v t = cOutcome u t := by
  unfold rOutcome cOutcome
  rw [thread_eq h]
  by_cases h1 : cIsThread u t = true
  · rw [if_pos h1, if_pos h1, h.e9 (vin_lt (cIsThread_in h1))]
  · rw [if_neg h1, if_neg h1]
theorem value_ok (h : Rel a m v u) {t : Int32} : rValue v t = cValue u t := by
  unfold rValue cValue
  rw [thread_eq h]
  by_cases h1 : cIsThread u t = true
  · rw [if_pos h1, if_pos h1, h.e11 (vin_lt (cIsThread_in h1))]
  · rw [if_neg h1, if_neg h1]
theorem sender_ok (h : Rel a m v u) {t : Int32} : rSender v t = cSender u t := by
  unfold rSender cSender
  rw [thread_eq h]
  by_cases h1 : cIsThread u t = true
  · rw [if_pos h1, if_pos h1, h.e10 (vin_lt (cIsThread_in h1))]
  · rw [if_neg h1, if_neg h1]
theorem rg_ix {t k : Int32} (h1 : vp_in t 8) (h2 : vp_in k 4) : ix (4 * t + k) = 4 * ix t + ix k := by
  obtain ⟨i, hi, rfl⟩ := vp_in_of h1 (by decide)
  obtain ⟨j, hj, rfl⟩ := vp_in_of h2 (by decide)
  rw [rg_eq hi hj, ix_nI (by omega), ix_nI (by omega), ix_nI (by omega)]
theorem register_ok (h : Rel a m v u) {t k : Int32} : rRegister v t k = cRegister u t k := by
  unfold rRegister cRegister
  rw [thread_eq h]
  by_cases h1 : cIsThread u t = true
  · have ht := cIsThread_in h1
    rw [if_pos h1, if_pos h1]
    by_cases h2 : k < 0
    · rw [if_pos h2, if_pos h2]
    · rw [if_neg h2, if_neg h2]
      by_cases h3 : k ≤ 4
      · rw [if_pos h3, if_pos h3]
        by_cases h4 : k = 4
        · rw [if_pos h4, if_pos h4, h.e12 (vin_lt ht)]
        · have hk : vp_in k 4 := vin (m := 4) h2 (fun e => h4 (Int32.le_antisymm h3 e))
          rw [if_neg h4, if_neg h4, rg_ix ht hk, h.rg (vin_lt ht) (vin_lt hk)]
      · rw [if_neg h3, if_neg h3]
  · rw [if_neg h1, if_neg h1]
theorem le15 {p : Int32} : p ≤ 15 ↔ ¬ 16 ≤ p := by
  have h1 : (15 : Int32).toInt = 15 := by decide
  have h2 : (16 : Int32).toInt = 16 := by decide
  rw [Int32.le_iff_toInt_le, Int32.le_iff_toInt_le, h1, h2]
  omega
theorem lt15 {p : Int32} : 15 < p ↔ 16 ≤ p := by
  have h1 : (15 : Int32).toInt = 15 := by decide
  have h2 : (16 : Int32).toInt = 16 := by decide
  rw [Int32.lt_iff_toInt_lt, Int32.le_iff_toInt_le, h1, h2]
  omega
theorem lt5 {p : Int32} : 5 < p ↔ 6 ≤ p := by
  have h1 : (5 : Int32).toInt = 5 := by decide
  have h2 : (6 : Int32).toInt = 6 := by decide
  rw [Int32.lt_iff_toInt_lt, Int32.le_iff_toInt_le, h1, h2]
  omega
theorem le3 {p : Int32} : p ≤ 3 ↔ p < 4 := by
  have h1 : (3 : Int32).toInt = 3 := by decide
  have h2 : (4 : Int32).toInt = 4 := by decide
  rw [Int32.le_iff_toInt_le, Int32.lt_iff_toInt_lt, h1, h2]
  omega
theorem word_ok (h : Rel a m v u) {f : Int32} : rWord v f = cWord u f := by
  unfold rWord cWord
  by_cases h1 : f < 0
  · rw [if_pos h1, if_pos h1]
  · rw [if_neg h1, if_neg h1]
    by_cases h2 : 16 ≤ f
    · rw [if_pos h2, if_neg (fun e => le15.mp e h2)]
    · rw [if_neg h2, if_pos (le15.mpr h2), h.wr _ (vin_lt (vin (m := 16) (n := 16) h1 h2))]
theorem isPage_eq {p : Int32} : cIsPage p = true ↔ (¬ p < 0 ∧ p ≤ 15) := by
  unfold cIsPage
  rw [le15]
  by_cases h1 : p < 0 <;> by_cases h2 : 16 ≤ p <;> simp [h1, h2]
theorem isSpace_eq {p : Int32} : cIsSpace p = true ↔ (¬ p < 0 ∧ ¬ 5 < p) := by
  unfold cIsSpace
  rw [lt5]
  by_cases h1 : p < 0 <;> by_cases h2 : 6 ≤ p <;> simp [h1, h2]
theorem place_eq (h : Rel a m v u) {s p : Int32} : rPlace v s p = if cIsSpace s = true ∧ cIsPage p = true ∧ cHolds u (sl s p) = true then nI (sl s p) else -1 := by
  unfold rPlace
  by_cases h1 : cIsSpace s = true
  · obtain ⟨g1, g2⟩ := isSpace_eq.mp h1
    rw [if_neg g1, if_neg g2]
    by_cases h2 : cIsPage p = true
    · obtain ⟨g3, g4⟩ := isPage_eq.mp h2
      have hs := sl_eq (cIsSpace_in h1) (cIsPage_in h2)
      rw [if_neg g3, if_neg (fun e => le15.mp g4 (lt15.mp e)), rsl_sl]
      have hh := held_f h.mr hs.2
      by_cases h3 : u 4 (sl s p) = 0
      · rw [if_neg (fun e => hh.mp e h3), if_neg (fun e => holds_t.mp e.2.2 h3)]
      · rw [if_pos (hh.mpr h3), if_pos ⟨h1, h2, holds_t.mpr h3⟩, ← hs.1, Int32.mul_comm]
    · rw [if_neg (c := cIsSpace s = true ∧ _) (fun e => h2 e.2.1)]
      by_cases g3 : p < 0
      · rw [if_pos g3]
      · rw [if_neg g3, if_pos]
        rw [lt15]
        rcases Decidable.em (16 ≤ p) with e | e
        · exact e
        · exact absurd (isPage_eq.mpr ⟨g3, le15.mpr e⟩) h2
  · rw [if_neg (c := cIsSpace s = true ∧ _) (fun e => h1 e.1)]
    by_cases g1 : s < 0
    · rw [if_pos g1]
    · rw [if_neg g1]
      by_cases g2 : 5 < s
      · rw [if_pos g2]
      · exact absurd (isSpace_eq.mpr ⟨g1, g2⟩) h1
theorem mapping_ok (h : Rel a m v u) {s p : Int32} : rMapping v s p = cMapping u s p := by
  unfold rMapping cMapping
  rw [place_eq h]
  by_cases h1 : cIsSpace s = true
  · rw [if_pos h1]
    by_cases h2 : cIsPage p = true
    · rw [if_pos h2]
      have hs := (sl_eq (cIsSpace_in h1) (cIsPage_in h2)).2
      unfold cDescribe
      by_cases h3 : cHolds u (sl s p) = true
      · obtain ⟨a1, a2, a3, -⟩ := (h.mr _ hs).2 (holds_t.mp h3)
        rw [if_pos (c := cIsSpace s = true ∧ _) ⟨h1, h2, h3⟩, if_pos (nI_pos' (by omega)), if_pos h3, ix_nI (by omega), a1, a2, a3]
      · rw [if_neg (c := cIsSpace s = true ∧ _) (fun e => h3 e.2.2), if_neg (by decide), if_neg h3]
    · rw [if_neg (c := cIsSpace s = true ∧ _) (fun e => h2 e.2.1), if_neg (by decide), if_neg h2]
  · rw [if_neg (c := cIsSpace s = true ∧ _) (fun e => h1 e.1), if_neg (by decide), if_neg h1]
theorem heirs_ok (h : Rel a m v u) {s p : Int32} : rHeirs v s p = cHeirs u s p := by
  unfold rHeirs cHeirs
  rw [place_eq h]
  by_cases h1 : cIsSpace s = true
  · rw [if_pos h1]
    by_cases h2 : cIsPage p = true
    · rw [if_pos h2]
      have hs := (sl_eq (cIsSpace_in h1) (cIsPage_in h2)).2
      by_cases h3 : cHolds u (sl s p) = true
      · rw [if_pos (c := cIsSpace s = true ∧ _) ⟨h1, h2, h3⟩, if_pos (nI_pos' (by omega)), if_pos h3]
        exact count_eq h.mr h.ci 96 (Nat.le_refl _)
      · rw [if_neg (c := cIsSpace s = true ∧ _) (fun e => h3 e.2.2), if_neg (by decide), if_neg h3]
    · rw [if_neg (c := cIsSpace s = true ∧ _) (fun e => h2 e.2.1), if_neg (by decide), if_neg h2]
  · rw [if_neg (c := cIsSpace s = true ∧ _) (fun e => h1 e.1), if_neg (by decide), if_neg h1]
theorem waits_eq (h : Rel a m v u) {i : Nat} (hi : i < 8) {t : Int32} : rWaits v i t = cWaitsTo u i t := by
  unfold rWaits cWaitsTo
  by_cases h1 : v 1 i = 0
  · rw [if_pos h1, (alive_eq h hi).mp h1]
    simp
  · rw [if_neg h1, (h.tt hi h1).1, h.e14 hi]
theorem waitCount_eq (h : Rel a m v u) {t : Int32} : ∀ n, n ≤ 8 → rWaitCount v t n = cWaitCount u t n
  | 0, _ => rfl
  | n + 1, hn => by
    unfold rWaitCount cWaitCount
    rw [waitCount_eq h n (by omega), waits_eq h (by omega)]
    by_cases h1 : cWaitsTo u n t = true
    · rw [if_pos h1, if_pos h1]
    · rw [if_neg h1, if_neg h1]
      simp
theorem waiting_ok (h : Rel a m v u) {t : Int32} : rWaiting v t = cWaiting u t := by
  unfold rWaiting cWaiting
  rw [thread_eq h]
  by_cases h1 : cIsThread u t = true
  · rw [if_pos h1, if_pos h1, waitCount_eq h 8 (Nat.le_refl _)]
  · rw [if_neg h1, if_neg h1]
theorem load_ok (h : Rel a m v u) (ha : a < 2 ^ 16) {t k x : Int32} : (rLoad v t k x).1 = (cLoad u t k x).1 ∧ Rel (a + 10) m (rLoad v t k x).2 (cLoad u t k x).2 := by
  have hm := h.mono (show a ≤ a + 10 by omega) (Nat.le_refl m)
  unfold rLoad cLoad
  rw [running_eq h]
  by_cases h1 : cIsRun u t = true
  · rw [if_pos h1, if_pos h1]
    by_cases h2 : k < 0
    · rw [if_pos h2, if_pos h2]; exact ⟨rfl, hm⟩
    · rw [if_neg h2, if_neg h2]
      by_cases h3 : k < 4
      · rw [if_pos h3, if_pos (le3.mpr h3)]
        have hk : vp_in k 4 := vin (m := 4) h2 (Int32.not_le.mpr h3)
        obtain ⟨r1, r2, r3⟩ := run_0 h h1
        rw [rg_ix (cIsRun_in h1) hk]
        exact ⟨rfl, (h.reg (by omega) r1 r2 (vin_lt hk)).mono (by omega) (Nat.le_refl _)⟩
      · rw [if_neg h3, if_neg (fun e => h3 (le3.mp e))]; exact ⟨rfl, hm⟩
  · rw [if_neg h1, if_neg h1]; exact ⟨rfl, hm⟩
theorem pageN_eq {p : Int32} : cIsPageN p = true ↔ (¬ p < -1 ∧ p ≤ 15) := by
  unfold cIsPageN
  have i1 : (-1 : Int32).toInt = -1 := by decide
  have i2 : (15 : Int32).toInt = 15 := by decide
  have i0 : (0 : Int32).toInt = 0 := by decide
  by_cases h1 : p = -1
  · subst h1
    simp
  · rw [if_neg h1]
    have hne : p.toInt ≠ -1 := fun e => h1 (Int32.toInt_inj.mp (by rw [e, i1]))
    have : cIsPage p = true ↔ (¬ p < -1 ∧ p ≤ 15) := by
      rw [isPage_eq, Int32.lt_iff_toInt_lt, Int32.lt_iff_toInt_lt, Int32.le_iff_toInt_le, i0, i1, i2]
      omega
    by_cases h2 : cIsPage p = true
    · rw [if_pos h2]
      exact ⟨fun _ => this.mp h2, fun _ => rfl⟩
    · rw [if_neg h2]
      exact ⟨fun e => (by cases e), fun e => absurd (this.mpr e) h2⟩
theorem window_ok (h : Rel a m v u) (ha : a < 2 ^ 16) {t p : Int32} : (rWindow v t p).1 = (cWindow u t p).1 ∧ Rel (a + 10) m (rWindow v t p).2 (cWindow u t p).2 := by
  have hm := h.mono (show a ≤ a + 10 by omega) (Nat.le_refl m)
  unfold rWindow cWindow
  rw [running_eq h]
  by_cases h1 : cIsRun u t = true
  · rw [if_pos h1, if_pos h1]
    by_cases h2 : cIsPageN p = true
    · obtain ⟨g1, g2⟩ := pageN_eq.mp h2
      obtain ⟨r1, r2, r3⟩ := run_0 h h1
      rw [if_neg g1, if_pos g2, if_pos h2]
      exact ⟨rfl, (h.window (by omega) r1 r2 (cIsPageN_in h2)).mono (by omega) (Nat.le_refl _)⟩
    · rw [if_neg h2]
      by_cases g1 : p < -1
      · rw [if_pos g1]; exact ⟨rfl, hm⟩
      · rw [if_neg g1, if_neg (fun e => h2 (pageN_eq.mpr ⟨g1, e⟩))]; exact ⟨rfl, hm⟩
  · rw [if_neg h1, if_neg h1]; exact ⟨rfl, hm⟩
theorem isLevel_eq {n : Int32} : cIsLevel n = true ↔ (n = 1 ∨ n = 2) := by
  unfold cIsLevel
  by_cases h1 : n = 1 <;> by_cases h2 : n = 2 <;> simp [h1, h2]
theorem offer_ok (h : Rel a m v u) (ha : a < 2 ^ 16) {t p l g : Int32} : (rOfferCall v t p l g).1 = (cOfferCall u t p l g).1 ∧ Rel (a + 10) m (rOfferCall v t p l g).2 (cOfferCall u t p l g).2 := by
  have hm := h.mono (show a ≤ a + 10 by omega) (Nat.le_refl m)
  unfold rOfferCall cOfferCall
  rw [running_eq h]
  by_cases h1 : cIsRun u t = true
  · rw [if_pos h1, if_pos h1]
    by_cases h2 : cIsPageN p = true
    · obtain ⟨g1, g2⟩ := pageN_eq.mp h2
      obtain ⟨r1, r2, r3⟩ := run_0 h h1
      have hp := cIsPageN_in h2
      rw [if_neg g1, if_neg (fun e => le15.mp g2 (lt15.mp e)), if_pos h2]
      have hc : (¬ p < 0 ∧ l ≠ 1 ∧ l ≠ 2) ↔ (p ≠ -1 ∧ cIsLevel l = false) := by
        rw [m1_lt (m1_in hp)]
        have : cIsLevel l = false ↔ ¬ (l = 1 ∨ l = 2) := by rw [← isLevel_eq]; simp
        rw [this]
        simp [not_or]
      by_cases h3 : p ≠ -1 ∧ cIsLevel l = false
      · rw [if_pos h3, if_pos (hc.mpr h3)]; exact ⟨rfl, hm⟩
      · rw [if_neg h3, if_neg (fun e => h3 (hc.mp e))]
        refine ⟨rfl, (h.offerS (by omega) r1 r2 hp ?_).mono (by omega) (Nat.le_refl _)⟩
        by_cases hp1 : p = -1
        · exact Or.inl hp1
        · right
          apply isLevel_eq.mp
          cases hl : cIsLevel l with
          | true => rfl
          | false => exact absurd ⟨hp1, hl⟩ h3
    · rw [if_neg h2]
      by_cases g1 : p < -1
      · rw [if_pos g1]; exact ⟨rfl, hm⟩
      · rw [if_neg g1]
        by_cases g2 : 15 < p
        · rw [if_pos g2]; exact ⟨rfl, hm⟩
        · exact absurd (pageN_eq.mpr ⟨g1, le15.mpr (fun e => g2 (lt15.mpr e))⟩) h2
  · rw [if_neg h1, if_neg h1]; exact ⟨rfl, hm⟩
theorem rAttempt_1 {t : Nat} : rAttempt v t 1 = v 1 := by
  unfold rAttempt rAttempt2 rAttempt3 rDo rReport
  repeat' split
  all_goals simp [rRun, rLinger, rTake, kup_ne]
theorem access_ok (h : Rel a m v u) (ha : a < 2 ^ 16) {t p s x : Int32} : (rAccess v t p s x).1 = (cAccess u t p s x).1 ∧ Rel (a + 10) m (rAccess v t p s x).2 (cAccess u t p s x).2 := by
  have hm := h.mono (show a ≤ a + 10 by omega) (Nat.le_refl m)
  unfold rAccess cAccess
  rw [running_eq h]
  by_cases h1 : cIsRun u t = true
  · rw [if_pos h1, if_pos h1]
    by_cases h2 : cIsPage p = true
    · obtain ⟨g1, g2⟩ := isPage_eq.mp h2
      obtain ⟨r1, r2, r3⟩ := run_0 h h1
      rw [if_neg g1, if_pos g2, if_pos h2]
      have h3 := h.want (by omega) r1 r2 (p := p) (s := s) (x := x) (cIsPage_in h2) r3
      have hal : ¬ rWant v (ix t) p s x 1 (ix t) = 0 := by simpa [rWant, kup] using r2
      have h4 := h3.attempt (by omega) r1 hal (by simp [rWant, cWant, kup])
      have hal4 : ¬ rAttempt (rWant v (ix t) p s x) (ix t) 1 (ix t) = 0 := by rw [rAttempt_1]; exact hal
      have e1 := (h4.tt r1 hal4).1
      unfold rAcc2
      refine ⟨?_, h4.mono (by omega) (Nat.le_refl _)⟩
      dsimp only
      rw [e1]
    · rw [if_neg h2]
      by_cases g1 : p < 0
      · rw [if_pos g1]; exact ⟨rfl, hm⟩
      · rw [if_neg g1, if_neg (fun e => h2 (isPage_eq.mpr ⟨g1, e⟩))]; exact ⟨rfl, hm⟩
  · rw [if_neg h1, if_neg h1]; exact ⟨rfl, hm⟩
end KO3
