section KO2
variable {a m : Nat} {v u : kSt}
theorem m1_lt {x : Int32} (h : x = -1 ∨ 0 ≤ x) : x < 0 ↔ x = -1 := by
  rw [← m1_neg h, ← nlt_le]
  simp
theorem rHandOn_lo {i s t c : Nat} (hc : c < 20 ∨ c = 24) : rHandOn v i s t c = v c := by
  have hcl : rClean v t c = v c := by
    unfold rClean
    split
    · rfl
    · rw [kup_ne _ _ _ (by omega), rRem_ne (by omega)]
  unfold rHandOn rHand2 rDerive rMove
  split
  · rfl
  · split
    · split
      · split
        · split
          · exact hcl
          · rw [kup_ne _ _ _ (by omega), kup_ne _ _ _ (by omega), kup_ne _ _ _ (by omega), kup_ne _ _ _ (by omega), hcl]
        · rw [rAdopt_ne (by omega), kup_ne _ _ _ (by omega), kup_ne _ _ _ (by omega), kup_ne _ _ _ (by omega), kup_ne _ _ _ (by omega), kup_ne _ _ _ (by omega), hcl]
      · exact hcl
    · rfl
theorem rMsg2_lo {s r c : Nat} {p : Int32} (hc : c < 20 ∨ c = 24) : rMsg2 v s r p c = v c := by
  unfold rMsg2
  split
  · rfl
  · split
    · rfl
    · exact rHandOn_lo hc
theorem Rel.msg1 (h : Rel a m v u) (ha : a < 2 ^ 19) {s r : Nat} (hs : s < 8) (hr : r < 8) (har : ¬ v 1 r = 0) : Rel (a + 1) m (rMsg1 v s r (decide (v 13 r = 5))) (cPass1 u s r) := by
  unfold rMsg1 cPass1
  rw [← (h.tt hr har).1]
  by_cases h5 : v 13 r = 5
  · simp only [h5, decide_true, if_true]
    exact h.mono (by omega) (Nat.le_refl _)
  · simp only [h5, decide_false, if_false]
    have e0 := h.rg hs (k := 0) (by decide)
    have e1 := h.rg hs (k := 1) (by decide)
    have e2 := h.rg hs (k := 2) (by decide)
    have e3 := h.rg hs (k := 3) (by decide)
    rw [Nat.add_zero] at e0
    rw [e0, e1, e2, e3]
    exact h.take (by omega) hr har
theorem Rel.msg2 (h : Rel a m v u) {s r : Nat} (hs : s < 8) (hr : r < 8) (has : ¬ v 1 s = 0) (har : ¬ v 1 r = 0) : Rel a m (rMsg2 v s r (rPage v r (decide (v 13 r = 5)))) (cOffer1 u s r) := by
  have hpg : rPage v r (decide (v 13 r = 5)) = cPage u r := by
    unfold rPage cPage
    rw [← (h.tt hr har).1, h.e17 hr, h.e8 hr]
    by_cases h5 : v 13 r = 5 <;> simp [h5]
  have hcp := h.ci.page hr
  have hco := h.ci.offer hs
  rw [hpg]
  unfold rMsg2 cOffer1
  rw [h.e5 hs]
  simp only [m1_lt (m1_in hco), m1_lt (m1_in hcp)]
  by_cases h1 : u (8 + s) 5 = -1
  · rw [if_pos h1, if_pos h1]; exact h
  · rw [if_neg h1, if_neg h1]
    by_cases h2 : cPage u r = -1
    · rw [if_pos h2, if_pos h2]; exact h
    · rw [if_neg h2, if_neg h2, rsl_sl, rsl_sl, h.e2 hs, h.e2 hr]
      have k1 := (sl_eq (h.ci.space hs) (or_in hco h1)).2
      have k2 := (sl_eq (h.ci.space hr) (or_in hcp h2)).2
      refine h.handOn k1 k2 (h.e6 hs) (h.e7 hs) ?_
      rcases (h.tt hs has).2.2.1 with e | e
      · rw [h.e5 hs] at e; exact absurd e h1
      · exact e
/-- a message goes from s to r -/
theorem Rel.message (h : Rel a m v u) (ha : a < 2 ^ 17) {s r : Nat} (hs : s < 8) (hr : r < 8) (hsr : ¬ s = r) (has : ¬ v 1 s = 0) (har : ¬ v 1 r = 0) {c : Int32} : Rel (a + 10) m (rMessage v s r c) (cPass u s r c) := by
  have h1 := h.msg1 (s := s) (by omega) hs hr har
  have e13 : rMsg1 v s r (decide (v 13 r = 5)) 13 = v 13 := by unfold rMsg1; split <;> simp [rTake, kup_ne]
  have e1 : rMsg1 v s r (decide (v 13 r = 5)) 1 = v 1 := by unfold rMsg1; split <;> simp [rTake, kup_ne]
  have d13 := (h.tt hr har).1
  unfold rMessage rMsgB cPass cOffer
  rw [← d13]
  generalize rMsg1 v s r (decide (v 13 r = 5)) = v1 at h1 e13 e1 ⊢
  generalize cPass1 u s r = u1 at h1 ⊢
  have h2 := h1.msg2 hs hr (by rw [e1]; exact has) (by rw [e1]; exact har)
  rw [e13] at h2
  have f13 : rMsg2 v1 s r (rPage v1 r (decide (v 13 r = 5))) 13 = v 13 := by rw [rMsg2_lo (by omega), e13]
  have f1 : rMsg2 v1 s r (rPage v1 r (decide (v 13 r = 5))) 1 = v 1 := by rw [rMsg2_lo (by omega), e1]
  generalize rMsg2 v1 s r (rPage v1 r (decide (v 13 r = 5))) = v2 at h2 f13 f1 ⊢
  generalize cOffer1 u1 s r = u2 at h2 ⊢
  have h3 := h2.noOffer (by omega) hs (by rw [f1]; exact has)
  have g13 : kup v2 5 s (-1) 13 = v 13 := by rw [kup_ne _ _ _ (by decide), f13]
  have g1 : kup v2 5 s (-1) 1 = v 1 := by rw [kup_ne _ _ _ (by decide), f1]
  generalize kup v2 5 s (-1) = v3 at h3 g13 g1 ⊢
  generalize kup u2 (8 + s) 5 (-1) = u3 at h3 ⊢
  have has3 : ¬ v3 1 s = 0 := by rw [g1]; exact has
  have h4 : Rel (a + 3) m (rMsg3 v3 s r c) (cPass2 u3 s r c) := by
    unfold rMsg3 cPass2
    by_cases hc : c = 0
    · rw [if_pos hc, if_pos hc]
      exact h3.run (by omega) hs has3
    · rw [if_neg hc, if_neg hc]
      exact h3.recvW (by omega) hs has3 (on := nI r) (lim := -1) (dl := -1) (by rw [if_neg (by decide)]) (Or.inl rfl) (Or.inr (nI_pos' (by omega)))
  have i13 : rMsg3 v3 s r c 13 r = v 13 r := by
    have hrs : ¬ r = s := fun e => hsr e.symm
    unfold rMsg3
    split
    · simp [rRun, kup, hrs, g13]
    · simp [rLinger, kup, hrs, g13]
  have i1 : rMsg3 v3 s r c 1 = v 1 := by
    unfold rMsg3
    split
    · simp [rRun, kup_ne, g1]
    · simp [rLinger, kup_ne, g1]
  generalize rMsg3 v3 s r c = v4 at h4 i13 i1 ⊢
  generalize cPass2 u3 s r c = u4 at h4 ⊢
  have har4 : ¬ v4 1 r = 0 := by rw [i1]; exact har
  unfold rMsg4 cPass3
  by_cases h5 : v 13 r = 5
  · simp only [h5, decide_true, if_true]
    exact (h4.attempt (by omega) hr har4 ((h4.tt hr har4).2.2.2.1 (Or.inr (by rw [i13]; exact h5))).2.2).mono (by omega) (Nat.le_refl _)
  · simp only [h5, decide_false, if_false]
    exact (h4.run (by omega) hr har4).mono (by omega) (Nat.le_refl _)
-- who is there
theorem alive_eq (h : Rel a m v u) {i : Nat} (hi : i < 8) : v 1 i = 0 ↔ u (8 + i) 2 = -1 := (h.tr hi).2.2.1
theorem thread_eq (h : Rel a m v u) {t : Int32} : rThread v t = cIsThread u t := by
  unfold rThread cIsThread
  by_cases h1 : t < 0
  · rw [if_pos h1, if_pos h1]
  · rw [if_neg h1, if_neg h1]
    by_cases h2 : 8 ≤ t
    · rw [if_pos h2, if_pos h2]
    · rw [if_neg h2, if_neg h2]
      simp only [alive_eq h (vin_lt (vin (m := 8) (n := 8) h1 h2))]
theorem cIsThread_al (h : Rel a m v u) {t : Int32} (ht : cIsThread u t = true) : ¬ v 1 (ix t) = 0 := by
  intro e
  have h2 := (alive_eq h (vin_lt (cIsThread_in ht))).mp e
  unfold cIsThread at ht
  rw [h2] at ht
  split at ht
  · cases ht
  · split at ht
    · cases ht
    · simp at ht
theorem running_eq (h : Rel a m v u) {t : Int32} : rRunning v t = cIsRun u t := by
  unfold rRunning cIsRun
  rw [thread_eq h]
  by_cases h1 : cIsThread u t = true
  · rw [if_pos h1, if_pos h1, (h.tt (vin_lt (cIsThread_in h1)) (cIsThread_al h h1)).1]
  · rw [if_neg h1, if_neg h1]
theorem run_0 (h : Rel a m v u) {t : Int32} (hr : cIsRun u t = true) : ix t < 8 ∧ ¬ v 1 (ix t) = 0 ∧ v 13 (ix t) = 0 := by
  have h1 := cIsRun_th hr
  have h2 := cIsThread_al h h1
  have h3 := vin_lt (cIsThread_in h1)
  refine ⟨h3, h2, ?_⟩
  rw [(h.tt h3 h2).1]
  unfold cIsRun at hr
  rw [if_pos h1] at hr
  split at hr
  · assumption
  · cases hr
/-- a limit's end -/
theorem limit_ok (h : Rel a m v u) (hm : m < 2 ^ 20) {n : Int32} (h1 : ¬ n < -1) (h2 : n ≤ 100) (h0 : ¬ n = 0) : cDeadline u n = (if 0 ≤ n then v 0 0 + n else -1) ∧ (cDeadline u n = -1 ∨ v 0 0 < cDeadline u n) := by
  obtain ⟨k, hk, e1, e2⟩ := h.nr
  have hi1 : (-1 : Int32).toInt = -1 := by decide
  have hi2 : (100 : Int32).toInt = 100 := by decide
  have hi0 : (0 : Int32).toInt = 0 := by decide
  unfold cDeadline
  by_cases hn : n = -1
  · subst hn
    rw [if_pos rfl, if_neg (by decide)]
    exact ⟨rfl, Or.inl rfl⟩
  · rw [if_neg hn]
    have hpos : 1 ≤ n.toInt ∧ n.toInt ≤ 100 := by
      rw [Int32.lt_iff_toInt_lt, hi1] at h1
      rw [Int32.le_iff_toInt_le, hi2] at h2
      have g0 : n.toInt ≠ 0 := fun e => h0 (Int32.toInt_inj.mp (by rw [e, hi0]))
      have g1 : n.toInt ≠ -1 := fun e => hn (Int32.toInt_inj.mp (by rw [e, hi1]))
      omega
    have hge : 0 ≤ n := by
      rw [Int32.le_iff_toInt_le, hi0]
      omega
    obtain ⟨j, hj, rfl⟩ := nI_of (x := n) (fun e => by rw [Int32.lt_iff_toInt_lt, hi0] at e; omega)
    rw [nI_toInt hj] at hpos
    rw [if_pos hge, e1, e2, nI_add]
    exact ⟨rfl, Or.inr (nI_lt (by omega) (by omega))⟩
theorem isLimit_eq {n : Int32} : cIsLimit n = true ↔ (¬ n < -1 ∧ n ≤ 100) := by
  unfold cIsLimit
  have : (100 : Int32) < n ↔ ¬ n ≤ 100 := by
    rw [Int32.lt_iff_toInt_lt, Int32.le_iff_toInt_le]
    omega
  by_cases h1 : n < -1
  · simp [h1]
  · by_cases h2 : n ≤ 100
    · simp [h1, h2, this]
    · simp [h1, h2, this]
theorem th_ge {n : Nat} {t : Int32} (h : vp_in t n) : t = -1 ∨ 0 ≤ t := Or.inr (vin_ge h)
/-- send and call -/
theorem speak_ok (h : Rel a m v u) (ha : a < 2 ^ 16) (hm : m < 2 ^ 20) {t o n c st : Int32} (hc : (c = 0 ∧ st = 1) ∨ (c = 1 ∧ st = 3)) :
    rSpeak v t o n c = ((if cMaySend u t o n = true then (if cTakes u (ix o) t = true then (c, rMessage v (ix t) (ix o) c) else (cWaitSendN n, if n = 0 then kup v 9 (ix t) 1 else rLinger v (ix t) st o n)) else (-1, v)))
    ∧ (cMaySend u t o n = true → Rel (a + 10) m (if cTakes u (ix o) t = true then rMessage v (ix t) (ix o) c else if n = 0 then kup v 9 (ix t) 1 else rLinger v (ix t) st o n) (if cTakes u (ix o) t = true then cPass u (ix t) (ix o) c else cWaitSend u (ix t) st o n)) := by
  constructor
  · unfold rSpeak cMaySend
    rw [running_eq h, thread_eq h]
    by_cases h1 : cIsRun u t = true
    · rw [if_pos h1, if_pos h1]
      by_cases h2 : o = t
      · rw [if_pos h2, if_pos h2]; simp
      · rw [if_neg h2, if_neg h2]
        by_cases h3 : cIsThread u o = true
        · rw [if_pos h3, if_pos h3]
          by_cases h4 : cIsLimit n = true
          · obtain ⟨h5, h6⟩ := isLimit_eq.mp h4
            have hto := cIsThread_in h3
            have htt := cIsRun_in h1
            rw [if_neg h5, if_pos h6, if_pos h4, if_pos rfl]
            unfold rSpk
            rw [takes_eq h (vin_lt hto) (vin_lt htt) (cIsThread_al h h3), ← vin_eq htt, ← vin_eq hto]
            by_cases h7 : cTakes u (ix o) t = true
            · rw [if_pos h7, if_pos h7]
              rcases hc with ⟨rfl, rfl⟩ | ⟨rfl, rfl⟩ <;> rfl
            · rw [if_neg h7, if_neg h7]
              unfold cWaitSendN
              by_cases h8 : n = 0
              · rw [if_pos h8, if_pos h8, if_pos h8]
              · rw [if_neg h8, if_neg h8, if_neg h8]
                rcases hc with ⟨rfl, rfl⟩ | ⟨rfl, rfl⟩ <;> rfl
          · have h5 : ¬ (¬ n < -1 ∧ n ≤ 100) := fun e => h4 (isLimit_eq.mpr e)
            rw [if_neg h4]
            by_cases h6 : n < -1
            · rw [if_pos h6]; simp
            · rw [if_neg h6, if_neg (fun e => h5 ⟨h6, e⟩)]; simp
        · rw [if_neg h3, if_neg h3]; simp
    · rw [if_neg h1, if_neg h1]; simp
  · intro hms
    obtain ⟨h1, h2, h3, h4⟩ := cMaySend_in hms
    obtain ⟨h5, h6⟩ := isLimit_eq.mp h4
    obtain ⟨r1, r2, r3⟩ := run_0 h h1
    have hto := cIsThread_in h3
    have hao := cIsThread_al h h3
    by_cases h7 : cTakes u (ix o) t = true
    · rw [if_pos h7, if_pos h7]
      refine h.message (by omega) r1 (vin_lt hto) (fun e => h2 ?_) r2 hao
      rw [vin_eq hto, vin_eq (cIsRun_in h1), e]
    · rw [if_neg h7, if_neg h7]
      unfold cWaitSend
      by_cases h8 : n = 0
      · rw [if_pos h8, if_pos h8]
        exact (h.gaveUp (by omega) r1 r2 r3).mono (by omega) (Nat.le_refl _)
      · rw [if_neg h8, if_neg h8]
        obtain ⟨l1, l2⟩ := limit_ok h hm h5 h6 h8
        refine (h.sendW (by omega) r1 r2 (st := st) (on := o) (lim := n) (dl := cDeadline u n) ?_ l1 l2 (th_ge hto)).mono (by omega) (Nat.le_refl _)
        rcases hc with ⟨-, rfl⟩ | ⟨-, rfl⟩
        · exact Or.inl rfl
        · exact Or.inr rfl
theorem send_ok (h : Rel a m v u) (ha : a < 2 ^ 16) (hm : m < 2 ^ 20) {t o n : Int32} : (rSpeak v t o n 0).1 = (cSend u t o n).1 ∧ Rel (a + 10) m (rSpeak v t o n 0).2 (cSend u t o n).2 := by
  obtain ⟨e1, e2⟩ := speak_ok h ha hm (t := t) (o := o) (n := n) (c := 0) (st := 1) (Or.inl ⟨rfl, rfl⟩)
  rw [e1]
  unfold cSend
  by_cases hms : cMaySend u t o n = true
  · have e3 := e2 hms
    rw [if_pos hms, if_pos hms]
    by_cases h7 : cTakes u (ix o) t = true
    · rw [if_pos h7, if_pos h7] at e3 ⊢
      exact ⟨rfl, e3⟩
    · rw [if_neg h7, if_neg h7] at e3 ⊢
      exact ⟨rfl, e3⟩
  · rw [if_neg hms, if_neg hms]
    exact ⟨rfl, h.mono (by omega) (Nat.le_refl _)⟩
theorem call_ok (h : Rel a m v u) (ha : a < 2 ^ 16) (hm : m < 2 ^ 20) {t o n : Int32} : (rSpeak v t o n 1).1 = (cCall u t o n).1 ∧ Rel (a + 10) m (rSpeak v t o n 1).2 (cCall u t o n).2 := by
  obtain ⟨e1, e2⟩ := speak_ok h ha hm (t := t) (o := o) (n := n) (c := 1) (st := 3) (Or.inr ⟨rfl, rfl⟩)
  rw [e1]
  unfold cCall
  by_cases hms : cMaySend u t o n = true
  · have e3 := e2 hms
    rw [if_pos hms, if_pos hms]
    by_cases h7 : cTakes u (ix o) t = true
    · rw [if_pos h7, if_pos h7] at e3 ⊢
      exact ⟨rfl, e3⟩
    · rw [if_neg h7, if_neg h7] at e3 ⊢
      exact ⟨rfl, e3⟩
  · rw [if_neg hms, if_neg hms]
    exact ⟨rfl, h.mono (by omega) (Nat.le_refl _)⟩
end KO2
