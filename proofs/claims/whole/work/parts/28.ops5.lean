section KO5
variable {a m : Nat} {v u : kSt}
theorem kup_comm {w : kSt} {c d i j : Nat} {x y : Int32} (h : c ≠ d) : kup (kup w c i x) d j y = kup (kup w d j y) c i x := by
  funext e k
  by_cases h1 : e = c ∧ k = i
  · obtain ⟨rfl, rfl⟩ := h1
    simp [kup, h]
  · by_cases h2 : e = d ∧ k = j
    · obtain ⟨rfl, rfl⟩ := h2
      simp [kup, Ne.symm h]
    · simp [kup, h1, h2]
/-- NOW becomes 1 more, where no time is over -/
theorem Rel.now (h : Rel a m v u) {k : Nat} (hk : k < 2 ^ 20) (hkm : k ≤ m) (h0 : v 0 0 = nI k) (hd : ∀ j, j < 8 → ¬ v 1 j = 0 → (v 13 j = 1 ∨ v 13 j = 2 ∨ v 13 j = 3) → v 15 j = -1 ∨ nI (k + 1) < v 15 j) : Rel a (m + 1) (kup v 0 0 (nI (k + 1))) (kup u 0 3 (nI (k + 1))) := by
  have hv : ∀ c, c ≠ 0 → kup v 0 0 (nI (k + 1)) c = v c := fun c hc => kup_ne _ _ _ hc
  have hu : ∀ c, c ≠ 0 → kup u 0 3 (nI (k + 1)) c = u c := fun c hc => kup_ne _ _ _ hc
  have e8 : ∀ i, kup u 0 3 (nI (k + 1)) (8 + i) = u (8 + i) := fun i => kup_ne _ _ _ (by omega)
  have e16 : ∀ i, kup u 0 3 (nI (k + 1)) (16 + i) = u (16 + i) := fun i => kup_ne _ _ _ (by omega)
  refine ⟨h.ci.up cOk_0, h.ri.up (rOk_any (by decide)), fun i hi => ?_, ?_, ?_, ?_, ?_, ?_, ?_, ?_⟩
  · have hT := h.tr hi
    unfold TR at hT ⊢
    rw [e8, e16, hv 1 (by omega), hv 2 (by omega), hv 3 (by omega), hv 4 (by omega), hv 5 (by omega), hv 6 (by omega), hv 7 (by omega), hv 8 (by omega), hv 9 (by omega), hv 10 (by omega), hv 11 (by omega), hv 12 (by omega), hv 13 (by omega), hv 14 (by omega), hv 15 (by omega), hv 17 (by omega), hv 18 (by omega), hv 19 (by omega), kup_eq]
    refine ⟨hT.1, hT.2.1, hT.2.2.1, fun hal => ?_⟩
    obtain ⟨c1, c2, c3, c4, c5⟩ := hT.2.2.2 hal
    exact ⟨c1, c2, c3, c4, fun hw => ⟨(c5 hw).1, hd i hi hal hw⟩⟩
  · have := h.pr
    unfold PR at this ⊢
    rw [hv 1 (by omega), hv 3 (by omega)]
    exact this
  · have := h.or
    unfold OR ws at this ⊢
    simp only [e8]
    rw [hv 1 (by omega), hv 13 (by omega), hv 16 (by omega)]
    exact this
  · have := h.bd
    unfold BD ws at this ⊢
    simp only [e8]
    rw [hv 1 (by omega), hv 13 (by omega), hv 16 (by omega), kup_j (by decide), kup_j (by decide)]
    exact this
  · rw [hv 20 (by omega), hv 21 (by omega), hv 22 (by omega), hv 23 (by omega), hu 4 (by omega), hu 5 (by omega), hu 6 (by omega), hu 7 (by omega)]
    exact h.mr
  · have := h.wr
    unfold WR at this ⊢
    rw [hv 24 (by omega), hu 3 (by omega)]
    exact this
  · exact ⟨k + 1, by omega, kup_eq _ _ _ _, kup_eq _ _ _ _⟩
  · have := h.xr
    unfold XR at this ⊢
    rw [hv 14 (by omega)]
    exact this
theorem tick_ind (h : Rel a m v u) (ha : a < 2 ^ 18) {k : Nat} (hk : k < 2 ^ 20) (h0 : v 0 0 = nI k) (hu0 : u 0 3 = nI k) : ∀ n, n ≤ 8 → ∃ w z, rTickS (kup v 0 0 (nI (k + 1))) n = kup w 0 0 (nI (k + 1)) ∧ cTickS (kup u 0 3 (nI (k + 1))) n = kup z 0 3 (nI (k + 1)) ∧ Rel (a + n) m w z ∧ w 0 0 = nI k ∧ rTickN (kup v 0 0 (nI (k + 1))) n = cTickN (kup u 0 3 (nI (k + 1))) n ∧ ∀ j, j < n → ¬ w 1 j = 0 → (w 13 j = 1 ∨ w 13 j = 2 ∨ w 13 j = 3) → w 15 j = -1 ∨ nI (k + 1) < w 15 j := by
  intro n
  induction n with
  | zero => exact fun _ => ⟨v, u, rfl, rfl, h, h0, rfl, fun j hj => by omega⟩
  | succ n ih =>
    intro hn
    obtain ⟨w, z, e1, e2, hR, hw0, hN, hdl⟩ := ih (by omega)
    have hn8 : n < 8 := by omega
    have hB : rTickB (kup w 0 0 (nI (k + 1))) n = true ↔ (¬ w 1 n = 0 ∧ (w 13 n = 1 ∨ w 13 n = 3 ∨ w 13 n = 2) ∧ ¬ w 15 n < 0 ∧ ¬ nI (k + 1) < w 15 n) := by
      unfold rTickB
      rw [kup_o (by decide), kup_o (by decide), kup_o (by decide), kup_eq]
      by_cases q1 : w 1 n = 0
      · simp [q1]
      · by_cases q2 : w 13 n = 1 ∨ w 13 n = 3 ∨ w 13 n = 2
        · by_cases q3 : w 15 n < 0
          · simp [q1, q2, q3]
          · by_cases q4 : nI (k + 1) < w 15 n
            · simp [q1, q2, q3, q4]
            · rw [if_neg q1, if_pos q2, if_neg q3, if_neg q4]
              exact ⟨fun _ => ⟨q1, q2, q3, q4⟩, fun _ => rfl⟩
        · simp [q1, q2]
    have hW : cWaits (kup z 0 3 (nI (k + 1))) n = true ↔ (z (8 + n) 2 = 1 ∨ z (8 + n) 2 = 2 ∨ z (8 + n) 2 = 3) := by
      unfold cWaits
      rw [kup_o (by omega)]
      by_cases q1 : z (8 + n) 2 = 1 <;> by_cases q2 : z (8 + n) 2 = 2 <;> by_cases q3 : z (8 + n) 2 = 3 <;> simp [q1, q2, q3]
    have hBC : rTickB (kup w 0 0 (nI (k + 1))) n = true ↔ (cWaits (kup z 0 3 (nI (k + 1))) n = true ∧ kup z 0 3 (nI (k + 1)) (8 + n) 14 = kup z 0 3 (nI (k + 1)) 0 3) := by
      rw [hB, hW, kup_o (show 8 + n ≠ 0 by omega), kup_eq]
      by_cases q1 : w 1 n = 0
      · have := (alive_eq hR hn8).mp q1
        simp [q1, this]
      · obtain ⟨c1, c2, c3, c4, c5⟩ := hR.tt hn8 q1
        rw [c1]
        constructor
        · rintro ⟨-, g1, g2, g3⟩
          have g1' : z (8 + n) 2 = 1 ∨ z (8 + n) 2 = 2 ∨ z (8 + n) 2 = 3 := by
            rcases g1 with g | g | g
            · exact Or.inl g
            · exact Or.inr (Or.inr g)
            · exact Or.inr (Or.inl g)
          refine ⟨g1', ?_⟩
          obtain ⟨d1, d2⟩ := c5 (by rw [c1]; exact g1')
          rw [← d1]
          rcases d2 with d | d
          · exact absurd (show w 15 n < 0 by rw [d]; decide) g2
          · rw [hw0] at d
            rw [Int32.lt_iff_toInt_lt, nI_toInt (by omega)] at d g3
            apply Int32.toInt_inj.mp
            rw [nI_toInt (by omega)]
            omega
        · rintro ⟨g1, g2⟩
          obtain ⟨d1, d2⟩ := c5 (by rw [c1]; exact g1)
          have e9 : w 15 n = nI (k + 1) := by rw [d1, g2]
          rw [e9]
          refine ⟨q1, ?_, nI_pos (by omega), nI_nlt (by omega) (by omega)⟩
          rcases g1 with g | g | g
          · exact Or.inl g
          · exact Or.inr (Or.inr g)
          · exact Or.inr (Or.inl g)
    have s1 : rTickS (kup v 0 0 (nI (k + 1))) (n + 1) = if rTickB (kup w 0 0 (nI (k + 1))) n = true then rRun (kup w 0 0 (nI (k + 1))) n 1 else kup w 0 0 (nI (k + 1)) := by rw [rTickS, e1]
    have s2 : cTickS (kup u 0 3 (nI (k + 1))) (n + 1) = if cWaits (kup z 0 3 (nI (k + 1))) n = true ∧ kup z 0 3 (nI (k + 1)) (8 + n) 14 = kup z 0 3 (nI (k + 1)) 0 3 then cRun (kup z 0 3 (nI (k + 1))) n 1 else kup z 0 3 (nI (k + 1)) := by rw [cTickS, e2]
    have s3 : rTickN (kup v 0 0 (nI (k + 1))) (n + 1) = if rTickB (kup w 0 0 (nI (k + 1))) n = true then rTickN (kup v 0 0 (nI (k + 1))) n + 1 else rTickN (kup v 0 0 (nI (k + 1))) n := by rw [rTickN, e1]
    have s4 : cTickN (kup u 0 3 (nI (k + 1))) (n + 1) = if cWaits (kup z 0 3 (nI (k + 1))) n = true ∧ kup z 0 3 (nI (k + 1)) (8 + n) 14 = kup z 0 3 (nI (k + 1)) 0 3 then cTickN (kup u 0 3 (nI (k + 1))) n + 1 else cTickN (kup u 0 3 (nI (k + 1))) n := by rw [cTickN, e2]
    rw [s1, s2, s3, s4]
    by_cases hb : rTickB (kup w 0 0 (nI (k + 1))) n = true
    · have hc := hBC.mp hb
      rw [if_pos hb, if_pos hc, if_pos hb, if_pos hc, hN]
      have hal := (hB.mp hb).1
      refine ⟨rRun w n 1, cRun z n 1, ?_, ?_, hR.run (by omega) hn8 hal, ?_, rfl, fun j hj g1 g2 => ?_⟩
      · unfold rRun
        rw [kup_comm (c := 0) (d := 13) (by decide), kup_comm (c := 0) (d := 9) (by decide)]
      · unfold cRun
        rw [kup_comm (c := 0) (d := 8 + n) (by omega), kup_comm (c := 0) (d := 8 + n) (by omega)]
      · simp [rRun, kup, hw0]
      · by_cases hjn : j = n
        · subst hjn
          simp [rRun, kup] at g2
        · simp [rRun, kup, hjn] at g1 g2 ⊢
          exact hdl j (by omega) g1 g2
    · have hc : ¬ _ := fun e => hb (hBC.mpr e)
      rw [if_neg hb, if_neg hc, if_neg hb, if_neg hc]
      refine ⟨w, z, rfl, rfl, hR.mono (by omega) (Nat.le_refl _), hw0, hN, fun j hj g1 g2 => ?_⟩
      by_cases hjn : j = n
      · subst hjn
        obtain ⟨d1, d2⟩ := (hR.tt hn8 g1).2.2.2.2 g2
        rcases d2 with d | d
        · exact Or.inl d
        · right
          rcases Decidable.em (nI (k + 1) < w 15 j) with q | q
          · exact q
          · refine absurd (hB.mpr ⟨g1, ?_, ?_, q⟩) hb
            · rcases g2 with g | g | g
              · exact Or.inl g
              · exact Or.inr (Or.inr g)
              · exact Or.inr (Or.inl g)
            · intro q2
              rw [hw0, Int32.lt_iff_toInt_lt, nI_toInt (by omega)] at d
              rw [Int32.lt_iff_toInt_lt, Int32.toInt_zero] at q2
              omega
      · exact hdl j (by omega) g1 g2
theorem tick_ok (h : Rel a m v u) (ha : a < 2 ^ 16) (hm : m < 2 ^ 19) : (rTick v).1 = (cTick u).1 ∧ Rel (a + 10) (m + 1) (rTick v).2 (cTick u).2 := by
  obtain ⟨k, hk, h1, h2⟩ := h.nr
  obtain ⟨w, z, e1, e2, hR, hw0, hN, hdl⟩ := tick_ind h (by omega) (show k < 2 ^ 20 by omega) h1 h2 8 (Nat.le_refl _)
  unfold rTick cTick
  rw [h1, h2, nI_1]
  dsimp only
  refine ⟨hN, ?_⟩
  rw [e1, e2]
  exact (hR.now (by omega) hk hw0 hdl).mono (by omega) (Nat.le_refl _)
-- spawn
theorem free_eq (h : Rel a m v u) : ∀ k, k ≤ 8 → rFree v k = cFree u (8 - k) k
  | 0, _ => rfl
  | k + 1, hk => by
    unfold rFree cFree
    rw [free_eq h k (by omega), show 8 - (k + 1) = 7 - k by omega, show 7 - k + 1 = 8 - k by omega]
    simp only [alive_eq h (show 7 - k < 8 by omega)]
theorem cFree_dead {u : kSt} : ∀ (k n : Nat), n + k = 8 → ¬ cFree u n k = -1 → u (8 + ix (cFree u n k)) 2 = -1
  | 0, n, _, h => absurd rfl h
  | k + 1, n, hn, h => by
    unfold cFree at h ⊢
    by_cases h1 : u (8 + n) 2 = -1
    · rw [if_pos h1, ix_nI (by omega)]
      exact h1
    · rw [if_neg h1] at h ⊢
      exact cFree_dead k (n + 1) (by omega) h
theorem Rel.begin (h : Rel a m v u) (ha : a < 2 ^ 20) {i : Nat} (hi : i < 8) (hd : v 1 i = 0) {s p : Int32} (hs : vp_in s 6) (hp : p = -1 ∨ (vp_in p 8 ∧ ¬ v 1 (ix p) = 0)) : Rel (a + 1) m (rBegin v i s p) (cBegin u i s p) := by
  have hpi : ∀ j, ¬ v 1 j = 0 → ¬ j = i := fun j hj e => hj (by rw [e]; exact hd)
  have hOB := OB_keep (v' := rBegin v i s p) (u' := cBegin u i s p) h.or h.bd ha i (fun c j hj hc => by rcases hc with rfl | rfl | rfl <;> simp [rBegin, rClear, kup, hj]) (fun j hj => by simp [cBegin, cClear, kup, hj]) (fun hw => by simp [ws, rBegin, rClear, kup] at hw) (Or.inl (by simp [rBegin, rClear, kup])) (by unfold cBegin; simp only [cClear]; repeat rw [kup_o (by omega)])
  have hci : cInv (cBegin u i s p) := by
    unfold cBegin
    refine ((((((((?_ : cInv _).up (cOk_t (by decide))).up ?_).up ?_).up cOk_off).up (cOk_win (Or.inl rfl))).up (cOk_t (by decide))).up (cOk_t (by decide))).up (cOk_t (by decide)) |>.up (cOk_t (by decide))
    · simp only [cClear]
      exact (((h.ci.up cOk_r).up cOk_r).up cOk_r).up cOk_r
    · exact ⟨fun _ _ => ⟨fun e => by omega, fun _ => hs, fun e => by omega, fun e => by omega, fun e => by omega, fun e => by omega⟩, fun e => by omega, fun e => by omega, fun e => by omega⟩
    · exact ⟨fun _ _ => ⟨fun e => by omega, fun e => by omega, fun _ => hp.imp id (fun z => z.1), fun e => by omega, fun e => by omega, fun e => by omega⟩, fun e => by omega, fun e => by omega, fun e => by omega⟩
  have hri : rInv (rBegin v i s p) := by
    unfold rBegin
    refine ((((((?_ : rInv _).up (rOk_5 (Or.inl rfl))).up (rOk_8 (Or.inl rfl))).up (rOk_any (by decide))).up (rOk_any (by decide))).up (rOk_any (by decide))).up (rOk_any (by decide)) |>.up (rOk_any (by decide))
    simp only [rClear]
    exact ((((((h.ri.up (rOk_any (by decide))).up (rOk_2 hs)).up (rOk_3 (hp.imp id (fun z => z.1)))).up (rOk_any (by decide))).up (rOk_any (by decide))).up (rOk_any (by decide))).up (rOk_any (by decide))
  have r20 : ∀ c, 20 ≤ c → rBegin v i s p c = v c := by
    intro c hc
    unfold rBegin
    simp only [rClear]
    repeat rw [kup_ne _ _ _ (by omega)]
  have c7 : ∀ c, c < 8 → cBegin u i s p c = u c := by
    intro c hc
    unfold cBegin
    simp only [cClear]
    repeat rw [kup_ne _ _ _ (by omega)]
  refine ⟨hci, hri, fun j hj => ?_, fun j hj => ?_, hOB.1, hOB.2, ?_, ?_, ?_, ?_⟩
  · by_cases hji : j = i
    · subst hji
      obtain ⟨⟨e2, e5, e6, e7, e8, e9, e10, e11, e12, e14, e17, e19⟩, -, -, -⟩ := h.tr hj
      refine ⟨by simp [rBegin, rClear, cBegin, cClear, kup, e6, e7, e14, e17, e19], fun k hk => ?_, by simp [rBegin, rClear, cBegin, cClear, kup], fun _ => ⟨by simp [rBegin, rClear, cBegin, cClear, kup], by simp [rBegin, rClear, cBegin, cClear, kup], by simp [rBegin, rClear, kup], by simp [rBegin, rClear, kup], by simp [rBegin, rClear, kup]⟩⟩
      rcases (show k = 0 ∨ k = 1 ∨ k = 2 ∨ k = 3 by omega) with rfl | rfl | rfl | rfl <;> simp [rBegin, rClear, cBegin, cClear, kup]
    · have hT := h.tr hj
      have q8 : cBegin u i s p (8 + j) = u (8 + j) := by
        unfold cBegin
        simp only [cClear]
        repeat rw [kup_ne _ _ _ (by omega)]
      have q16 : cBegin u i s p (16 + j) = u (16 + j) := by
        unfold cBegin
        simp only [cClear]
        repeat rw [kup_ne _ _ _ (by omega)]
      have hv : ∀ c, c ≠ 4 → rBegin v i s p c j = v c j := by
        intro c hc
        simp [rBegin, rClear, kup, hji, hc]
      have hv4 : ∀ k, k < 4 → rBegin v i s p 4 (4 * j + k) = v 4 (4 * j + k) := by
        intro k hk
        have : ∀ n, n < 4 → ¬ 4 * j + k = 4 * i + n := fun n hn => by omega
        have t0 := this 0 (by decide)
        rw [Nat.add_zero] at t0
        simp [rBegin, rClear, kup, this 1 (by decide), this 2 (by decide), this 3 (by decide), t0]
      have hv0 : rBegin v i s p 0 0 = v 0 0 := by simp [rBegin, rClear, kup]
      unfold TR at hT ⊢
      rw [q8, q16, hv0, hv 1 (by omega), hv 2 (by omega), hv 3 (by omega), hv 5 (by omega), hv 6 (by omega), hv 7 (by omega), hv 8 (by omega), hv 9 (by omega), hv 10 (by omega), hv 11 (by omega), hv 12 (by omega), hv 13 (by omega), hv 14 (by omega), hv 15 (by omega), hv 17 (by omega), hv 18 (by omega), hv 19 (by omega)]
      exact ⟨hT.1, fun k hk => by rw [hv4 k hk]; exact hT.2.1 k hk, hT.2.2⟩
  · by_cases hji : j = i
    · subst hji
      intro _
      have e3 : rBegin v j s p 3 j = p := by simp [rBegin, rClear, kup]
      rw [e3]
      rcases hp with hp | ⟨hp1, hp2⟩
      · exact Or.inl hp
      · refine Or.inr ⟨hp1, ?_, hpi _ hp2⟩
        have : rBegin v j s p 1 (ix p) = v 1 (ix p) := by simp [rBegin, rClear, kup, hpi _ hp2]
        rw [this]
        exact hp2
    · have e3 : rBegin v i s p 3 j = v 3 j := by simp [rBegin, rClear, kup, hji]
      have e1 : rBegin v i s p 1 j = v 1 j := by simp [rBegin, rClear, kup, hji]
      rw [e3, e1]
      intro hal
      rcases h.pr j hj hal with q | ⟨q1, q2, q3⟩
      · exact Or.inl q
      · refine Or.inr ⟨q1, ?_, q3⟩
        have : rBegin v i s p 1 (ix (v 3 j)) = v 1 (ix (v 3 j)) := by simp [rBegin, rClear, kup, hpi _ q2]
        rw [this]
        exact q2
  · rw [r20 20 (by omega), r20 21 (by omega), r20 22 (by omega), r20 23 (by omega), c7 4 (by omega), c7 5 (by omega), c7 6 (by omega), c7 7 (by omega)]
    exact h.mr
  · intro f hf
    rw [r20 24 (by omega), c7 3 (by omega)]
    exact h.wr f hf
  · obtain ⟨k, h1, h2, h3⟩ := h.nr
    refine ⟨k, h1, ?_, ?_⟩
    · have : rBegin v i s p 0 0 = v 0 0 := by simp [rBegin, rClear, kup]
      rw [this]; exact h2
    · rw [c7 0 (by omega)]; exact h3
  · intro j hj
    have : rBegin v i s p 14 j = v 14 j := by simp [rBegin, rClear, kup]
    rw [this]
    exact h.xr j hj
theorem spawn_ok (h : Rel a m v u) (ha : a < 2 ^ 16) {s p : Int32} : (rSpawn v s p).1 = (cSpawn u s p).1 ∧ Rel (a + 10) m (rSpawn v s p).2 (cSpawn u s p).2 := by
  have hmn := h.mono (show a ≤ a + 10 by omega) (Nat.le_refl m)
  have hfe : rFree v 8 = cFree u 0 8 := free_eq h 8 (Nat.le_refl _)
  have hfi := rFree_in (v := v) 8
  unfold rSpawn rSp2 cSpawn
  rw [thread_eq h, hfe]
  rw [hfe] at hfi
  by_cases h1 : cIsSpace s = true
  · obtain ⟨g1, g2⟩ := isSpace_eq.mp h1
    rw [if_neg g1, if_neg g2, if_pos h1]
    by_cases h2 : p = -1 ∨ cIsThread u p = true
    · have h2' : ¬ (p ≠ -1 ∧ cIsThread u p = false) := by
        rintro ⟨q1, q2⟩
        rcases h2 with q | q
        · exact q1 q
        · rw [q] at q2; cases q2
      rw [if_neg h2', if_pos h2]
      by_cases h3 : cFree u 0 8 = -1
      · rw [if_pos h3, if_neg (by rw [h3]; decide)]
        exact ⟨rfl, hmn⟩
      · have hin := hfi.resolve_left h3
        have hi := vin_lt hin
        rw [if_neg h3, if_pos (vin_ge hin)]
        refine ⟨rfl, (h.begin (by omega) hi ((alive_eq h hi).mpr (cFree_dead 8 0 rfl h3)) (cIsSpace_in h1) ?_).mono (by omega) (Nat.le_refl _)⟩
        rcases h2 with q | q
        · exact Or.inl q
        · exact Or.inr ⟨cIsThread_in q, cIsThread_al h q⟩
    · have h2' : p ≠ -1 ∧ cIsThread u p = false := by
        refine ⟨fun q => h2 (Or.inl q), ?_⟩
        cases q : cIsThread u p with
        | false => rfl
        | true => exact absurd (Or.inr q) h2
      rw [if_pos h2', if_neg h2]
      exact ⟨rfl, hmn⟩
  · rw [if_neg h1]
    by_cases g1 : s < 0
    · rw [if_pos g1]; exact ⟨rfl, hmn⟩
    · rw [if_neg g1, if_pos]
      · exact ⟨rfl, hmn⟩
      · rcases Decidable.em (5 < s) with e | e
        · exact e
        · exact absurd (isSpace_eq.mpr ⟨g1, e⟩) h1
end KO5
