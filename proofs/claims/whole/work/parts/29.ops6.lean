section KO6
variable {a m : Nat} {v u : kSt}
theorem rMeets_iff {i : Nat} {t : Int32} : rMeets v i t = true ↔ ((v 13 i = 1 ∨ v 13 i = 3 ∨ v 13 i = 2) ∧ v 14 i = t) := by
  unfold rMeets
  by_cases h2 : v 13 i = 1 ∨ v 13 i = 3 ∨ v 13 i = 2
  · by_cases h3 : v 14 i = t <;> simp [h2, h3]
  · simp [h2]
theorem cWaits_iff {i : Nat} : cWaits u i = true ↔ (u (8 + i) 2 = 1 ∨ u (8 + i) 2 = 2 ∨ u (8 + i) 2 = 3) := by
  unfold cWaits
  by_cases q1 : u (8 + i) 2 = 1 <;> by_cases q2 : u (8 + i) 2 = 2 <;> by_cases q3 : u (8 + i) 2 = 3 <;> simp [q1, q2, q3]
theorem del_ind (h : Rel a m v u) (ha : a < 2 ^ 18) {t : Nat} (ht : t < 8) (hat : ¬ v 1 t = 0) : ∀ n, n ≤ 8 → ∃ w z, rOutAll (kup v 1 t 0) (nI t) n = kup w 1 t 0 ∧ cOutAll (kup u (8 + t) 2 (-1)) (nI t) n = kup z (8 + t) 2 (-1) ∧ Rel (a + 2 * n) m w z ∧ w 1 = v 1 ∧ ∀ j, j < n → ¬ w 1 j = 0 → ¬ j = t → ¬ w 3 j = nI t := by
  intro n
  induction n with
  | zero => exact fun _ => ⟨v, u, rfl, rfl, h, rfl, fun j hj => by omega⟩
  | succ n ih =>
    intro hn
    obtain ⟨w, z, e1, e2, hR, hw1, hpg⟩ := ih (by omega)
    have hn8 : n < 8 := by omega
    have s1 : rOutAll (kup v 1 t 0) (nI t) (n + 1) = rOutlive (kup w 1 t 0) n (nI t) := by rw [rOutAll, e1]
    have s2 : cOutAll (kup u (8 + t) 2 (-1)) (nI t) (n + 1) = cOutlive (kup z (8 + t) 2 (-1)) n (nI t) := by rw [cOutAll, e2]
    rw [s1, s2]
    by_cases hnt : n = t
    · subst hnt
      have hal : ¬ w 1 n = 0 := by rw [hw1]; exact hat
      refine ⟨w, z, ?_, ?_, hR.mono (by omega) (Nat.le_refl _), hw1, fun j hj g1 g2 => hpg j (by omega) g1 g2⟩
      · unfold rOutlive
        rw [if_pos (kup_eq _ _ _ _)]
      · have hp : ¬ z (8 + n) 4 = nI n := by
          rw [← (hR.tt hn8 hal).2.1]
          rcases hR.pr n hn8 hal with q | ⟨q1, q2, q3⟩
          · rw [q]; exact fun e => nI_m1 (k := n) (by omega) e.symm
          · intro e
            apply q3
            rw [e, ix_nI (by omega)]
        have hw : ¬ (cWaits (kup z (8 + n) 2 (-1)) n = true ∧ kup z (8 + n) 2 (-1) (8 + n) 13 = nI n) := by
          rw [cWaits_iff, kup_eq]
          rintro ⟨q, -⟩
          revert q
          decide
        unfold cOutlive cOut1
        rw [if_neg hw]
        unfold cOut2
        rw [if_neg]
        rw [kup_j (by decide)]
        exact hp
    · have hc8 : ∀ {y : kSt}, kup y (8 + t) 2 (-1) (8 + n) = y (8 + n) := fun {y} => kup_ne _ _ _ (by omega)
      by_cases hal : w 1 n = 0
      · have hst := (alive_eq hR hn8).mp hal
        have er : rOutlive (kup w 1 t 0) n (nI t) = kup w 1 t 0 := by
          unfold rOutlive
          rw [if_pos (by rw [kup_j hnt]; exact hal)]
        have hw : ¬ (cWaits (kup z (8 + t) 2 (-1)) n = true ∧ kup z (8 + t) 2 (-1) (8 + n) 13 = nI t) := by
          rw [cWaits_iff, hc8, hst]
          rintro ⟨q, -⟩
          revert q
          decide
        rw [er]
        unfold cOutlive cOut1
        rw [if_neg hw]
        unfold cOut2
        rw [hc8]
        by_cases hp : z (8 + n) 4 = nI t
        · rw [if_pos hp, if_neg (by rw [hst]; decide), kup_comm (by omega)]
          exact ⟨w, kup z (8 + n) 4 (-1), rfl, rfl, (hR.deadPager hn8 hal).mono (by omega) (Nat.le_refl _), hw1, fun j hj g1 g2 => by
            by_cases hjn : j = n
            · subst hjn; exact absurd hal g1
            · exact hpg j (by omega) g1 g2⟩
        · rw [if_neg hp]
          exact ⟨w, z, rfl, rfl, hR.mono (by omega) (Nat.le_refl _), hw1, fun j hj g1 g2 => by
            by_cases hjn : j = n
            · subst hjn; exact absurd hal g1
            · exact hpg j (by omega) g1 g2⟩
      · have er : rOutlive (kup w 1 t 0) n (nI t) = rOut2 (rOut1 (kup w 1 t 0) n (nI t)) n (nI t) := by
          unfold rOutlive
          rw [if_neg (by rw [kup_j hnt]; exact hal)]
        rw [er]
        unfold cOutlive
        have hm : rMeets (kup w 1 t 0) n (nI t) = true ↔ (cWaits (kup z (8 + t) 2 (-1)) n = true ∧ kup z (8 + t) 2 (-1) (8 + n) 13 = nI t) := by
          rw [rMeets_iff, cWaits_iff, hc8, kup_o (by decide), kup_o (by decide), (hR.tt hn8 hal).1, hR.e14 hn8]
          constructor
          · rintro ⟨q | q | q, q2⟩
            · exact ⟨Or.inl q, q2⟩
            · exact ⟨Or.inr (Or.inr q), q2⟩
            · exact ⟨Or.inr (Or.inl q), q2⟩
          · rintro ⟨q | q | q, q2⟩
            · exact ⟨Or.inl q, q2⟩
            · exact ⟨Or.inr (Or.inr q), q2⟩
            · exact ⟨Or.inr (Or.inl q), q2⟩
        obtain ⟨w1, z1, f1, f2, hR1, g1, g3⟩ : ∃ w1 z1, rOut1 (kup w 1 t 0) n (nI t) = kup w1 1 t 0 ∧ cOut1 (kup z (8 + t) 2 (-1)) n (nI t) = kup z1 (8 + t) 2 (-1) ∧ Rel (a + 2 * n + 1) m w1 z1 ∧ w1 1 = w 1 ∧ ∀ j, w1 3 j = w 3 j := by
          unfold rOut1 cOut1
          by_cases hmt : rMeets (kup w 1 t 0) n (nI t) = true
          · rw [if_pos hmt, if_pos (hm.mp hmt)]
            refine ⟨rRun w n 2, cRun z n 2, ?_, ?_, hR.run (by omega) hn8 hal, by simp [rRun, kup_ne], fun j => by simp [rRun, kup]⟩
            · unfold rRun
              rw [kup_comm (c := 1) (d := 13) (by decide), kup_comm (c := 1) (d := 9) (by decide)]
            · unfold cRun
              rw [kup_comm (c := 8 + t) (d := 8 + n) (by omega), kup_comm (c := 8 + t) (d := 8 + n) (by omega)]
          · rw [if_neg hmt, if_neg (fun e => hmt (hm.mpr e))]
            exact ⟨w, z, rfl, rfl, hR.mono (by omega) (Nat.le_refl _), rfl, fun _ => rfl⟩
        rw [f1, f2]
        have hal1 : ¬ w1 1 n = 0 := by rw [g1]; exact hal
        have c1 := (hR1.tt hn8 hal1).1
        have c2 := (hR1.tt hn8 hal1).2.1
        unfold rOut2 cOut2
        rw [hc8, kup_o (show (3 : Nat) ≠ 1 by decide), kup_o (show (13 : Nat) ≠ 1 by decide), c2]
        by_cases hp : z1 (8 + n) 4 = nI t
        · rw [if_pos hp, if_pos hp]
          have hP := hR1.pagerOff (by omega) hn8 hal1
          refine ⟨_, _, ?_, ?_, hP.mono (by omega) (Nat.le_refl _), ?_, fun j hj q1 q2 => ?_⟩
          · rw [kup_comm (c := 1) (d := 3) (by decide), kup_comm (c := 1) (d := 13) (by decide)]
          · split
            · rw [kup_comm (c := 8 + t) (d := 8 + n) (by omega), kup_comm (c := 8 + t) (d := 8 + n) (by omega)]
            · rw [kup_comm (c := 8 + t) (d := 8 + n) (by omega)]
          · rw [kup_ne _ _ _ (by decide), kup_ne _ _ _ (by decide), g1, hw1]
          · by_cases hjn : j = n
            · subst hjn
              rw [kup_o (by decide), kup_eq]
              exact fun e => nI_m1 (k := t) (by omega) e.symm
            · rw [kup_o (by decide), kup_j hjn, g3]
              rw [kup_o (by decide), kup_o (by decide), g1] at q1
              exact hpg j (by omega) q1 q2
        · rw [if_neg hp, if_neg hp]
          refine ⟨w1, z1, rfl, rfl, hR1.mono (by omega) (Nat.le_refl _), by rw [g1, hw1], fun j hj q1 q2 => ?_⟩
          by_cases hjn : j = n
          · subst hjn
            rw [c2]
            exact hp
          · rw [g3]
            rw [g1] at q1
            exact hpg j (by omega) q1 q2
theorem delete_ok (h : Rel a m v u) (ha : a < 2 ^ 16) {t : Int32} : (rDelete v t).1 = (cDelete u t).1 ∧ Rel (a + 20) m (rDelete v t).2 (cDelete u t).2 := by
  have hmn := h.mono (show a ≤ a + 20 by omega) (Nat.le_refl m)
  unfold rDelete cDelete
  rw [thread_eq h]
  by_cases h1 : cIsThread u t = true
  · by_cases h0 : t = 0
    · rw [if_pos h1, if_pos h0, if_pos h0]; exact ⟨rfl, hmn⟩
    · rw [if_pos h1, if_neg h0, if_neg h0, if_pos h1]
      dsimp only
      refine ⟨rfl, ?_⟩
      have htt := cIsThread_in h1
      have hi := vin_lt htt
      obtain ⟨w, z, e1, e2, hR, hw1, hpg⟩ := del_ind h (by omega) hi (cIsThread_al h h1) 8 (Nat.le_refl _)
      rw [← vin_eq htt] at e1 e2
      rw [e1, e2]
      exact (hR.kill (by omega) hi (fun i hi2 q1 q2 => hpg i hi2 q1 q2)).mono (by omega) (Nat.le_refl _)
  · rw [if_neg h1]
    by_cases h0 : t = 0
    · rw [if_pos h0]; exact ⟨rfl, hmn⟩
    · rw [if_neg h0, if_neg h1]; exact ⟨rfl, hmn⟩
-- the start
def uI : kSt := fun a b => if a = 4 then (if b < 16 then 2 else 0) else if a = 5 then (if b < 16 then nI b else 0) else if a = 7 then (if b < 16 then -1 else 0) else if 8 ≤ a ∧ a < 16 then (if b = 0 then nI (a - 8) else if b = 2 then -1 else 0) else 0
def vI : kSt := fun a b => if a = 20 then (if b < 16 then nI b else -1) else if a = 21 then 2 else 0
theorem uI_t {i b : Nat} (hi : i < 8) : uI (8 + i) b = if b = 0 then nI i else if b = 2 then -1 else 0 := by
  unfold uI
  rw [if_neg (by omega), if_neg (by omega), if_neg (by omega), if_pos (by omega), show 8 + i - 8 = i by omega]
theorem uI_r {i b : Nat} : uI (16 + i) b = 0 := by
  unfold uI
  rw [if_neg (by omega), if_neg (by omega), if_neg (by omega), if_neg (by omega)]
theorem vI_lo {c b : Nat} (hc : c < 20 ∨ 22 ≤ c) : vI c b = 0 := by
  unfold vI
  rw [if_neg (by omega), if_neg (by omega)]
theorem vin0 {n : Nat} (h : 0 < n) (hn : n < 2 ^ 31 := by decide) : vp_in 0 n := vin_n (k := 0) h hn
theorem Rel.init : Rel 0 0 vI uI := by
  refine ⟨fun c b => ?_, fun c b => ?_, fun i hi => ?_, fun i hi hal => ?_, fun i j hi hj wi wj => ?_, ?_, fun k hk => ?_, fun f hf => ?_, ⟨0, Nat.le_refl _, rfl, rfl⟩, fun i hi => ?_⟩
  · refine ⟨fun h1 h2 => ?_, fun e hb => ?_, fun e hb => ?_, fun e hb => ?_⟩
    · obtain ⟨i, rfl⟩ : ∃ i, c = 8 + i := ⟨c - 8, by omega⟩
      rw [uI_t (by omega)]
      refine ⟨fun e => ?_, fun e => ?_, fun e => ?_, fun e => ?_, fun e => ?_, fun e => ?_⟩
      · rw [if_pos e, show 8 + i - 8 = i by omega]
      · rw [if_neg (by omega), if_neg (by omega)]; exact vin0 (by decide)
      · rw [if_neg (by omega), if_neg (by omega)]; exact Or.inr (vin0 (by decide))
      · rw [if_neg (by omega), if_neg (by omega)]; exact Or.inr (vin0 (by decide))
      · rw [if_neg (by omega), if_neg (by omega)]; exact Or.inr (vin0 (by decide))
      · rw [if_neg (by omega), if_neg (by omega)]; exact vin0 (by decide)
    · subst e
      show vp_in (if b < 16 then nI b else 0) 16
      split
      · exact vin_n (by assumption)
      · exact vin0 (by decide)
    · subst e
      exact vin0 (by decide)
    · subst e
      show (if b < 16 then (-1 : Int32) else 0) = -1 ∨ vp_in (if b < 16 then (-1 : Int32) else 0) 96
      split
      · exact Or.inl rfl
      · exact Or.inr (vin0 (by decide))
  · refine ⟨fun e hb => ?_, fun e hb => ?_, fun e hb => ?_, fun e hb => ?_, fun e hb => ?_, fun e hb => ?_, fun e hb => ?_, fun e hb => ?_⟩
    · subst e; exact vin0 (by decide)
    · subst e; exact Or.inr (vin0 (by decide))
    · subst e; exact Or.inr (vin0 (by decide))
    · subst e; exact Or.inr (vin0 (by decide))
    · subst e; exact vin0 (by decide)
    · subst e
      show (if b < 16 then nI b else -1) = -1 ∨ vp_in (if b < 16 then nI b else -1) 16
      split
      · exact Or.inr (vin_n (by assumption))
      · exact Or.inl rfl
    · subst e; exact vin0 (by decide)
    · subst e; exact vin0 (by decide)
  · refine ⟨?_, fun k hk => by rw [vI_lo (by omega), uI_r], ?_, fun hal => absurd (vI_lo (by omega)) hal⟩
    · refine ⟨?_, ?_, ?_, ?_, ?_, ?_, ?_, ?_, ?_, ?_, ?_, ?_⟩ <;> rw [vI_lo (by omega), uI_t hi] <;> rfl
    · rw [vI_lo (by omega), uI_t hi]
      exact ⟨fun _ => rfl, fun _ => rfl⟩
  · exact absurd (vI_lo (by omega)) hal
  · exact absurd (vI_lo (by omega)) wi.1
  · exact ⟨⟨0, Nat.le_refl _, rfl⟩, ⟨0, Nat.le_refl _, rfl⟩, fun i hi w => absurd (vI_lo (by omega)) w.1⟩
  · have q1 : vI 20 k = if k < 16 then nI k else -1 := rfl
    have q2 : uI 4 k = if k < 16 then 2 else 0 := rfl
    have q3 : uI 5 k = if k < 16 then nI k else 0 := rfl
    have q4 : uI 7 k = if k < 16 then -1 else 0 := rfl
    have q5 : vI 21 k = 2 := rfl
    have q6 : vI 22 k = 0 := rfl
    have q7 : uI 6 k = 0 := rfl
    by_cases hk16 : k < 16
    · rw [if_pos hk16] at q1 q2 q3 q4
      rw [q1, q2, q3, q4, q5, q6, q7]
      exact ⟨⟨fun e => absurd e (nI_pos (by omega)), fun e => absurd e (by decide)⟩, fun _ => ⟨rfl, rfl, rfl, Or.inr rfl, fun _ => rfl, fun e => absurd rfl e⟩⟩
    · rw [if_neg hk16] at q1 q2
      rw [q1, q2]
      exact ⟨⟨fun _ => rfl, fun _ => by decide⟩, fun e => absurd rfl e⟩
  · rfl
  · exact Or.inr (by rw [vI_lo (by omega)]; decide)
theorem Rel.start : Rel 1 0 (rBegin vI 0 0 (-1)) (cBegin uI 0 0 (-1)) := Rel.init.begin (by decide) (by decide) rfl (vin0 (by decide)) (Or.inl rfl)
end KO6
