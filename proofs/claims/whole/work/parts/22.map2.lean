section KMQ
theorem desc_0 {u : kSt} {z : Int32} {k : Nat} (h : u 6 k = 0) : cDesc u k z = false := by
  unfold cDesc
  rw [h, ix0]
  rfl
theorem cUp_s {u : kSt} {z a : Int32} {n : Nat} : cUp u z (n + 1) a = if a = -1 then false else if u 7 (ix a) = z then true else cUp u z n (u 7 (ix a)) := rfl
theorem desc_up {v u : kSt} (h : MRs v u) (hI : cInv u) {z : Int32} {k q : Nat} (hk : k < 96) (hq : q < 96) (hl : ¬ u 4 k = 0) (hd : ¬ u 6 k = 0) (hp : u 7 k = nI q) : cDesc u k z = (decide (nI q = z) || cDesc u q z) := by
  obtain ⟨e, he, e2, e3⟩ := MR.dep (v := v) hI hk
  cases e with
  | zero => exact absurd e2 hd
  | succ e =>
    obtain ⟨q', hq', h5, h6, h7, h8⟩ := MR.up h hI hk hl he e2
    have hqq : q' = q := by
      rw [h5, nI_eq (by omega) (by omega)] at hp
      exact hp
    subst hqq
    have hx := ix_nI (n := k) (by omega)
    have h1 := nI_m1 (k := k) (by omega)
    have e4 : cDesc u q' z = cUp u z e (nI q') := by unfold cDesc; rw [h8, ix_nI (by omega)]
    rw [e4]
    unfold cDesc
    rw [e3, cUp_s, hx, hp, if_neg h1]
    by_cases hz : nI q' = z <;> simp [hz]
theorem desc_lt {v u : kSt} (h : MRs v u) (hI : cInv u) {b : Nat} (hb : b < 96) : ∀ (e k : Nat), k < 96 → e ≤ 12 → ¬ u 4 k = 0 → u 6 k = nI e → cDesc u k (nI b) = true → ix (u 6 b) < e ∧ ¬ u 4 b = 0
  | 0, k, hk, he, hl, hd, h9 => by
    rw [desc_0 (by rw [hd]; rfl)] at h9
    cases h9
  | e + 1, k, hk, he, hl, hd, h9 => by
    obtain ⟨q, hq, h5, h6, h7, h8⟩ := MR.up h hI hk hl he hd
    rw [desc_up h hI hk hq hl (by rw [hd]; exact fun e9 => by have := (ix_pos0 (by omega)).mp e9; omega) h5] at h9
    by_cases hqb : q = b
    · subst hqb
      rw [h8, ix_nI (by omega)]
      exact ⟨by omega, h7⟩
    · have hne : ¬ nI q = nI b := fun e9 => hqb ((nI_eq (by omega) (by omega)).mp e9)
      simp [hne] at h9
      have := desc_lt h hI hb e q hq (by omega) h7 h8 h9
      exact ⟨by omega, this.2⟩
theorem desc_self {v u : kSt} (h : MRs v u) (hI : cInv u) {k : Nat} (hk : k < 96) (hl : ¬ u 4 k = 0) : cDesc u k (nI k) = false := by
  obtain ⟨e, he, e2, e3⟩ := MR.dep (v := v) hI hk
  cases h9 : cDesc u k (nI k) with
  | false => rfl
  | true =>
    have := (desc_lt h hI hk e k hk he hl e2 h9).1
    omega
theorem hit12 {v u : kSt} (h : MRs v u) (hI : cInv u) (hR : rInv v) {z : Int32} {k : Nat} (hk : k < 96) : hitU v z 12 k = (cHolds u k && cDesc u k z) := by
  unfold hitU
  by_cases hl : u 4 k = 0
  · rw [desc_n h hk hl, holds_f.mpr hl]
    simp
  · rw [desc_eq h hI hk hl, holds_t.mpr hl]
    have h0 := (held_f h hk).mpr hl
    have h1 : v 22 k = u 6 k := ((h k hk).2 hl).2.2.1
    obtain ⟨e, he, e2, e3⟩ := MR.dep (v := v) hI hk
    rw [h1, e3]
    cases hd : cDesc u k z with
    | false => simp
    | true =>
      have : e ≠ 0 := fun e9 => by
        subst e9
        rw [desc_0 (by rw [e2]; rfl)] at hd
        cases hd
      simp [h0, show 1 ≤ e by omega, he]
/-- some mappings go, and with each of them all below it -/
theorem MR.remove {f l d p lv fr dp pa f' lv' : Nat → Int32} (h : MR f l d p lv fr dp pa) (rem : Nat → Bool) (hf : ∀ k, k < 96 → f' k = if rem k = true then -1 else f k) (hl : ∀ k, k < 96 → lv' k = if rem k = true then 0 else lv k)
    (hd : ∀ k q, k < 96 → q < 96 → ¬ lv k = 0 → ¬ dp k = 0 → pa k = nI q → rem q = true → rem k = true) : MR f' l d p lv' fr dp pa := by
  intro k hk
  obtain ⟨h1, h2⟩ := h k hk
  rw [hf k hk, hl k hk]
  by_cases hr : rem k = true
  · rw [if_pos hr, if_pos hr]
    exact ⟨⟨fun _ => rfl, fun _ => by decide⟩, fun h9 => absurd rfl h9⟩
  · rw [if_neg hr, if_neg hr]
    refine ⟨h1, fun hh => ?_⟩
    obtain ⟨a1, a2, a3, a4, a5, a6⟩ := h2 hh
    refine ⟨a1, a2, a3, a4, a5, fun hdp => ?_⟩
    obtain ⟨b1, q, hq, b2, b3, b4⟩ := a6 hdp
    refine ⟨b1, q, hq, b2, ?_, b4⟩
    rw [hl q hq]
    by_cases hrq : rem q = true
    · exact absurd (hd k q hk hq hh hdp b2 hrq) hr
    · rw [if_neg hrq]
      exact b3
/-- some mappings get the level 1 -/
theorem MR.soft {f l d p lv fr dp pa l' lv' : Nat → Int32} (h : MR f l d p lv fr dp pa) (sf : Nat → Bool) (hl' : ∀ k, k < 96 → l' k = if sf k = true then 1 else l k) (hl : ∀ k, k < 96 → lv' k = if sf k = true then 1 else lv k) (hs : ∀ k, k < 96 → sf k = true → ¬ lv k = 0) : MR f l' d p lv' fr dp pa := by
  have hz : ∀ k, k < 96 → (lv' k = 0 ↔ lv k = 0) := by
    intro k hk
    rw [hl k hk]
    by_cases hr : sf k = true
    · rw [if_pos hr]
      exact ⟨fun e => absurd e (by decide), fun e => absurd e (hs k hk hr)⟩
    · rw [if_neg hr]
  intro k hk
  obtain ⟨h1, h2⟩ := h k hk
  refine ⟨h1.trans (hz k hk).symm, fun hh => ?_⟩
  obtain ⟨a1, a2, a3, a4, a5, a6⟩ := h2 (fun e => hh ((hz k hk).mpr e))
  refine ⟨a1, ?_, a3, ?_, a5, fun hdp => ?_⟩
  · rw [hl' k hk, hl k hk, a2]
  · rw [hl k hk]
    by_cases hr : sf k = true
    · rw [if_pos hr]; exact Or.inl rfl
    · rw [if_neg hr]; exact a4
  · obtain ⟨b1, q, hq, b2, b3, b4⟩ := a6 hdp
    exact ⟨b1, q, hq, b2, fun e => b3 ((hz q hq).mp e), b4⟩
variable {a m : Nat} {v u : kSt}
/-- the mappings alone change -/
theorem Rel.map {v' u' : kSt} (h : Rel a m v u) (hci : cInv u') (hri : rInv v') (hv : ∀ c, c < 20 ∨ c = 24 → v' c = v c) (hu : ∀ c, c < 4 ∨ 8 ≤ c → u' c = u c) (hM : MRs v' u') : Rel a m v' u' := by
  have e8 : ∀ i, u' (8 + i) = u (8 + i) := fun i => hu _ (Or.inr (by omega))
  have e16 : ∀ i, u' (16 + i) = u (16 + i) := fun i => hu _ (Or.inr (by omega))
  refine ⟨hci, hri, fun i hi => ?_, ?_, ?_, ?_, hM, ?_, ?_, ?_⟩
  · have := h.tr hi
    unfold TR at this ⊢
    rw [e8, e16, hv 0 (by omega), hv 1 (by omega), hv 2 (by omega), hv 3 (by omega), hv 4 (by omega), hv 5 (by omega), hv 6 (by omega), hv 7 (by omega), hv 8 (by omega), hv 9 (by omega), hv 10 (by omega), hv 11 (by omega), hv 12 (by omega), hv 13 (by omega), hv 14 (by omega), hv 15 (by omega), hv 17 (by omega), hv 18 (by omega), hv 19 (by omega)]
    exact this
  · have := h.pr
    unfold PR at this ⊢
    rw [hv 1 (by omega), hv 3 (by omega)]
    exact this
  · have := h.or
    unfold OR ws at this ⊢
    simp only [e8]
    rw [hv 1 (by omega), hv 13 (by omega), hv 16 (by omega)]
    exact this
  · have := h.bd
    unfold BD ws at this ⊢
    simp only [e8]
    rw [hv 0 (by omega), hv 1 (by omega), hv 13 (by omega), hv 16 (by omega), hu 0 (by omega)]
    exact this
  · have := h.wr
    unfold WR at this ⊢
    rw [hv 24 (by omega), hu 3 (by omega)]
    exact this
  · have := h.nr
    unfold NR at this ⊢
    rw [hv 0 (by omega), hu 0 (by omega)]
    exact this
  · have := h.xr
    unfold XR at this ⊢
    rw [hv 14 (by omega)]
    exact this
theorem cLower_0 {k : Nat} (hl : u 4 k = 1 ∨ u 4 k = 2) : cLower u k 0 = kup u 4 k 0 ∧ cLowerN u k 0 = 1 := by
  have : (0 : Int32) < u 4 k := by rcases hl with e | e <;> rw [e] <;> decide
  unfold cLower cLowerN
  rw [if_pos this, if_pos this]
  exact ⟨rfl, rfl⟩
theorem lvl_pos (h : MRs v u) {k : Nat} (hk : k < 96) (hl : ¬ u 4 k = 0) : (0 : Int32) < u 4 k := by
  rcases ((h k hk).2 hl).2.2.2.1 with e | e <;> rw [e] <;> decide
theorem lowP_0 (h : MRs v u) {z : Int32} {k : Nat} (hk : k < 96) : lowP u z 0 k = (cHolds u k && cDesc u k z) := by
  unfold lowP
  cases hh : cHolds u k with
  | false => simp
  | true =>
    have := lvl_pos h hk (holds_t.mp hh)
    simp [this]
/-- the descendants of z are removed, on both sides; as many -/
theorem Rel.below (h : Rel a m v u) {z : Int32} (hz : ∃ b, b < 96 ∧ z = nI b) : Rel a m (rRem v z 96 12) (cLow u z 0 96) ∧ rRemN v z 0 96 12 = cLowN u z 0 96 := by
  have hM := h.mr
  constructor
  · refine h.map (h.ci.low 96) (rInv.rem 96 12 v h.ri) (fun c hc => rRem_ne (by omega) 12 v) (fun c hc => cLow_ne (by omega) 96) ?_
    have e21 : rRem v z 96 12 21 = v 21 := rRem_ne (by decide) 12 v
    have e22 : rRem v z 96 12 22 = v 22 := rRem_ne (by decide) 12 v
    have e23 : rRem v z 96 12 23 = v 23 := rRem_ne (by decide) 12 v
    have g5 : cLow u z 0 96 5 = u 5 := cLow_ne (by decide) 96
    have g6 : cLow u z 0 96 6 = u 6 := cLow_ne (by decide) 96
    have g7 : cLow u z 0 96 7 = u 7 := cLow_ne (by decide) 96
    show MR _ _ _ _ _ _ _ _
    rw [e21, e22, e23, g5, g6, g7]
    refine MR.remove hM (fun k => cHolds u k && cDesc u k z) (fun k hk => ?_) (fun k hk => ?_) (fun k q hk hq hl hd hp hr => ?_)
    · rw [rRem_20 12 (by decide) v h.ri k hk, hit12 hM h.ci h.ri hk]
    · rw [cLow_4 96 k, lowP_0 hM hk]
      simp [hk]
    · simp only [Bool.and_eq_true] at hr ⊢
      refine ⟨holds_t.mpr hl, ?_⟩
      rw [desc_up hM h.ci hk hq hl hd hp, hr.2]
      simp
  · rw [rRemN_eq 12 (by decide) v h.ri, cLowN_eq, cnt_congr 96 (fun k hk => (hit12 hM h.ci h.ri hk).trans (lowP_0 hM hk).symm)]
    simp
/-- a mapping with all below it is removed -/
theorem Rel.clean (h : Rel a m v u) {t : Nat} (ht : t < 96) : Rel a m (rClean v t) (cClean u t) ∧ cClean u t 4 t = 0 := by
  have hM := h.mr
  by_cases hl : u 4 t = 0
  · have e1 : rClean v t = v := by unfold rClean; rw [if_pos ((hM t ht).1.mpr hl)]
    have e2 : cClean u t = u := by unfold cClean; rw [if_neg (fun e => holds_t.mp e hl)]
    rw [e1, e2]
    exact ⟨h, hl⟩
  · have e1 : rClean v t = kup (rRem v (nI t) 96 12) 20 t (-1) := by unfold rClean; rw [if_neg (fun e => hl ((hM t ht).1.mp e))]
    have hs := desc_self hM h.ci ht hl
    have e4 : cLow u (nI t) 0 96 4 t = u 4 t := by
      rw [cLow_4 96 t, lowP_0 hM ht, hs]
      simp
    have e2 : cClean u t = kup (cLow u (nI t) 0 96) 4 t 0 := by
      unfold cClean
      rw [if_pos (holds_t.mpr hl), (cLower_0 (u := cLow u (nI t) 0 96) (k := t) (by rw [e4]; exact ((hM t ht).2 hl).2.2.2.1)).1]
    obtain ⟨hB, -⟩ := h.below (z := nI t) ⟨t, ht, rfl⟩
    refine ⟨?_, by rw [e2, kup_eq]⟩
    refine h.map h.ci.clean h.ri.clean (fun c hc => ?_) (fun c hc => ?_) ?_
    · rw [e1, kup_ne _ _ _ (by omega), rRem_ne (by omega)]
    · rw [e2, kup_ne _ _ _ (by omega), cLow_ne (by omega)]
    · have q21 : rClean v t 21 = v 21 := by rw [e1, kup_ne _ _ _ (by decide), rRem_ne (by decide)]
      have q22 : rClean v t 22 = v 22 := by rw [e1, kup_ne _ _ _ (by decide), rRem_ne (by decide)]
      have q23 : rClean v t 23 = v 23 := by rw [e1, kup_ne _ _ _ (by decide), rRem_ne (by decide)]
      have g5 : cClean u t 5 = u 5 := by rw [e2, kup_ne _ _ _ (by decide), cLow_ne (by decide)]
      have g6 : cClean u t 6 = u 6 := by rw [e2, kup_ne _ _ _ (by decide), cLow_ne (by decide)]
      have g7 : cClean u t 7 = u 7 := by rw [e2, kup_ne _ _ _ (by decide), cLow_ne (by decide)]
      show MR _ _ _ _ _ _ _ _
      rw [q21, q22, q23, g5, g6, g7]
      refine MR.remove hM (fun k => decide (k = t) || (cHolds u k && cDesc u k (nI t))) (fun k hk => ?_) (fun k hk => ?_) (fun k q hk hq hh hd hp hr => ?_)
      · rw [e1]
        by_cases hkt : k = t
        · subst hkt
          rw [kup_eq]
          simp
        · rw [kup_j hkt, rRem_20 12 (by decide) v h.ri k hk, hit12 hM h.ci h.ri hk]
          simp [hkt]
      · rw [e2]
        by_cases hkt : k = t
        · subst hkt
          rw [kup_eq]
          simp
        · rw [kup_j hkt, cLow_4 96 k, lowP_0 hM hk]
          simp [hkt, hk]
      · have hx : cDesc u k (nI t) = true := by
          rw [desc_up hM h.ci hk hq hh hd hp]
          simp only [Bool.or_eq_true, decide_eq_true_eq, Bool.and_eq_true] at hr
          rcases hr with rfl | hr
          · simp
          · rw [hr.2]; simp
        rw [hx, holds_t.mpr hh]
        simp
end KMQ
