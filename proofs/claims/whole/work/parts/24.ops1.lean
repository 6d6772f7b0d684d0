section KO1
variable {a m : Nat} {v u : kSt}
theorem rsl_sl {x y : Int32} : rsl x y = sl x y := by
  unfold rsl sl
  rw [Int32.mul_comm]
theorem Rel.tt (h : Rel a m v u) {i : Nat} (hi : i < 8) (hal : ¬ v 1 i = 0) : v 13 i = u (8 + i) 2 ∧ v 3 i = u (8 + i) 4 ∧ (v 5 i = -1 ∨ v 6 i = 1 ∨ v 6 i = 2) ∧
    (v 13 i = 4 ∨ v 13 i = 5 → v 14 i = v 3 i ∧ ¬ v 3 i = -1 ∧ u (8 + i) 17 = (if v 18 i = 0 then 1 else 2)) ∧
    (v 13 i = 1 ∨ v 13 i = 2 ∨ v 13 i = 3 → v 15 i = u (8 + i) 14 ∧ (v 15 i = -1 ∨ v 0 0 < v 15 i)) := (h.tr hi).2.2.2 hal
theorem Rel.e2 (h : Rel a m v u) {i : Nat} (hi : i < 8) : v 2 i = u (8 + i) 3 := (h.tr hi).1.1
theorem Rel.e5 (h : Rel a m v u) {i : Nat} (hi : i < 8) : v 5 i = u (8 + i) 5 := (h.tr hi).1.2.1
theorem Rel.e6 (h : Rel a m v u) {i : Nat} (hi : i < 8) : v 6 i = u (8 + i) 6 := (h.tr hi).1.2.2.1
theorem Rel.e7 (h : Rel a m v u) {i : Nat} (hi : i < 8) : v 7 i = u (8 + i) 7 := (h.tr hi).1.2.2.2.1
theorem Rel.e8 (h : Rel a m v u) {i : Nat} (hi : i < 8) : v 8 i = u (8 + i) 8 := (h.tr hi).1.2.2.2.2.1
theorem Rel.e9 (h : Rel a m v u) {i : Nat} (hi : i < 8) : v 9 i = u (8 + i) 9 := (h.tr hi).1.2.2.2.2.2.1
theorem Rel.e10 (h : Rel a m v u) {i : Nat} (hi : i < 8) : v 10 i = u (8 + i) 10 := (h.tr hi).1.2.2.2.2.2.2.1
theorem Rel.e11 (h : Rel a m v u) {i : Nat} (hi : i < 8) : v 11 i = u (8 + i) 11 := (h.tr hi).1.2.2.2.2.2.2.2.1
theorem Rel.e12 (h : Rel a m v u) {i : Nat} (hi : i < 8) : v 12 i = u (8 + i) 12 := (h.tr hi).1.2.2.2.2.2.2.2.2.1
theorem Rel.e14 (h : Rel a m v u) {i : Nat} (hi : i < 8) : v 14 i = u (8 + i) 13 := (h.tr hi).1.2.2.2.2.2.2.2.2.2.1
theorem Rel.e17 (h : Rel a m v u) {i : Nat} (hi : i < 8) : v 17 i = u (8 + i) 16 := (h.tr hi).1.2.2.2.2.2.2.2.2.2.2.1
theorem Rel.e19 (h : Rel a m v u) {i : Nat} (hi : i < 8) : v 19 i = u (8 + i) 18 := (h.tr hi).1.2.2.2.2.2.2.2.2.2.2.2
theorem Rel.rg (h : Rel a m v u) {i k : Nat} (hi : i < 8) (hk : k < 4) : v 4 (4 * i + k) = u (16 + i) k := (h.tr hi).2.1 k hk
/-- a word becomes another -/
theorem Rel.word (h : Rel a m v u) {f : Nat} {x : Int32} : Rel a m (kup v 24 f x) (kup u 3 f x) := by
  have e8 : ∀ i, kup u 3 f x (8 + i) = u (8 + i) := fun i => kup_ne _ _ _ (by omega)
  have e16 : ∀ i, kup u 3 f x (16 + i) = u (16 + i) := fun i => kup_ne _ _ _ (by omega)
  have hv : ∀ c, c ≠ 24 → kup v 24 f x c = v c := fun c hc => kup_ne _ _ _ hc
  have hu : ∀ c, c ≠ 3 → kup u 3 f x c = u c := fun c hc => kup_ne _ _ _ hc
  refine ⟨h.ci.up cOk_3, h.ri.up (rOk_any (by decide)), fun i hi => ?_, ?_, ?_, ?_, ?_, ?_, ?_, ?_⟩
  · have := h.tr hi
    unfold TR at this ⊢
    rw [e8, e16, hv 0 (by omega), hv 1 (by omega), hv 2 (by omega), hv 3 (by omega), hv 4 (by omega), hv 5 (by omega), hv 6 (by omega), hv 7 (by omega), hv 8 (by omega), hv 9 (by omega), hv 10 (by omega), hv 11 (by omega), hv 12 (by omega), hv 13 (by omega), hv 14 (by omega), hv 15 (by omega), hv 17 (by omega), hv 18 (by omega), hv 19 (by omega)]
    exact this
  · have := h.pr
    unfold PR at this ⊢
    rw [hv 1 (by omega), hv 3 (by omega)]
    exact this
  · have := h.or
    unfold OR ws at this ⊢
    simp only [e8]
    rw [hv 1 (by omega), hv 13 (by omega), hv 16 (by omega)]
    exact this
  · have := h.bd
    unfold BD ws at this ⊢
    simp only [e8]
    rw [hv 0 (by omega), hv 1 (by omega), hv 13 (by omega), hv 16 (by omega), hu 0 (by omega)]
    exact this
  · rw [hv 20 (by omega), hv 21 (by omega), hv 22 (by omega), hv 23 (by omega), hu 4 (by omega), hu 5 (by omega), hu 6 (by omega), hu 7 (by omega)]
    exact h.mr
  · intro k hk
    have := h.wr k hk
    simp [kup, this]
  · have := h.nr
    unfold NR at this ⊢
    rw [hv 0 (by omega), hu 0 (by omega)]
    exact this
  · have := h.xr
    unfold XR at this ⊢
    rw [hv 14 (by omega)]
    exact this
/-- a fault becomes a message to the pager -/
theorem Rel.passFault (h : Rel a m v u) (ha : a < 2 ^ 19) {f g : Nat} (hf : f < 8) (hg : g < 8) (haf : ¬ v 1 f = 0) (hag : ¬ v 1 g = 0) (hp : v 3 f = nI g) (hwl : u (8 + f) 17 = (if v 18 f = 0 then 1 else 2)) : Rel (a + 3) m (rReport v f) (cPassFault u f g) := by
  have hx := ix_nI (n := g) (by omega)
  unfold rReport cPassFault
  rw [hp, hx, h.e17 hf, ← hwl]
  have h1 := h.take (by omega) hg hag (s := nI f) (a1 := u (8 + f) 16) (a2 := u (8 + f) 17) (a3 := 0) (a4 := 0)
  have h2 := h1.rest (by omega) hf (by simpa [rTake, kup] using haf) (p := g) (by simpa [rTake, kup] using hp) hg (by simpa [rTake, cTake, kup] using hwl)
  exact h2.run (by omega) hg (by simpa [rTake, kup] using hag)
theorem m1_neg {x : Int32} (h : x = -1 ∨ 0 ≤ x) : ¬ 0 ≤ x ↔ x = -1 := by
  constructor
  · intro h1
    exact h.resolve_right h1
  · intro h1
    rw [h1]
    decide
theorem vin_ge {x : Int32} {n : Nat} (h : vp_in x n) : 0 ≤ x := by
  rw [Int32.le_iff_toInt_le, Int32.toInt_zero]
  exact (vp_in_iff.mp h).1
theorem m1_in {x : Int32} {n : Nat} (h : x = -1 ∨ vp_in x n) : x = -1 ∨ 0 ≤ x := h.imp id vin_ge
/-- an access is tried -/
theorem Rel.attempt (h : Rel a m v u) (ha : a < 2 ^ 18) {t : Nat} (ht : t < 8) (hal : ¬ v 1 t = 0) (hwl : u (8 + t) 17 = (if v 18 t = 0 then 1 else 2)) : Rel (a + 4) m (rAttempt v t) (cTry u t) := by
  have hM := h.mr
  obtain ⟨c1, c2, c3, c4, c5⟩ := h.tt ht hal
  have hk := (sl_eq (h.ci.space ht) (h.ci.wanted ht)).2
  unfold rAttempt cTry
  rw [rsl_sl, h.e2 ht, h.e17 ht]
  generalize sl (u (8 + t) 3) (u (8 + t) 16) = k at hk ⊢
  have hok : rOk v t k = true ↔ ¬ u 4 k < u (8 + t) 17 := by
    unfold rOk
    rw [← hwl]
    by_cases hl : u 4 k = 0
    · rw [if_pos ((hM k hk).1.mpr hl), hl]
      have : (0 : Int32) < u (8 + t) 17 := by rw [hwl]; split <;> decide
      simp [this]
    · rw [if_neg (fun e => hl ((hM k hk).1.mp e)), ((hM k hk).2 hl).2.1]
      by_cases h9 : u 4 k < u (8 + t) 17 <;> simp [h9]
  by_cases hc : u 4 k < u (8 + t) 17
  · rw [if_neg (fun e => hok.mp e hc), if_pos hc]
    unfold rAttempt2
    by_cases hp : u (8 + t) 4 = -1
    · rw [if_pos hp, if_neg (by rw [c2, hp]; decide)]
      exact (h.stuck (by omega) ht hal).mono (by omega) (Nat.le_refl _)
    · rw [if_neg hp, c2]
      have hin := or_in (h.ci.pager ht) hp
      rw [if_pos (vin_ge hin)]
      obtain ⟨p, hp8, hp2⟩ := vp_in_of hin (by decide)
      have hx := ix_nI (n := p) (by omega)
      have hap : ¬ v 1 p = 0 := by
        rcases h.pr t ht hal with e | e
        · rw [c2] at e; exact absurd e hp
        · rw [c2, hp2, hx] at e; exact e.2.1
      rw [hp2, hx]
      have h1 := h.faultW (by omega) ht hal (p := p) (by rw [c2, hp2]) hp8 hwl
      have hap1 : ¬ rLinger v t 4 (nI p) (-1) 1 p = 0 := by simpa [rLinger, kup] using hap
      have hal1 : ¬ rLinger v t 4 (nI p) (-1) 1 t = 0 := by simpa [rLinger, kup] using hal
      have d1 := (h1.tt hp8 hap1).1
      have d2 := h1.e14 hp8
      have d3 := h1.xr p hp8
      have h4t : rLinger v t 4 (nI p) (-1) 13 t = 4 := by simp [rLinger, kup]
      have h3t : rLinger v t 4 (nI p) (-1) 3 t = nI p := by simp [rLinger, kup, c2, hp2]
      have hw1 := ((h1.tt ht hal1).2.2.2.1 (Or.inl h4t)).2.2
      unfold rAttempt3 cFault
      have hrc : cRecv (cJoin u t 4 (nI p) (-1)) p (nI t) = true ↔ (rLinger v t 4 (nI p) (-1) 13 p = 2 ∧ (rLinger v t 4 (nI p) (-1) 14 p = nI t ∨ ¬ 0 ≤ rLinger v t 4 (nI p) (-1) 14 p)) := by
        unfold cRecv
        rw [← d1, ← d2, m1_neg d3]
        by_cases g1 : rLinger v t 4 (nI p) (-1) 13 p = 2 <;> by_cases g2 : rLinger v t 4 (nI p) (-1) 14 p = -1 <;> by_cases g3 : rLinger v t 4 (nI p) (-1) 14 p = nI t <;> simp [g1, g2, g3]
      by_cases hr : cRecv (cJoin u t 4 (nI p) (-1)) p (nI t) = true
      · rw [if_pos hr]
        have hr2 := hrc.mp hr
        have hres : (if rLinger v t 4 (nI p) (-1) 13 p = 2 then (if rLinger v t 4 (nI p) (-1) 14 p = nI t then rReport (rLinger v t 4 (nI p) (-1)) t else if 0 ≤ rLinger v t 4 (nI p) (-1) 14 p then rLinger v t 4 (nI p) (-1) else rReport (rLinger v t 4 (nI p) (-1)) t) else rLinger v t 4 (nI p) (-1)) = rReport (rLinger v t 4 (nI p) (-1)) t := by
          rw [if_pos hr2.1]
          by_cases g3 : rLinger v t 4 (nI p) (-1) 14 p = nI t
          · rw [if_pos g3]
          · rw [if_neg g3, if_neg (hr2.2.resolve_left g3)]
        rw [hres]
        exact (h1.passFault (by omega) ht hp8 hal1 hap1 h3t hw1).mono (by omega) (Nat.le_refl _)
      · rw [if_neg hr]
        have hres : (if rLinger v t 4 (nI p) (-1) 13 p = 2 then (if rLinger v t 4 (nI p) (-1) 14 p = nI t then rReport (rLinger v t 4 (nI p) (-1)) t else if 0 ≤ rLinger v t 4 (nI p) (-1) 14 p then rLinger v t 4 (nI p) (-1) else rReport (rLinger v t 4 (nI p) (-1)) t) else rLinger v t 4 (nI p) (-1)) = rLinger v t 4 (nI p) (-1) := by
          by_cases g1 : rLinger v t 4 (nI p) (-1) 13 p = 2
          · rw [if_pos g1, if_neg (fun g3 => hr (hrc.mpr ⟨g1, Or.inl g3⟩))]
            by_cases g4 : 0 ≤ rLinger v t 4 (nI p) (-1) 14 p
            · rw [if_pos g4]
            · exact absurd (hrc.mpr ⟨g1, Or.inr g4⟩) hr
          · rw [if_neg g1]
        rw [hres]
        exact h1.mono (by omega) (Nat.le_refl _)
  · rw [if_pos (hok.mpr hc), if_neg hc]
    have hl : ¬ u 4 k = 0 := by
      intro hl
      rw [hl] at hc
      apply hc
      rw [hwl]
      split <;> decide
    have hf : v 20 k = u 5 k := ((hM k hk).2 hl).1
    have hfl := vin_lt (h.ci.frame hk)
    unfold rDo cDoAccess
    rw [hf, hwl]
    by_cases hs : v 18 t = 0
    · rw [if_pos hs, if_pos hs, if_neg (by decide), h.wr _ hfl]
      exact ((h.value (by omega) ht hal).run (by omega) ht (by simpa [kup] using hal)).mono (by omega) (Nat.le_refl _)
    · rw [if_neg hs, if_neg hs, if_pos rfl, h.e19 ht]
      exact ((h.word).run (by omega) ht (by simpa [kup] using hal)).mono (by omega) (Nat.le_refl _)
theorem takes_eq (h : Rel a m v u) {r s : Nat} (hr : r < 8) (hs : s < 8) (har : ¬ v 1 r = 0) : rTakes v r s = cTakes u r (nI s) := by
  have d1 := (h.tt hr har).1
  have d2 := h.e14 hr
  have d3 := h.xr r hr
  have d4 : v 14 r < 0 ↔ v 14 r = -1 := by
    rw [← m1_neg d3, ← nlt_le]
    simp
  unfold rTakes cTakes cRecv
  rw [← d1, ← d2]
  simp only [d4]
  by_cases g1 : v 13 r = 2 <;> by_cases g2 : v 14 r = -1 <;> by_cases g3 : v 14 r = nI s <;> by_cases g4 : v 13 r = 5 <;> simp_all
end KO1
