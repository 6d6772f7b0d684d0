section KMP
abbrev MRs (v u : kSt) : Prop := MR (v 20) (v 21) (v 22) (v 23) (u 4) (u 5) (u 6) (u 7)
theorem nI_m1 {k : Nat} (h : k < 2 ^ 31) : ¬ nI k = -1 := fun e => nI_pos h (by rw [e]; decide)
theorem holds_t {u : kSt} {k : Nat} : cHolds u k = true ↔ ¬ u 4 k = 0 := by unfold cHolds; split <;> simp_all
theorem holds_f {u : kSt} {k : Nat} : cHolds u k = false ↔ u 4 k = 0 := by unfold cHolds; split <;> simp_all
theorem nlt_le {x : Int32} : ¬ x < 0 ↔ 0 ≤ x := by
  rw [Int32.lt_iff_toInt_lt, Int32.le_iff_toInt_le]
  omega
theorem ix_pos0 {e : Nat} (he : e < 2 ^ 31) : nI e = 0 ↔ e = 0 := by
  rw [show (0 : Int32) = nI 0 from rfl, nI_eq he (by decide)]
/-- a held mapping's depth, and its parent -/
theorem MR.dep {v u : kSt} (hI : cInv u) {k : Nat} (hk : k < 96) : ∃ e, e ≤ 12 ∧ u 6 k = nI e ∧ ix (u 6 k) = e := by
  obtain ⟨e, he, e2⟩ := hI.dep k hk
  exact ⟨e, he, e2, by rw [e2, ix_nI (by omega)]⟩
theorem MR.up {v u : kSt} (h : MRs v u) (hI : cInv u) {k e : Nat} (hk : k < 96) (hl : ¬ u 4 k = 0) (he : e + 1 ≤ 12) (hd : u 6 k = nI (e + 1)) : ∃ q, q < 96 ∧ u 7 k = nI q ∧ v 23 k = nI q ∧ ¬ u 4 q = 0 ∧ u 6 q = nI e := by
  obtain ⟨-, h2⟩ := h k hk
  obtain ⟨-, -, -, -, -, h3⟩ := h2 hl
  obtain ⟨h4, q, hq, h5, h6, h7⟩ := h3 (by rw [hd]; exact fun e9 => by have := (ix_pos0 (by omega)).mp e9; omega)
  refine ⟨q, hq, h5, h4.trans h5, h6, ?_⟩
  obtain ⟨z, hz, ez⟩ := hI.dep q hq
  rw [ez] at h7 ⊢
  rw [hd, nI_1, nI_eq (by omega) (by omega)] at h7
  rw [show z = e by omega]
theorem up_eq {v u : kSt} (h : MRs v u) (hI : cInv u) {z : Int32} : ∀ (e k : Nat), e ≤ 12 → k < 96 → ¬ u 4 k = 0 → u 6 k = nI e → rUp v z e (nI k) = cUp u z e (nI k)
  | 0, k, _, _, _, _ => rfl
  | e + 1, k, he, hk, hl, hd => by
    obtain ⟨q, hq, h5, h6, h7, h8⟩ := MR.up h hI hk hl he hd
    have hx := ix_nI (n := k) (by omega)
    have h1 := nI_m1 (k := k) (by omega)
    unfold rUp cUp
    rw [hx, h5, h6, if_neg h1, up_eq h hI e q (by omega) hq h7 h8]
theorem held_f {v u : kSt} (h : MRs v u) {k : Nat} (hk : k < 96) : 0 ≤ v 20 k ↔ ¬ u 4 k = 0 := by
  rw [← nlt_le, (h k hk).1]
theorem desc_eq {v u : kSt} (h : MRs v u) (hI : cInv u) {z : Int32} {k : Nat} (hk : k < 96) (hl : ¬ u 4 k = 0) : rDesc v k z = cDesc u k z := by
  obtain ⟨e, he, e2, e3⟩ := MR.dep (v := v) hI hk
  have h1 : v 22 k = u 6 k := ((h k hk).2 hl).2.2.1
  unfold rDesc cDesc
  rw [if_pos ((held_f h hk).mpr hl), h1, e3]
  exact up_eq h hI e k he hk hl e2
theorem desc_n {v u : kSt} (h : MRs v u) {z : Int32} {k : Nat} (hk : k < 96) (hl : u 4 k = 0) : rDesc v k z = false := by
  unfold rDesc
  rw [if_neg (fun e => (held_f h hk).mp e hl), ix0]
  rfl
theorem count_eq {v u : kSt} (h : MRs v u) (hI : cInv u) {z : Int32} : ∀ n, n ≤ 96 → rCount v z n = cCount u z n
  | 0, _ => rfl
  | n + 1, hn => by
    unfold rCount cCount
    rw [count_eq h hI n (by omega)]
    by_cases hl : u 4 n = 0
    · rw [desc_n h (by omega) hl]
      simp [holds_f.mpr hl]
    · rw [desc_eq h hI (by omega) hl]
      by_cases hd : cDesc u n z = true
      · rw [if_pos hd, if_pos ⟨holds_t.mpr hl, hd⟩]
      · rw [if_neg hd, if_neg (fun e => hd e.2)]
        simp
/-- how many of the first n places are so -/
def cnt (P : Nat → Bool) : Nat → Int32
  | 0 => 0
  | n + 1 => if P n = true then cnt P n + 1 else cnt P n
theorem cnt_congr {P Q : Nat → Bool} : ∀ n, (∀ k, k < n → P k = Q k) → cnt P n = cnt Q n
  | 0, _ => rfl
  | n + 1, h => by
    unfold cnt
    rw [h n (by omega), cnt_congr n (fun k hk => h k (by omega))]
theorem cnt_split {P Q R : Nat → Bool} : ∀ n, (∀ k, k < n → P k = (Q k || R k) ∧ (Q k && R k) = false) → cnt P n = cnt Q n + cnt R n
  | 0, _ => rfl
  | n + 1, h => by
    have ih := cnt_split (P := P) (Q := Q) (R := R) n (fun k hk => h k (by omega))
    obtain ⟨h1, h2⟩ := h n (by omega)
    unfold cnt
    rw [h1, ih]
    cases hq : Q n <;> cases hr : R n <;> rw [hq, hr] at h2 <;> simp_all <;> ac_rfl
theorem cnt_one {a : Nat} {b : Bool} : ∀ n, cnt (fun k => decide (k = a) && b) n = if a < n ∧ b = true then 1 else 0
  | 0 => by simp [cnt]
  | n + 1 => by
    unfold cnt
    rw [cnt_one n]
    by_cases hna : n = a
    · subst hna
      cases b <;> simp
    · by_cases h1 : a < n
      · cases b <;> simp [hna, h1, show a < n + 1 by omega]
      · have : ¬ a < n + 1 := by omega
        simp [hna, h1, this]
-- the class's removal
theorem cUp_congr {u u' : kSt} (h : u' 7 = u 7) {z : Int32} : ∀ n a, cUp u' z n a = cUp u z n a
  | 0, _ => rfl
  | n + 1, a => by
    unfold cUp
    rw [h, cUp_congr h n]
theorem cDesc_congr {u u' : kSt} (h6 : u' 6 = u 6) (h7 : u' 7 = u 7) {z : Int32} {k : Nat} : cDesc u' k z = cDesc u k z := by
  unfold cDesc
  rw [h6, cUp_congr h7]
def lowP (u : kSt) (z m : Int32) (k : Nat) : Bool := cHolds u k && cDesc u k z && decide (m < u 4 k)
theorem cLow_4 {u : kSt} {z m : Int32} : ∀ n k, cLow u z m n 4 k = if k < n ∧ lowP u z m k = true then m else u 4 k
  | 0, k => by simp [cLow]
  | n + 1, k => by
    have ih := cLow_4 (u := u) (z := z) (m := m) n
    have e4 : cLow u z m n 4 n = u 4 n := by rw [ih n]; simp
    have eh : cHolds (cLow u z m n) n = cHolds u n := by unfold cHolds; rw [e4]
    have ed : cDesc (cLow u z m n) n z = cDesc u n z := cDesc_congr (cLow_ne (by decide) n) (cLow_ne (by decide) n)
    unfold cLow
    rw [eh, ed]
    by_cases hc : cHolds u n = true ∧ cDesc u n z = true
    · rw [if_pos hc]
      unfold cLower
      rw [e4]
      by_cases hm : m < u 4 n
      · rw [if_pos hm]
        by_cases hkn : k = n
        · subst hkn
          rw [kup_eq, if_pos ⟨by omega, by simp [lowP, hc, hm]⟩]
        · rw [kup_j hkn, ih k]
          by_cases hk : k < n
          · simp [hk, show k < n + 1 by omega]
          · simp [hk, show ¬ k < n + 1 by omega]
      · rw [if_neg hm, ih k]
        by_cases hkn : k = n
        · subst hkn
          simp [lowP, hm]
        · by_cases hk : k < n
          · simp [hk, show k < n + 1 by omega]
          · simp [hk, show ¬ k < n + 1 by omega]
    · rw [if_neg hc, ih k]
      by_cases hkn : k = n
      · subst hkn
        have : lowP u z m k = false := by
          unfold lowP
          cases h1 : cHolds u k <;> cases h2 : cDesc u k z <;> simp_all
        simp [this]
      · by_cases hk : k < n
        · simp [hk, show k < n + 1 by omega]
        · simp [hk, show ¬ k < n + 1 by omega]
theorem cLowN_eq {u : kSt} {z m : Int32} : ∀ n, cLowN u z m n = cnt (lowP u z m) n
  | 0 => rfl
  | n + 1 => by
    have e4 : cLow u z m n 4 n = u 4 n := by rw [cLow_4 n n]; simp
    have eh : cHolds (cLow u z m n) n = cHolds u n := by unfold cHolds; rw [e4]
    have ed : cDesc (cLow u z m n) n z = cDesc u n z := cDesc_congr (cLow_ne (by decide) n) (cLow_ne (by decide) n)
    unfold cLowN cnt
    rw [eh, ed, cLowN_eq n]
    unfold cLowerN
    rw [e4]
    unfold lowP
    cases h1 : cHolds u n <;> cases h2 : cDesc u n z <;> by_cases hm : m < u 4 n <;> simp [hm]
-- the reference's removal
theorem rUp_congr {v v' : kSt} (h : v' 23 = v 23) {z : Int32} : ∀ n a, rUp v' z n a = rUp v z n a
  | 0, _ => rfl
  | n + 1, a => by
    unfold rUp
    rw [h, rUp_congr h n]
theorem rDesc_congr {v v' : kSt} {k : Nat} (h0 : v' 20 k = v 20 k) (h2 : v' 22 = v 22) (h3 : v' 23 = v 23) {z : Int32} : rDesc v' k z = rDesc v k z := by
  unfold rDesc
  rw [h0, h2, rUp_congr h3]
theorem rHit_congr {v v' : kSt} {k : Nat} (h0 : v' 20 k = v 20 k) (h2 : v' 22 = v 22) (h3 : v' 23 = v 23) {z e : Int32} : rHit v' z e k = rHit v z e k := by
  unfold rHit
  rw [h0, h2, rDesc_congr h0 h2 h3]
theorem rRem1_ne {v : kSt} {z e : Int32} {a : Nat} (ha : a ≠ 20) : ∀ n, rRem1 v z e n a = v a
  | 0 => rfl
  | n + 1 => by
    unfold rRem1
    split
    · rw [kup_ne _ _ _ ha, rRem1_ne ha n]
    · exact rRem1_ne ha n
theorem rRem1_20 {v : kSt} {z e : Int32} : ∀ n k, rRem1 v z e n 20 k = if k < n ∧ rHit v z e k = true then -1 else v 20 k
  | 0, k => by simp [rRem1]
  | n + 1, k => by
    have ih := rRem1_20 (v := v) (z := z) (e := e) n
    have e4 : rRem1 v z e n 20 n = v 20 n := by rw [ih n]; simp
    have eh : rHit (rRem1 v z e n) z e n = rHit v z e n := rHit_congr e4 (rRem1_ne (by decide) n) (rRem1_ne (by decide) n)
    unfold rRem1
    rw [eh]
    by_cases hc : rHit v z e n = true
    · rw [if_pos hc]
      by_cases hkn : k = n
      · subst hkn
        rw [kup_eq, if_pos ⟨by omega, hc⟩]
      · rw [kup_j hkn, ih k]
        by_cases hk : k < n
        · simp [hk, show k < n + 1 by omega]
        · simp [hk, show ¬ k < n + 1 by omega]
    · rw [if_neg hc, ih k]
      by_cases hkn : k = n
      · subst hkn
        simp [hc]
      · by_cases hk : k < n
        · simp [hk, show k < n + 1 by omega]
        · simp [hk, show ¬ k < n + 1 by omega]
theorem rRem1N_eq {v : kSt} {z e a : Int32} : ∀ n, rRem1N v z e a n = a + cnt (rHit v z e) n
  | 0 => by simp [rRem1N, cnt]
  | n + 1 => by
    have e4 : rRem1 v z e n 20 n = v 20 n := by rw [rRem1_20 n n]; simp
    have eh : rHit (rRem1 v z e n) z e n = rHit v z e n := rHit_congr e4 (rRem1_ne (by decide) n) (rRem1_ne (by decide) n)
    unfold rRem1N cnt
    rw [eh, rRem1N_eq n]
    split
    · ac_rfl
    · rfl
/-- taken by the removal from depth e on -/
def hitU (v : kSt) (z : Int32) (e : Nat) (k : Nat) : Bool := decide (0 ≤ v 20 k) && rDesc v k z && decide (1 ≤ ix (v 22 k)) && decide (ix (v 22 k) ≤ e)
theorem hitU_0 {v : kSt} {z : Int32} {k : Nat} : hitU v z 0 k = false := by
  unfold hitU
  generalize ix (v 22 k) = x
  cases x <;> simp
theorem rHit_iff {v : kSt} (hI : rInv v) {z : Int32} {e k : Nat} (hk : k < 96) (he : e < 12) : rHit v z (nI (e + 1)) k = (decide (0 ≤ v 20 k) && rDesc v k z && decide (ix (v 22 k) = e + 1)) := by
  obtain ⟨d, hd, hd2⟩ := vp_in_of (hI.depth hk) (by decide)
  have hx := ix_nI (n := d) (by omega)
  have hq := nI_eq (a := d) (b := e + 1) (by omega) (by omega)
  unfold rHit
  rw [hd2, hx]
  simp only [hq]
  by_cases h1 : v 20 k < 0
  · have : ¬ 0 ≤ v 20 k := fun e => nlt_le.mpr e h1
    simp [h1, this]
  · have := nlt_le.mp h1
    by_cases h2 : d = e + 1 <;> cases h3 : rDesc v k z <;> simp [h1, this, h2]
theorem rRem_ne {z : Int32} {N a : Nat} (ha : a ≠ 20) (e : Nat) (v : kSt) : rRem v z N e a = v a := by
  induction e generalizing v with
  | zero => rfl
  | succ e ih =>
    rw [rRem, ih, rRem1_ne ha]
theorem rRem_20 {z : Int32} (e : Nat) (he : e ≤ 12) (v : kSt) (hI : rInv v) (k : Nat) (hk : k < 96) : rRem v z 96 e 20 k = if hitU v z e k = true then -1 else v 20 k := by
  induction e generalizing v with
  | zero =>
    have : hitU v z 0 k = false := hitU_0
    rw [if_neg (by rw [this]; decide)]
    rfl
  | succ e ih =>
    have h22 : rRem1 v z (nI (e + 1)) 96 22 = v 22 := rRem1_ne (by decide) 96
    have h23 : rRem1 v z (nI (e + 1)) 96 23 = v 23 := rRem1_ne (by decide) 96
    have h20 := rRem1_20 (v := v) (z := z) (e := nI (e + 1)) 96 k
    rw [rRem, ih (by omega) _ (hI.rem1 96)]
    have hh := rHit_iff hI (z := z) hk (show e < 12 by omega)
    by_cases h : rHit v z (nI (e + 1)) k = true
    · rw [if_pos ⟨hk, h⟩] at h20
      have h1 : hitU (rRem1 v z (nI (e + 1)) 96) z e k = false := by
        unfold hitU
        rw [h20]
        simp [show ¬ (0 : Int32) ≤ -1 by decide]
      rw [if_neg (by rw [h1]; decide), h20, if_pos]
      rw [hh] at h
      unfold hitU
      simp at h ⊢
      exact ⟨⟨h.1, by omega⟩, by omega⟩
    · rw [if_neg (fun h9 => h h9.2)] at h20
      have h1 : hitU (rRem1 v z (nI (e + 1)) 96) z e k = hitU v z (e + 1) k := by
        rw [hh] at h
        unfold hitU
        rw [h20, h22, rDesc_congr h20 h22 h23]
        cases hf : decide (0 ≤ v 20 k) <;> cases hd : rDesc v k z <;> simp_all
        by_cases h9 : 1 ≤ ix (v 22 k)
        · by_cases h8 : ix (v 22 k) ≤ e
          · simp [h9, h8, show ix (v 22 k) ≤ e + 1 by omega]
          · simp [h9, h8, show ¬ ix (v 22 k) ≤ e + 1 by omega]
        · simp [h9]
      rw [h1, h20]
theorem rRemN_eq {z : Int32} (e : Nat) (he : e ≤ 12) (v : kSt) (hI : rInv v) (a : Int32) : rRemN v z a 96 e = a + cnt (hitU v z e) 96 := by
  induction e generalizing v a with
  | zero =>
    have : cnt (hitU v z 0) 96 = cnt (fun _ => false) 96 := cnt_congr 96 (fun k _ => hitU_0)
    rw [this, rRemN]
    have z0 : ∀ n, cnt (fun _ => false) n = 0 := by
      intro n
      induction n with
      | zero => rfl
      | succ n ih => simp [cnt, ih]
    rw [z0]
    simp
  | succ e ih =>
    rw [rRemN, ih (by omega) _ (hI.rem1 96), rRem1N_eq]
    have : cnt (hitU v z (e + 1)) 96 = cnt (rHit v z (nI (e + 1))) 96 + cnt (hitU (rRem1 v z (nI (e + 1)) 96) z e) 96 := by
      apply cnt_split
      intro k hk
      have h22 : rRem1 v z (nI (e + 1)) 96 22 = v 22 := rRem1_ne (by decide) 96
      have h23 : rRem1 v z (nI (e + 1)) 96 23 = v 23 := rRem1_ne (by decide) 96
      have h20 := rRem1_20 (v := v) (z := z) (e := nI (e + 1)) 96 k
      have hh := rHit_iff hI (z := z) hk (show e < 12 by omega)
      by_cases h : rHit v z (nI (e + 1)) k = true
      · rw [if_pos ⟨hk, h⟩] at h20
        have h1 : hitU (rRem1 v z (nI (e + 1)) 96) z e k = false := by
          unfold hitU
          rw [h20]
          simp [show ¬ (0 : Int32) ≤ -1 by decide]
        rw [h1, h]
        rw [hh] at h
        refine ⟨?_, rfl⟩
        unfold hitU
        simp at h ⊢
        exact ⟨⟨h.1, by omega⟩, by omega⟩
      · rw [if_neg (fun h9 => h h9.2)] at h20
        have hf9 : rHit v z (nI (e + 1)) k = false := by cases h8 : rHit v z (nI (e + 1)) k <;> simp_all
        rw [hf9]
        refine ⟨?_, rfl⟩
        rw [hh] at h
        unfold hitU
        rw [h20, h22, rDesc_congr h20 h22 h23]
        cases hf : decide (0 ≤ v 20 k) <;> cases hd : rDesc v k z <;> simp_all
        by_cases h9 : 1 ≤ ix (v 22 k)
        · by_cases h8 : ix (v 22 k) ≤ e
          · simp [h9, h8, show ix (v 22 k) ≤ e + 1 by omega]
          · simp [h9, h8, show ¬ ix (v 22 k) ≤ e + 1 by omega]
        · simp [h9]
    rw [this, Int32.add_assoc]
end KMP
