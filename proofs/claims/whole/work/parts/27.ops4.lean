section KO4
variable {a m : Nat} {v u : kSt}
theorem rWaits_iff {i : Nat} {t : Int32} : rWaits v i t = true ↔ (ws v i ∧ v 14 i = t) := by
  unfold rWaits ws
  by_cases h1 : v 1 i = 0
  · simp [h1]
  · by_cases h2 : v 13 i = 1 ∨ v 13 i = 3 ∨ v 13 i = 4
    · by_cases h3 : v 14 i = t <;> simp [h1, h2, h3]
    · simp [h1, h2]
/-- the reference's best one and the class's first one -/
def Corr (v : kSt) (t x : Int32) (b : Option Nat) : Prop := match b with
  | none => x = -1
  | some j => x = nI j ∧ j < 8 ∧ rWaits v j t = true
theorem best_eq (h : Rel a m v u) {t e : Int32} (he : e = -1 ∨ 0 ≤ e) : ∀ (k n : Nat) (b : Option Nat), n + k = 8 → Corr v t (rBest v t e n) b → Corr v t (rBest v t e 8) (cLong u t e n k b)
  | 0, n, b, hn, hc => by
    obtain rfl : n = 8 := by omega
    exact hc
  | k + 1, n, b, hn, hc => by
    have hn8 : n < 8 := by omega
    have hask : rAsk v t e n = true ↔ ((e = -1 ∨ e = nI n) ∧ cWaitsTo u n t = true) := by
      unfold rAsk
      rw [← waits_eq h hn8]
      simp only [m1_lt he]
      have hs : nI n = e ↔ e = nI n := ⟨fun z => z.symm, fun z => z.symm⟩
      simp only [hs]
      by_cases h1 : rWaits v n t = true <;> by_cases h2 : e = -1 <;> by_cases h3 : e = nI n <;> simp_all
    have hs1 : rBest v t e (n + 1) = if rAsk v t e n = true then (if rBest v t e n < 0 then nI n else if v 16 (ix (rBest v t e n)) ≤ v 16 n then rBest v t e n else nI n) else rBest v t e n := rfl
    by_cases ha : rAsk v t e n = true
    · have hw : rWaits v n t = true := by
        rw [waits_eq h hn8]
        exact (hask.mp ha).2
      rw [if_pos ha] at hs1
      cases b with
      | none =>
        have hx : rBest v t e n = -1 := hc
        have e1 : cLong u t e n (k + 1) none = cLong u t e (n + 1) k (some n) := by
          rw [cLong, if_pos (hask.mp ha)]
        rw [e1]
        refine best_eq h he k (n + 1) (some n) (by omega) ⟨?_, hn8, hw⟩
        rw [hs1, hx, if_pos (by decide)]
      | some j =>
        obtain ⟨hx, hj, hwj⟩ := hc
        have e1 : cLong u t e n (k + 1) (some j) = if u (8 + j) 15 ≤ u (8 + n) 15 then cLong u t e (n + 1) k (some j) else cLong u t e (n + 1) k (some n) := by
          rw [cLong, if_pos (hask.mp ha)]
        have hor := h.or j n hj hn8 (rWaits_iff.mp hwj).1 (rWaits_iff.mp hw).1
        rw [hx, if_neg (nI_pos (by omega)), ix_nI (by omega)] at hs1
        rw [e1]
        by_cases hle : u (8 + j) 15 ≤ u (8 + n) 15
        · rw [if_pos hle]
          rw [if_pos (hor.mpr hle)] at hs1
          exact best_eq h he k (n + 1) (some j) (by omega) ⟨hs1, hj, hwj⟩
        · rw [if_neg hle]
          rw [if_neg (fun z => hle (hor.mp z))] at hs1
          exact best_eq h he k (n + 1) (some n) (by omega) ⟨hs1, hn8, hw⟩
    · rw [if_neg ha] at hs1
      have e1 : cLong u t e n (k + 1) b = cLong u t e (n + 1) k b := by
        cases b <;> rw [cLong, if_neg (fun z => ha (hask.mpr z))]
      rw [e1]
      exact best_eq h he k (n + 1) b (by omega) (by rw [hs1]; exact hc)
theorem receive_ok (h : Rel a m v u) (ha : a < 2 ^ 16) (hm : m < 2 ^ 20) {t e n : Int32} : (rReceive v t e n).1 = (cReceive u t e n).1 ∧ Rel (a + 10) m (rReceive v t e n).2 (cReceive u t e n).2 := by
  have hmn := h.mono (show a ≤ a + 10 by omega) (Nat.le_refl m)
  unfold rReceive cReceive
  rw [running_eq h, thread_eq h]
  by_cases h1 : cIsRun u t = true
  · rw [if_pos h1, if_pos h1]
    by_cases h2 : e = t
    · rw [if_pos h2, if_pos h2]; exact ⟨rfl, hmn⟩
    · rw [if_neg h2, if_neg h2]
      by_cases h3 : e ≠ -1 ∧ cIsThread u e = false
      · rw [if_pos h3, if_pos h3]; exact ⟨rfl, hmn⟩
      · rw [if_neg h3, if_neg h3]
        have he : e = -1 ∨ 0 ≤ e := by
          by_cases h9 : e = -1
          · exact Or.inl h9
          · cases h8 : cIsThread u e with
            | true => exact Or.inr (vin_ge (cIsThread_in h8))
            | false => exact absurd ⟨h9, h8⟩ h3
        by_cases h4 : cIsLimit n = true
        · obtain ⟨h5, h6⟩ := isLimit_eq.mp h4
          obtain ⟨r1, r2, r3⟩ := run_0 h h1
          rw [if_neg h5, if_pos h6, if_pos h4]
          have hc := best_eq h he (t := t) 8 0 none rfl rfl
          unfold rRec2 cRec2
          cases hl : cLong u t e 0 8 none with
          | none =>
            rw [hl] at hc
            have hx : rBest v t e 8 = -1 := hc
            rw [hx, if_pos (by decide)]
            by_cases h8 : n = 0
            · rw [if_pos h8]
              dsimp only
              rw [if_pos h8]
              exact ⟨rfl, (h.gaveUp (by omega) r1 r2 r3).mono (by omega) (Nat.le_refl _)⟩
            · rw [if_neg h8]
              dsimp only
              rw [if_neg h8]
              obtain ⟨l1, l2⟩ := limit_ok h hm h5 h6 h8
              exact ⟨rfl, (h.recvW (by omega) r1 r2 l1 l2 he).mono (by omega) (Nat.le_refl _)⟩
          | some j =>
            rw [hl] at hc
            obtain ⟨hx, hj, hw⟩ := hc
            obtain ⟨⟨w1, w2⟩, w3⟩ := rWaits_iff.mp hw
            have htt := cIsRun_in h1
            rw [hx, if_neg (nI_pos (by omega)), ix_nI (by omega)]
            dsimp only
            refine ⟨rfl, ?_⟩
            unfold cTakeW
            rw [← (h.tt hj w1).1]
            by_cases h4s : v 13 j = 4
            · rw [if_pos h4s, if_pos h4s]
              obtain ⟨q1, q2, q3⟩ := (h.tt hj w1).2.2.2.1 (Or.inl h4s)
              refine (h.passFault (by omega) hj r1 w1 r2 ?_ q3).mono (by omega) (Nat.le_refl _)
              rw [← q1, w3]
              exact vin_eq htt
            · rw [if_neg h4s, if_neg h4s]
              refine h.message (by omega) hj r1 (fun z => ?_) w1 r2
              subst z
              rw [r3] at w2
              simp at w2
        · rw [if_neg h4]
          have h5 : ¬ (¬ n < -1 ∧ n ≤ 100) := fun z => h4 (isLimit_eq.mpr z)
          by_cases h6 : n < -1
          · rw [if_pos h6]; exact ⟨rfl, hmn⟩
          · rw [if_neg h6, if_neg (fun z => h5 ⟨h6, z⟩)]; exact ⟨rfl, hmn⟩
  · rw [if_neg h1, if_neg h1]; exact ⟨rfl, hmn⟩
theorem recv_pre (h : Rel a m v u) {t : Int32} : ∀ j, j < 8 → rWaits v j t = true → v 13 j = 4 → vp_in (v 3 j) 8 := by
  intro j hj hw h4
  obtain ⟨⟨w1, -⟩, -⟩ := rWaits_iff.mp hw
  have := ((h.tt hj w1).2.2.2.1 (Or.inl h4)).2.1
  exact or_in (h.ri.pager hj) this
-- unmap
theorem rSoft_ne {z s : Int32} {c : Nat} (hc : c ≠ 21) : ∀ n, rSoft v z s n c = v c
  | 0 => rfl
  | n + 1 => by
    unfold rSoft
    split
    · rw [kup_ne _ _ _ hc, rSoft_ne hc n]
    · exact rSoft_ne hc n
theorem rSoftB_congr {v' : kSt} {z s : Int32} {k : Nat} (h0 : v' 20 = v 20) (h1 : v' 21 k = v 21 k) (h2 : v' 22 = v 22) (h3 : v' 23 = v 23) : rSoftB v' z s k = rSoftB v z s k := by
  unfold rSoftB
  rw [h0, h1, rDesc_congr (by rw [h0]) h2 h3]
theorem rSoft_21 {z s : Int32} : ∀ n k, rSoft v z s n 21 k = if k < n ∧ rSoftB v z s k = true then 1 else v 21 k
  | 0, k => by simp [rSoft]
  | n + 1, k => by
    have ih := rSoft_21 (z := z) (s := s) n
    have e4 : rSoft v z s n 21 n = v 21 n := by rw [ih n]; simp
    have eh : rSoftB (rSoft v z s n) z s n = rSoftB v z s n := rSoftB_congr (rSoft_ne (by decide) n) e4 (rSoft_ne (by decide) n) (rSoft_ne (by decide) n)
    unfold rSoft
    rw [eh]
    by_cases hkn : k = n
    · subst hkn
      by_cases hc : rSoftB v z s k = true
      · rw [if_pos hc, kup_eq, if_pos ⟨by omega, hc⟩]
      · rw [if_neg hc, ih k, if_neg (fun e => by omega), if_neg (fun e => hc e.2)]
    · have hlt : (k < n + 1 ∧ rSoftB v z s k = true) ↔ (k < n ∧ rSoftB v z s k = true) := ⟨fun e => ⟨by omega, e.2⟩, fun e => ⟨by omega, e.2⟩⟩
      simp only [hlt]
      split
      · rw [kup_j hkn, ih k]
      · exact ih k
theorem rSoftN_eq {z s : Int32} : ∀ n, rSoftN v z s n = cnt (rSoftB v z s) n
  | 0 => rfl
  | n + 1 => by
    have e4 : rSoft v z s n 21 n = v 21 n := by rw [rSoft_21 n n]; simp
    have eh : rSoftB (rSoft v z s n) z s n = rSoftB v z s n := rSoftB_congr (rSoft_ne (by decide) n) e4 (rSoft_ne (by decide) n) (rSoft_ne (by decide) n)
    unfold rSoftN cnt
    rw [eh, rSoftN_eq n]
theorem softB_eq (h : Rel a m v u) {b : Nat} (hb : b < 96) {s : Int32} {k : Nat} (hk : k < 96) : rSoftB v (nI b) s k = (lowP u (nI b) 1 k || (decide (k = b) && (decide (¬ s = 0) && decide (u 4 k = 2)))) := by
  have hM := h.mr
  unfold rSoftB lowP
  by_cases hl : u 4 k = 0
  · rw [if_pos ((hM k hk).1.mpr hl), holds_f.mpr hl, hl]
    simp
  · rw [if_neg (fun e => hl ((hM k hk).1.mp e)), ((hM k hk).2 hl).2.1, holds_t.mpr hl, desc_eq hM h.ci hk hl]
    have hq := nI_eq (a := k) (b := b) (by omega) (by omega)
    simp only [hq]
    rcases ((hM k hk).2 hl).2.2.2.1 with e | e
    · rw [e]
      simp
    · rw [e]
      have : (1 : Int32) < 2 := by decide
      cases cDesc u k (nI b) <;> by_cases h1 : s = 0 <;> by_cases h2 : k = b <;> simp [h1, h2, this]
theorem cLower_4 {k j : Nat} {x : Int32} : cLower u k x 4 j = if j = k ∧ x < u 4 k then x else u 4 j := by
  unfold cLower
  by_cases h1 : x < u 4 k
  · rw [if_pos h1]
    by_cases h2 : j = k
    · subst h2; rw [kup_eq, if_pos ⟨rfl, h1⟩]
    · rw [kup_j h2, if_neg (fun e => h2 e.1)]
  · rw [if_neg h1, if_neg (fun e => h1 e.2)]
theorem unmap2_ok (h : Rel a m v u) {b : Nat} (hb : b < 96) (hl : ¬ u 4 b = 0) {l s : Int32} (hl2 : l = 1 ∨ l = 2) : (rUnm v b l s).1 = (cUnm u b l s).1 ∧ Rel a m (rUnm v b l s).2 (cUnm u b l s).2 := by
  have hM := h.mr
  have hself := desc_self hM h.ci hb hl
  unfold rUnm cUnm
  rw [if_pos ((held_f hM hb).mpr hl), if_pos (holds_t.mpr hl)]
  rcases hl2 with rfl | rfl
  · rw [if_pos rfl, show (1 : Int32) - 1 = 0 from rfl]
    obtain ⟨hB, hN⟩ := h.below (z := nI b) ⟨b, hb, rfl⟩
    have e4 : cLow u (nI b) 0 96 4 b = u 4 b := by
      rw [cLow_4 96 b, lowP_0 hM hb, hself]
      simp
    by_cases hs : s = 0
    · rw [if_pos hs, if_pos hs, if_pos hs]
      refine ⟨by rw [hN], ?_⟩
      have : kup (rRem v (nI b) 96 12) 20 b (rRem v (nI b) 96 12 20 b) = rRem v (nI b) 96 12 := by
        funext c j
        by_cases hh : c = 20 ∧ j = b
        · obtain ⟨rfl, rfl⟩ := hh; rw [kup_eq]
        · simp [kup, hh]
      dsimp only
      rw [this]
      exact hB
    · rw [if_neg hs, if_neg hs, if_neg hs]
      have hlv := ((hM b hb).2 hl).2.2.2.1
      obtain ⟨l1, l2⟩ := cLower_0 (u := cLow u (nI b) 0 96) (k := b) (by rw [e4]; exact hlv)
      rw [l1, l2]
      refine ⟨by rw [hN], ?_⟩
      have hcl := (h.clean hb).1
      have q1 : rClean v b = kup (rRem v (nI b) 96 12) 20 b (-1) := by unfold rClean; rw [if_neg (fun e => hl ((hM b hb).1.mp e))]
      have q2 : cClean u b = kup (cLow u (nI b) 0 96) 4 b 0 := by
        unfold cClean
        rw [if_pos (holds_t.mpr hl), l1]
      rw [q1, q2] at hcl
      exact hcl
  · rw [if_neg (by decide), show (2 : Int32) - 1 = 1 from rfl]
    have e4 : cLow u (nI b) 1 96 4 b = u 4 b := by
      rw [cLow_4 96 b]
      have : lowP u (nI b) 1 b = false := by unfold lowP; rw [hself]; simp
      simp [this]
    have g : ∀ c, c ≠ 4 → cLow u (nI b) 1 96 c = u c := fun c hc => cLow_ne hc 96
    have hcnt : rSoftN v (nI b) s 96 = cLowN u (nI b) 1 96 + (if ¬ s = 0 ∧ u 4 b = 2 then 1 else 0) := by
      rw [rSoftN_eq, cLowN_eq, cnt_split (Q := lowP u (nI b) 1) (R := fun k => decide (k = b) && (decide (¬ s = 0) && decide (u 4 b = 2))) 96, cnt_one 96]
      · simp [hb]
      · intro k hk
        rw [softB_eq h hb hk]
        by_cases hkb : k = b
        · subst hkb
          have : lowP u (nI k) 1 k = false := by unfold lowP; rw [hself]; simp
          simp [this]
        · simp [hkb]
    have hlvb : (1 : Int32) < u 4 b ↔ u 4 b = 2 := by
      rcases ((hM b hb).2 hl).2.2.2.1 with e | e <;> rw [e] <;> decide
    by_cases hs : s = 0
    · rw [if_pos hs]
      refine ⟨by rw [hcnt]; simp [hs], ?_⟩
      dsimp only
      refine h.map (h.ci.low 96) (h.ri.soft 96) (fun c hc => rSoft_ne (by omega) 96) (fun c hc => cLow_ne (by omega) 96) ?_
      show MR _ _ _ _ _ _ _ _
      rw [rSoft_ne (c := 20) (by decide), rSoft_ne (c := 22) (by decide), rSoft_ne (c := 23) (by decide), g 5 (by decide), g 6 (by decide), g 7 (by decide)]
      refine MR.soft hM (rSoftB v (nI b) s) (fun k hk => ?_) (fun k hk => ?_) (fun k hk hsf => ?_)
      · rw [rSoft_21 96 k]; simp [hk]
      · rw [cLow_4 96 k, softB_eq h hb hk]
        simp [hk, hs]
      · intro hz
        rw [softB_eq h hb hk] at hsf
        unfold lowP at hsf
        rw [holds_f.mpr hz, hz] at hsf
        simp at hsf
    · rw [if_neg hs]
      have hN1 : cLowerN (cLow u (nI b) 1 96) b 1 = if ¬ s = 0 ∧ u 4 b = 2 then 1 else 0 := by
        unfold cLowerN
        rw [e4]
        simp only [hlvb]
        simp [hs]
      refine ⟨by rw [hcnt, hN1], ?_⟩
      dsimp only
      refine h.map (h.ci.low 96).lower (h.ri.soft 96) (fun c hc => rSoft_ne (by omega) 96) (fun c hc => by rw [cLower_ne (by omega), cLow_ne (by omega)]) ?_
      show MR _ _ _ _ _ _ _ _
      rw [rSoft_ne (c := 20) (by decide), rSoft_ne (c := 22) (by decide), rSoft_ne (c := 23) (by decide), cLower_ne (a := 5) (by decide), cLower_ne (a := 6) (by decide), cLower_ne (a := 7) (by decide), g 5 (by decide), g 6 (by decide), g 7 (by decide)]
      refine MR.soft hM (rSoftB v (nI b) s) (fun k hk => ?_) (fun k hk => ?_) (fun k hk hsf => ?_)
      · rw [rSoft_21 96 k]; simp [hk]
      · rw [cLower_4, e4, cLow_4 96 k, softB_eq h hb hk]
        simp only [hlvb]
        by_cases hkb : k = b
        · subst hkb
          have : lowP u (nI k) 1 k = false := by unfold lowP; rw [hself]; simp
          simp [this, hs, hk]
        · simp [hkb, hk]
      · intro hz
        rw [softB_eq h hb hk] at hsf
        unfold lowP at hsf
        rw [holds_f.mpr hz, hz] at hsf
        simp at hsf
theorem unmap_ok (h : Rel a m v u) {t p l s : Int32} : (rUnmap v t p l s).1 = (cUnmap u t p l s).1 ∧ Rel (a + 10) m (rUnmap v t p l s).2 (cUnmap u t p l s).2 := by
  have hmn := h.mono (show a ≤ a + 10 by omega) (Nat.le_refl m)
  have e0 : cUnmap u t p l s = if cIsRun u t = true then (if cIsPage p = true then (if cIsLevel l = true then cUnm u (sl (u (8 + ix t) 3) p) l s else (-1, u)) else (-1, u)) else (-1, u) := rfl
  rw [e0]
  unfold rUnmap
  rw [running_eq h]
  by_cases h1 : cIsRun u t = true
  · rw [if_pos h1, if_pos h1]
    by_cases h2 : cIsPage p = true
    · obtain ⟨g1, g2⟩ := isPage_eq.mp h2
      obtain ⟨r1, r2, r3⟩ := run_0 h h1
      rw [if_neg g1, if_neg (fun e => le15.mp g2 (lt15.mp e)), if_pos h2]
      by_cases h3 : cIsLevel l = true
      · have h4 := isLevel_eq.mp h3
        rw [if_pos h3, if_neg (fun e => h4.elim e.1 e.2), rsl_sl, h.e2 r1]
        have hs := (sl_eq (h.ci.space r1) (cIsPage_in h2)).2
        generalize sl (u (8 + ix t) 3) p = b at hs ⊢
        by_cases hl : u 4 b = 0
        · unfold rUnm cUnm
          rw [if_neg (fun e => (held_f h.mr hs).mp e hl), if_neg (fun e => holds_t.mp e hl)]
          exact ⟨rfl, hmn⟩
        · obtain ⟨e1, e2⟩ := unmap2_ok h hs hl h4 (s := s)
          exact ⟨e1, e2.mono (by omega) (Nat.le_refl _)⟩
      · have h4 : ¬ (l = 1 ∨ l = 2) := fun e => h3 (isLevel_eq.mpr e)
        rw [if_neg h3, if_pos ⟨fun e => h4 (Or.inl e), fun e => h4 (Or.inr e)⟩]
        exact ⟨rfl, hmn⟩
    · rw [if_neg h2]
      by_cases g1 : p < 0
      · rw [if_pos g1]; exact ⟨rfl, hmn⟩
      · rw [if_neg g1, if_pos]
        · exact ⟨rfl, hmn⟩
        · rw [lt15]
          rcases Decidable.em (16 ≤ p) with e | e
          · exact e
          · exact absurd (isPage_eq.mpr ⟨g1, le15.mpr e⟩) h2
  · rw [if_neg h1, if_neg h1]; exact ⟨rfl, hmn⟩
end KO4
