section KMS
theorem cAdopt_ne {u : kSt} {z t : Int32} {b : Nat} (hb : b ≠ 7) : ∀ n, cAdopt u z t n b = u b
  | 0 => rfl
  | n + 1 => by
    unfold cAdopt
    split
    · rw [kup_ne _ _ _ hb, cAdopt_ne hb n]
    · exact cAdopt_ne hb n
theorem cAdopt_7 {u : kSt} {z t : Int32} : ∀ n k, cAdopt u z t n 7 k = if k < n ∧ ¬ u 4 k = 0 ∧ u 7 k = z then t else u 7 k
  | 0, k => by simp [cAdopt]
  | n + 1, k => by
    have ih := cAdopt_7 (u := u) (z := z) (t := t) n
    have e7 : cAdopt u z t n 7 n = u 7 n := by rw [ih n]; simp
    have eh : cHolds (cAdopt u z t n) n = cHolds u n := by unfold cHolds; rw [cAdopt_ne (by decide)]
    unfold cAdopt
    rw [eh, e7]
    simp only [holds_t]
    by_cases hkn : k = n
    · subst hkn
      by_cases hc : ¬ u 4 k = 0 ∧ u 7 k = z
      · rw [if_pos hc, kup_eq, if_pos ⟨by omega, hc⟩]
      · rw [if_neg hc, ih k, if_neg (fun e => by omega), if_neg (fun e => hc e.2)]
    · have hlt : (k < n + 1 ∧ ¬ u 4 k = 0 ∧ u 7 k = z) ↔ (k < n ∧ ¬ u 4 k = 0 ∧ u 7 k = z) := ⟨fun e => ⟨by omega, e.2⟩, fun e => ⟨by omega, e.2⟩⟩
      simp only [hlt]
      split
      · rw [kup_j hkn, ih k]
      · exact ih k
theorem rAdopt_ne {v : kSt} {s t : Int32} {b : Nat} (hb : b ≠ 23) : ∀ n, rAdopt v s t n b = v b
  | 0 => rfl
  | n + 1 => by
    unfold rAdopt
    split
    · rw [kup_ne _ _ _ hb, rAdopt_ne hb n]
    · exact rAdopt_ne hb n
theorem rBelow_iff {v : kSt} {s : Int32} {k : Nat} : rBelow v s k = true ↔ (¬ v 20 k < 0 ∧ ¬ v 22 k ≤ 0 ∧ v 23 k = s) := by
  unfold rBelow
  split
  · simp_all
  · split
    · simp_all
    · split <;> simp_all
theorem rAdopt_23 {v : kSt} {s t : Int32} : ∀ n k, rAdopt v s t n 23 k = if k < n ∧ rBelow v s k = true then t else v 23 k
  | 0, k => by simp [rAdopt]
  | n + 1, k => by
    have ih := rAdopt_23 (v := v) (s := s) (t := t) n
    have e7 : rAdopt v s t n 23 n = v 23 n := by rw [ih n]; simp
    have eh : rBelow (rAdopt v s t n) s n = rBelow v s n := by unfold rBelow; rw [rAdopt_ne (by decide), rAdopt_ne (by decide), e7]
    unfold rAdopt
    rw [eh]
    by_cases hkn : k = n
    · subst hkn
      by_cases hc : rBelow v s k = true
      · rw [if_pos hc, kup_eq, if_pos ⟨by omega, hc⟩]
      · rw [if_neg hc, ih k, if_neg (fun e => by omega), if_neg (fun e => hc e.2)]
    · have hlt : (k < n + 1 ∧ rBelow v s k = true) ↔ (k < n ∧ rBelow v s k = true) := ⟨fun e => ⟨by omega, e.2⟩, fun e => ⟨by omega, e.2⟩⟩
      simp only [hlt]
      split
      · rw [kup_j hkn, ih k]
      · exact ih k
/-- a mapping goes from s to the empty place t, with what is below it -/
theorem MR.move {f l d p lv fr dp pa f' l' d' p' lv' fr' dp' pa' : Nat → Int32} (h : MR f l d p lv fr dp pa) {s t : Nat} (hs : s < 96) (ht : t < 96) (hst : ¬ s = t) (hls : ¬ lv s = 0) (hlt : lv t = 0) (hdp : ∀ k, k < 96 → ∃ e, e ≤ 12 ∧ dp k = nI e)
    (qf : ∀ k, k < 96 → f' k = if k = s then -1 else if k = t then f s else f k) (ql : ∀ k, k < 96 → l' k = if k = t then l s else l k) (qd : ∀ k, k < 96 → d' k = if k = t then d s else d k)
    (qlv : ∀ k, k < 96 → lv' k = if k = s then 0 else if k = t then lv s else lv k) (qfr : ∀ k, k < 96 → fr' k = if k = t then fr s else fr k) (qdp : ∀ k, k < 96 → dp' k = if k = t then dp s else dp k)
    (qp : ∀ k, k < 96 → k ≠ s → k ≠ t → ¬ lv k = 0 → ¬ dp k = 0 → p' k = if p k = nI s then nI t else p k) (qpt : ¬ p s = nI s → p' t = p s)
    (qpa : ∀ k, k < 96 → k ≠ s → k ≠ t → ¬ lv k = 0 → pa' k = if pa k = nI s then nI t else pa k) (qpat : ¬ pa s = nI s → pa' t = pa s) : MR f' l' d' p' lv' fr' dp' pa' := by
  obtain ⟨hs1, hs2⟩ := h s hs
  obtain ⟨s1, s2, s3, s4, s5, s6⟩ := hs2 hls
  have hns : ¬ pa s = nI s := by
    intro e
    by_cases h0 : dp s = 0
    · rw [s5 h0] at e
      exact nI_m1 (k := s) (by omega) e.symm
    · obtain ⟨-, q, hq, b2, -, b4⟩ := s6 h0
      rw [b2, nI_eq (by omega) (by omega)] at e
      subst e
      obtain ⟨e9, he, e2⟩ := hdp q hq
      rw [e2, nI_1, nI_eq (by omega) (by omega)] at b4
      omega
  intro k hk
  by_cases hks : k = s
  · subst hks
    rw [qf k hk, qlv k hk, if_pos rfl, if_pos rfl]
    exact ⟨⟨fun _ => rfl, fun _ => by decide⟩, fun h9 => absurd rfl h9⟩
  · by_cases hkt : k = t
    · subst hkt
      rw [qf k hk, qlv k hk, ql k hk, qd k hk, qfr k hk, qdp k hk, if_neg hks, if_pos rfl, if_neg hks, if_pos rfl, if_pos rfl, if_pos rfl, if_pos rfl, if_pos rfl, qpat hns]
      refine ⟨hs1, fun _ => ⟨s1, s2, s3, s4, s5, fun h0 => ?_⟩⟩
      obtain ⟨b1, q, hq, b2, b3, b4⟩ := s6 h0
      have hqs : ¬ q = s := fun e => hns (by rw [b2, e])
      have hqk : ¬ q = k := fun e => b3 (by rw [e]; exact hlt)
      refine ⟨by rw [qpt (by rw [b1]; exact hns)]; exact b1, q, hq, b2, ?_, ?_⟩
      · rw [qlv q hq, if_neg hqs, if_neg hqk]; exact b3
      · rw [qdp q hq, if_neg hqk]; exact b4
    · obtain ⟨h1, h2⟩ := h k hk
      rw [qf k hk, qlv k hk, ql k hk, qd k hk, qfr k hk, qdp k hk, if_neg hks, if_neg hkt, if_neg hks, if_neg hkt, if_neg hkt, if_neg hkt, if_neg hkt, if_neg hkt]
      refine ⟨h1, fun hh => ?_⟩
      obtain ⟨a1, a2, a3, a4, a5, a6⟩ := h2 hh
      rw [qpa k hk hks hkt hh]
      refine ⟨a1, a2, a3, a4, fun h0 => ?_, fun h0 => ?_⟩
      · rw [a5 h0, if_neg (fun e => nI_m1 (k := s) (by omega) e.symm)]
      · obtain ⟨b1, q, hq, b2, b3, b4⟩ := a6 h0
        rw [qp k hk hks hkt hh h0, b1, b2]
        have hqt : ¬ q = t := fun e => b3 (by rw [e]; exact hlt)
        by_cases hqs : q = s
        · subst hqs
          rw [if_pos rfl]
          refine ⟨rfl, t, ht, rfl, ?_, ?_⟩
          · rw [qlv t ht, if_neg (fun e => hst e.symm), if_pos rfl]; exact b3
          · rw [qdp t ht, if_pos rfl]; exact b4
        · have hne : ¬ nI q = nI s := fun e => hqs ((nI_eq (by omega) (by omega)).mp e)
          rw [if_neg hne]
          refine ⟨rfl, q, hq, rfl, ?_, ?_⟩
          · rw [qlv q hq, if_neg hqs, if_neg hqt]; exact b3
          · rw [qdp q hq, if_neg hqt]; exact b4
/-- a mapping of its own at the empty place t, below s -/
theorem MR.derive {f l d p lv fr dp pa f' l' d' p' lv' fr' dp' pa' : Nat → Int32} {x : Int32} (h : MR f l d p lv fr dp pa) {s t : Nat} (hs : s < 96) (ht : t < 96) (hst : ¬ s = t) (hls : ¬ lv s = 0) (hlt : lv t = 0) (hx : x = 1 ∨ x = 2) (hdp : ∀ k, k < 96 → ∃ e, e ≤ 12 ∧ dp k = nI e)
    (qf : ∀ k, k < 96 → f' k = if k = t then f s else f k) (ql : ∀ k, k < 96 → l' k = if k = t then x else l k) (qd : ∀ k, k < 96 → d' k = if k = t then d s + 1 else d k) (qp : ∀ k, k < 96 → p' k = if k = t then nI s else p k)
    (qlv : ∀ k, k < 96 → lv' k = if k = t then x else lv k) (qfr : ∀ k, k < 96 → fr' k = if k = t then fr s else fr k) (qdp : ∀ k, k < 96 → dp' k = if k = t then dp s + 1 else dp k) (qpa : ∀ k, k < 96 → pa' k = if k = t then nI s else pa k) : MR f' l' d' p' lv' fr' dp' pa' := by
  obtain ⟨hs1, hs2⟩ := h s hs
  obtain ⟨s1, s2, s3, s4, s5, s6⟩ := hs2 hls
  have hx0 : ¬ x = 0 := by rcases hx with e | e <;> rw [e] <;> decide
  have hd1 : ¬ dp s + 1 = 0 := by
    obtain ⟨e, he, e2⟩ := hdp s hs
    rw [e2, nI_1, ix_pos0 (by omega)]
    omega
  intro k hk
  rw [qf k hk, qlv k hk, ql k hk, qd k hk, qp k hk, qfr k hk, qdp k hk, qpa k hk]
  by_cases hkt : k = t
  · subst hkt
    rw [if_pos rfl, if_pos rfl, if_pos rfl, if_pos rfl, if_pos rfl, if_pos rfl, if_pos rfl, if_pos rfl]
    refine ⟨⟨fun e => absurd (hs1.mp e) hls, fun e => absurd e hx0⟩, fun _ => ⟨s1, rfl, by rw [s3], hx, fun e => absurd e hd1, fun _ => ⟨rfl, s, hs, rfl, ?_, ?_⟩⟩⟩
    · rw [qlv s hs, if_neg hst]; exact hls
    · rw [qdp s hs, if_neg hst]
  · rw [if_neg hkt, if_neg hkt, if_neg hkt, if_neg hkt, if_neg hkt, if_neg hkt, if_neg hkt, if_neg hkt]
    obtain ⟨h1, h2⟩ := h k hk
    refine ⟨h1, fun hh => ?_⟩
    obtain ⟨a1, a2, a3, a4, a5, a6⟩ := h2 hh
    refine ⟨a1, a2, a3, a4, a5, fun h0 => ?_⟩
    obtain ⟨b1, q, hq, b2, b3, b4⟩ := a6 h0
    have hqt : ¬ q = t := fun e => b3 (by rw [e]; exact hlt)
    refine ⟨b1, q, hq, b2, ?_, ?_⟩
    · rw [qlv q hq, if_neg hqt]; exact b3
    · rw [qdp q hq, if_neg hqt]; exact b4
variable {a m : Nat} {v u : kSt}
theorem Rel.move (h : Rel a m v u) {s t : Nat} (hs : s < 96) (ht : t < 96) (hst : ¬ s = t) (hls : ¬ u 4 s = 0) (hlt : u 4 t = 0) : Rel a m (rMove v s t) (cMove u s t) := by
  have hM := h.mr
  have hts : ¬ t = s := fun e => hst e.symm
  refine h.map (h.ci.move hs ht) (h.ri.move hs ht) (fun c hc => ?_) (fun c hc => ?_) ?_
  · unfold rMove
    rw [rAdopt_ne (by omega), kup_ne _ _ _ (by omega), kup_ne _ _ _ (by omega), kup_ne _ _ _ (by omega), kup_ne _ _ _ (by omega), kup_ne _ _ _ (by omega)]
  · unfold cMove
    rw [kup_ne _ _ _ (by omega), cAdopt_ne (by omega), kup_ne _ _ _ (by omega), kup_ne _ _ _ (by omega), kup_ne _ _ _ (by omega), kup_ne _ _ _ (by omega)]
  · have p0 : ∀ {x y : Int32}, x = y → (x = y) := fun e => e
    have hpos : ∀ k, k < 96 → ¬ u 4 k = 0 → ¬ u 6 k = 0 → ¬ v 20 k < 0 ∧ ¬ v 22 k ≤ 0 := by
      intro k hk hl h0
      refine ⟨fun e => hl ((hM k hk).1.mp e), fun e => ?_⟩
      rw [((hM k hk).2 hl).2.2.1] at e
      obtain ⟨z, hz, ez, -⟩ := MR.dep (v := v) h.ci hk
      rw [ez] at e h0
      exact nI_nle (n := z) (Nat.pos_of_ne_zero (fun e0 => h0 (by rw [e0]; rfl))) (by omega) e
    refine MR.move hM hs ht hst hls hlt h.ci.dep (fun k hk => ?_) (fun k hk => ?_) (fun k hk => ?_) (fun k hk => ?_) (fun k hk => ?_) (fun k hk => ?_) (fun k hk hks hkt hl h0 => ?_) (fun hp => ?_) (fun k hk hks hkt hl => ?_) (fun hp => ?_)
    · unfold rMove; rw [rAdopt_ne (by decide)]; simp [kup]
    · unfold rMove; rw [rAdopt_ne (by decide)]; simp [kup]
    · unfold rMove; rw [rAdopt_ne (by decide)]; simp [kup]
    · unfold cMove
      by_cases hks : k = s
      · subst hks; rw [kup_eq]; simp
      · rw [kup_j hks, cAdopt_ne (by decide)]; simp [kup, hks]
    · unfold cMove; rw [kup_o (by decide), cAdopt_ne (by decide)]; simp [kup]
    · unfold cMove; rw [kup_o (by decide), cAdopt_ne (by decide)]; simp [kup]
    · have hb := hpos k hk hl h0
      unfold rMove
      rw [rAdopt_23 96 k]
      have e9 : (k < 96 ∧ rBelow (kup (kup (kup (kup (kup v 20 t (v 20 s)) 21 t (v 21 s)) 22 t (v 22 s)) 23 t (v 23 s)) 20 s (-1)) (nI s) k = true) ↔ v 23 k = nI s := by
        rw [rBelow_iff]
        simp [kup, hks, hkt, hk]
        exact ⟨fun e => e.2.2, fun e => ⟨nlt_le.mp hb.1, Int32.not_le.mp hb.2, e⟩⟩
      simp only [e9]
      simp [kup, hkt]
    · unfold rMove
      rw [rAdopt_23 96 t, if_neg]
      · simp [kup]
      · rw [rBelow_iff]
        simp [kup, hts]
        intro _ _ _
        exact hp
    · unfold cMove
      rw [kup_o (by decide), cAdopt_7 96 k]
      simp [kup, hkt, hk, hl]
    · unfold cMove
      rw [kup_o (by decide), cAdopt_7 96 t, if_neg]
      · simp [kup]
      · simp [kup]
        intro _ _
        exact hp
theorem Rel.derive (h : Rel a m v u) {i s t : Nat} (hs : s < 96) (ht : t < 96) (hst : ¬ s = t) (hls : ¬ u 4 s = 0) (hlt : u 4 t = 0) (hd : ¬ 12 ≤ u 6 s) {x : Int32} (h6 : v 6 i = x) (hx : x = 1 ∨ x = 2) : Rel a m (rDerive v i s t) (cDerive u s t (if u 4 s < x then u 4 s else x)) := by
  have hM := h.mr
  obtain ⟨s1, s2, s3, s4, -, -⟩ := (hM s hs).2 hls
  have e1 : (if v 21 s ≤ v 6 i then v 21 s else v 6 i) = (if u 4 s < x then u 4 s else x) := by
    rw [h6, s2]
    rcases s4 with e | e <;> rcases hx with e2 | e2 <;> rw [e, e2] <;> decide
  have hy : (if u 4 s < x then u 4 s else x) = 1 ∨ (if u 4 s < x then u 4 s else x) = 2 := by
    split
    · exact s4
    · exact hx
  refine h.map (h.ci.derive hs hd) (h.ri.derive hs (by rw [s3]; exact hd)) (fun c hc => ?_) (fun c hc => ?_) ?_
  · unfold rDerive
    rw [kup_ne _ _ _ (by omega), kup_ne _ _ _ (by omega), kup_ne _ _ _ (by omega), kup_ne _ _ _ (by omega)]
  · unfold cDerive
    rw [kup_ne _ _ _ (by omega), kup_ne _ _ _ (by omega), kup_ne _ _ _ (by omega), kup_ne _ _ _ (by omega)]
  · refine MR.derive hM hs ht hst hls hlt hy h.ci.dep (fun k hk => ?_) (fun k hk => ?_) (fun k hk => ?_) (fun k hk => ?_) (fun k hk => ?_) (fun k hk => ?_) (fun k hk => ?_) (fun k hk => ?_)
    · unfold rDerive; simp [kup]
    · unfold rDerive; rw [e1]; simp [kup]
    · unfold rDerive; simp [kup]
    · unfold rDerive; simp [kup]
    · unfold cDerive; simp [kup]
    · unfold cDerive; simp [kup]
    · unfold cDerive; simp [kup]
    · unfold cDerive; simp [kup]
/-- an offer is handed on -/
theorem Rel.handOn (h : Rel a m v u) {i s t : Nat} (hs : s < 96) (ht : t < 96) (h6 : v 6 i = u (8 + i) 6) (h7 : v 7 i = u (8 + i) 7) (hx : v 6 i = 1 ∨ v 6 i = 2) : Rel a m (rHandOn v i s t) (cHandOn u s t (u (8 + i) 6) (u (8 + i) 7)) := by
  have hM := h.mr
  unfold rHandOn cHandOn
  by_cases hst : s = t
  · rw [if_pos hst, if_pos hst]; exact h
  · rw [if_neg hst, if_neg hst]
    by_cases hls : u 4 s = 0
    · rw [if_neg (fun e => (held_f hM hs).mp e hls), if_neg (fun e => holds_t.mp e hls)]; exact h
    · rw [if_pos ((held_f hM hs).mpr hls), if_pos (holds_t.mpr hls)]
      obtain ⟨h1, hlt⟩ := h.clean ht
      have hM1 := h1.mr
      have g7 : rClean v t 7 = v 7 := by
        unfold rClean
        split
        · rfl
        · rw [kup_ne _ _ _ (by decide), rRem_ne (by decide)]
      have g6 : rClean v t 6 = v 6 := by
        unfold rClean
        split
        · rfl
        · rw [kup_ne _ _ _ (by decide), rRem_ne (by decide)]
      unfold rHand2 cHand2
      by_cases hl2 : cClean u t 4 s = 0
      · rw [if_neg (fun e => (held_f hM1 hs).mp e hl2), if_neg (fun e => holds_t.mp e hl2)]; exact h1
      · rw [if_pos ((held_f hM1 hs).mpr hl2), if_pos (holds_t.mpr hl2), g7, h7]
        by_cases hg : u (8 + i) 7 = 0
        · rw [if_pos hg, if_neg (show ¬ u (8 + i) 7 ≠ 0 from fun e => e hg), ((hM1 s hs).2 hl2).2.2.1]
          by_cases hd : 12 ≤ cClean u t 6 s
          · rw [if_pos hd, if_pos hd]; exact h1
          · rw [if_neg hd, if_neg hd]
            exact h1.derive hs ht hst hl2 hlt hd (by rw [g6, h6]) (by rw [← h6]; exact hx)
        · rw [if_neg hg, if_pos hg]
          exact h1.move hs ht hst hl2 hlt
end KMS
