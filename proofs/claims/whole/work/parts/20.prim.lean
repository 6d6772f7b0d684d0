section KPM
theorem lt_succ {A : Nat} (h : A < 2 ^ 30) {x : Int32} (hx : x < nI A) : x < nI A + 1 := by
  rw [nI_1, Int32.lt_iff_toInt_lt, nI_toInt (by omega)]
  rw [Int32.lt_iff_toInt_lt, nI_toInt (by omega)] at hx
  omega
theorem lt_self_succ {A : Nat} (h : A < 2 ^ 30) : nI A < nI A + 1 := by
  rw [nI_1]
  exact nI_lt (by omega) (by omega)
theorem lt_le {x y : Int32} (h : x < y) : x ≤ y := by
  rw [Int32.lt_iff_toInt_lt] at h
  rw [Int32.le_iff_toInt_le]
  omega
theorem lt_nle {x y : Int32} (h : x < y) : ¬ y ≤ x := by
  rw [Int32.lt_iff_toInt_lt] at h
  rw [Int32.le_iff_toInt_le]
  omega
theorem le_rf (x : Int32) : x ≤ x := by
  rw [Int32.le_iff_toInt_le]
  omega
/-- the order and the counters where thread i doesn't begin to wait -/
theorem OB_keep {a : Nat} {v u v' u' : kSt} (hO : OR v u) (hB : BD a v u) (ha : a < 2 ^ 20) (i : Nat)
    (hv : ∀ c j, j ≠ i → (c = 1 ∨ c = 13 ∨ c = 16) → v' c j = v c j) (hu : ∀ j, j ≠ i → u' (8 + j) 15 = u (8 + j) 15)
    (hw : ws v' i → ws v i ∧ v' 16 i = v 16 i ∧ u' (8 + i) 15 = u (8 + i) 15) (hc : v' 0 1 = v 0 1 ∨ v' 0 1 = v 0 1 + 1) (hc2 : u' 0 4 = u 0 4) : OR v' u' ∧ BD (a + 1) v' u' := by
  have key : ∀ j, ws v' j → ws v j ∧ v' 16 j = v 16 j ∧ u' (8 + j) 15 = u (8 + j) 15 := by
    intro j hj
    by_cases hji : j = i
    · subst hji; exact hw hj
    · unfold ws at hj ⊢
      rw [hv 1 j hji (by simp), hv 13 j hji (by simp)] at hj
      exact ⟨hj, hv 16 j hji (by simp), hu j hji⟩
  obtain ⟨⟨A, hA, eA⟩, ⟨B, hBb, eB⟩, hb⟩ := hB
  refine ⟨fun j k hj hk wj wk => ?_, ⟨A, by omega, by rw [hc2]; exact eA⟩, ?_, fun j hj wj => ?_⟩
  · obtain ⟨w1, e1, e2⟩ := key j wj
    obtain ⟨w2, e3, e4⟩ := key k wk
    rw [e1, e2, e3, e4]
    exact hO j k hj hk w1 w2
  · rcases hc with e | e
    · exact ⟨B, by omega, by rw [e]; exact eB⟩
    · exact ⟨B + 1, by omega, by rw [e, eB, nI_1]⟩
  · obtain ⟨w1, e1, e2⟩ := key j wj
    rw [e1, e2, hc2]
    refine ⟨(hb j hj w1).1, ?_⟩
    rcases hc with e | e
    · rw [e]; exact (hb j hj w1).2
    · rw [e, eB]
      have := (hb j hj w1).2
      rw [eB] at this
      exact lt_succ (by omega) this
/-- the order and the counters where thread i begins to wait -/
theorem OB_join {a : Nat} {v u v' u' : kSt} (hO : OR v u) (hB : BD a v u) (ha : a < 2 ^ 20) (i : Nat)
    (hv : ∀ c j, j ≠ i → (c = 1 ∨ c = 13 ∨ c = 16) → v' c j = v c j) (hu : ∀ j, j ≠ i → u' (8 + j) 15 = u (8 + j) 15)
    (h16 : v' 16 i = v 0 1) (h15 : u' (8 + i) 15 = u 0 4) (hc : v' 0 1 = v 0 1 + 1) (hc2 : u' 0 4 = u 0 4 + 1) : OR v' u' ∧ BD (a + 1) v' u' := by
  have key : ∀ j, j ≠ i → ws v' j → ws v j ∧ v' 16 j = v 16 j ∧ u' (8 + j) 15 = u (8 + j) 15 := by
    intro j hji hj
    unfold ws at hj ⊢
    rw [hv 1 j hji (by simp), hv 13 j hji (by simp)] at hj
    exact ⟨hj, hv 16 j hji (by simp), hu j hji⟩
  obtain ⟨⟨A, hA, eA⟩, ⟨B, hBb, eB⟩, hb⟩ := hB
  refine ⟨fun j k hj hk wj wk => ?_, ⟨A + 1, by omega, by rw [hc2, eA, nI_1]⟩, ⟨B + 1, by omega, by rw [hc, eB, nI_1]⟩, fun j hj wj => ?_⟩
  · by_cases hji : j = i
    · subst hji
      by_cases hki : k = j
      · subst hki
        exact ⟨fun _ => le_rf _, fun _ => le_rf _⟩
      · obtain ⟨w2, e3, e4⟩ := key k hki wk
        have h9 := hb k hk w2
        rw [h16, h15, e3, e4]
        exact ⟨fun h => absurd h (lt_nle h9.2), fun h => absurd h (lt_nle h9.1)⟩
    · obtain ⟨w1, e1, e2⟩ := key j hji wj
      by_cases hki : k = i
      · subst hki
        have h9 := hb j hj w1
        rw [h16, h15, e1, e2]
        exact ⟨fun _ => lt_le h9.1, fun _ => lt_le h9.2⟩
      · obtain ⟨w2, e3, e4⟩ := key k hki wk
        rw [e1, e2, e3, e4]
        exact hO j k hj hk w1 w2
  · by_cases hji : j = i
    · subst hji
      rw [h15, h16, hc, hc2, eA, eB]
      exact ⟨lt_self_succ (by omega), lt_self_succ (by omega)⟩
    · obtain ⟨w1, e1, e2⟩ := key j hji wj
      have h9 := hb j hj w1
      rw [e1, e2, hc, hc2, eA, eB]
      rw [eA, eB] at h9
      exact ⟨lt_succ (by omega) h9.1, lt_succ (by omega) h9.2⟩
theorem cOk_win {i : Nat} {p : Int32} (hp : p = -1 ∨ vp_in p 16) : cOk (8 + i) 8 p :=
  ⟨fun _ _ => ⟨fun e => by omega, fun e => by omega, fun e => by omega, fun e => by omega, fun _ => hp, fun e => by omega⟩, fun e => by omega, fun e => by omega, fun e => by omega⟩
theorem cOk_offr {i : Nat} {p : Int32} (hp : p = -1 ∨ vp_in p 16) : cOk (8 + i) 5 p :=
  ⟨fun _ _ => ⟨fun e => by omega, fun e => by omega, fun e => by omega, fun _ => hp, fun e => by omega, fun e => by omega⟩, fun e => by omega, fun e => by omega, fun e => by omega⟩
variable {a m : Nat} {v u : kSt}
theorem Rel.run (h : Rel a m v u) (ha : a < 2 ^ 20) {i : Nat} (hi : i < 8) (hal : ¬ v 1 i = 0) {o : Int32} : Rel (a + 1) m (rRun v i o) (cRun u i o) := by
  obtain ⟨⟨e2, e5, e6, e7, e8, e9, e10, e11, e12, e14, e17, e19⟩, hr, hd, hc⟩ := h.tr hi
  obtain ⟨c1, c2, c3, c4, c5⟩ := hc hal
  have hOB := OB_keep (v' := rRun v i o) (u' := cRun u i o) h.or h.bd ha i (fun c j hj hc => by rcases hc with rfl | rfl | rfl <;> simp [rRun, kup, hj]) (fun j hj => by simp [cRun, kup, hj]) (fun hw => by simp [ws, rRun, kup] at hw) (Or.inl (by simp [rRun, kup])) (by simp [cRun, kup])
  refine h.at i hi h.ci.run h.ri.run (fun c j hj h0 h4 h20 => by simp [rRun, kup, hj, h0, h4]) (fun j k hj8 hj hk => by simp [rRun, kup]) (by simp [rRun, kup]) (by simp [rRun, kup]) (Or.inl (by simp [rRun, kup])) (fun j hj8 hj => by (try simp only [cRun]); repeat rw [kup_ne _ _ _ (by omega)]) (fun j hj8 hj => by (try simp only [cRun]); repeat rw [kup_ne _ _ _ (by omega)]) (by first | (simp [cRun, kup]; done) | ((try simp only [cRun]); repeat rw [kup_o (by omega)])) ?_ hOB.1 hOB.2 (by simp [rRun, kup_ne]) (by simp [rRun, kup_ne]) (by simp [rRun, kup_ne]) (by simp [rRun, kup_ne]) ?_ ?_ ?_ ?_ ?_ (by simpa [rRun, kup] using h.xr i hi)
  · refine ⟨by simp [rRun, cRun, kup, e2, e5, e6, e7, e8, e9, e10, e11, e12, e14, e17, e19], fun k hk => by simpa [rRun, cRun, kup] using hr k hk, by simp [rRun, cRun, kup, hal], fun _ => ⟨by simp [rRun, cRun, kup, c1], by simp [rRun, cRun, kup, c2], by simpa [rRun, cRun, kup] using c3, by simp [rRun, cRun, kup], by simp [rRun, cRun, kup]⟩⟩
  · (try simp only [cRun]); repeat rw [kup_ne _ _ _ (by omega)]
  · (try simp only [cRun]); repeat rw [kup_ne _ _ _ (by omega)]
  · (try simp only [cRun]); repeat rw [kup_ne _ _ _ (by omega)]
  · (try simp only [cRun]); repeat rw [kup_ne _ _ _ (by omega)]
  · intro f hf; rw [show (rRun v i o) 24 = v 24 by simp [rRun, kup_ne], show (cRun u i o) 3 = u 3 by (try simp only [cRun]); repeat rw [kup_ne _ _ _ (by omega)]]; exact h.wr f hf
theorem Rel.sendW (h : Rel a m v u) (ha : a < 2 ^ 20) {i : Nat} (hi : i < 8) (hal : ¬ v 1 i = 0) {st on lim dl : Int32} (hst : st = 1 ∨ st = 3) (hdl : dl = (if 0 ≤ lim then v 0 0 + lim else -1)) (hd2 : dl = -1 ∨ v 0 0 < dl) (hon : on = -1 ∨ 0 ≤ on) : Rel (a + 1) m (rLinger v i st on lim) (cJoin u i st on dl) := by
  obtain ⟨⟨e2, e5, e6, e7, e8, e9, e10, e11, e12, e14, e17, e19⟩, hr, hd, hc⟩ := h.tr hi
  obtain ⟨c1, c2, c3, c4, c5⟩ := hc hal
  have hOB := OB_join (v' := rLinger v i st on lim) (u' := cJoin u i st on dl) h.or h.bd ha i (fun c j hj hc => by rcases hc with rfl | rfl | rfl <;> simp [rLinger, kup, hj]) (fun j hj => by simp [cJoin, cWait, kup, hj]) (by simp [rLinger, kup]) (by simp [cJoin, cWait, kup]) (by simp [rLinger, kup]) (by simp [cJoin, cWait, kup])
  refine h.at i hi h.ci.join h.ri.linger (fun c j hj h0 h4 h20 => by simp [rLinger, kup, hj, h0, h4]) (fun j k hj8 hj hk => by simp [rLinger, kup]) (by simp [rLinger, kup]) (by simp [rLinger, kup]) (Or.inl (by simp [rLinger, kup])) (fun j hj8 hj => by (try simp only [cJoin, cWait]); repeat rw [kup_ne _ _ _ (by omega)]) (fun j hj8 hj => by (try simp only [cJoin, cWait]); repeat rw [kup_ne _ _ _ (by omega)]) (by first | (simp [cJoin, cWait, kup]; done) | ((try simp only [cJoin, cWait]); repeat rw [kup_o (by omega)])) ?_ hOB.1 hOB.2 (by simp [rLinger, kup_ne]) (by simp [rLinger, kup_ne]) (by simp [rLinger, kup_ne]) (by simp [rLinger, kup_ne]) ?_ ?_ ?_ ?_ ?_ (by simpa [rLinger, kup] using hon)
  · refine ⟨by simp [rLinger, cJoin, cWait, kup, e2, e5, e6, e7, e8, e9, e10, e11, e12, e14, e17, e19], fun k hk => by simpa [rLinger, cJoin, cWait, kup] using hr k hk, by rcases hst with rfl | rfl <;> simp [rLinger, cJoin, cWait, kup, hal], fun _ => ⟨by simp [rLinger, cJoin, cWait, kup, c1], by simp [rLinger, cJoin, cWait, kup, c2], by simpa [rLinger, cJoin, cWait, kup] using c3, by rcases hst with rfl | rfl <;> simp [rLinger, cJoin, cWait, kup], by intro _; simp only [rLinger, cJoin, cWait]; simp [kup, ← hdl]; exact hd2⟩⟩
  · (try simp only [cJoin, cWait]); repeat rw [kup_ne _ _ _ (by omega)]
  · (try simp only [cJoin, cWait]); repeat rw [kup_ne _ _ _ (by omega)]
  · (try simp only [cJoin, cWait]); repeat rw [kup_ne _ _ _ (by omega)]
  · (try simp only [cJoin, cWait]); repeat rw [kup_ne _ _ _ (by omega)]
  · intro f hf; rw [show (rLinger v i st on lim) 24 = v 24 by simp [rLinger, kup_ne], show (cJoin u i st on dl) 3 = u 3 by (try simp only [cJoin, cWait]); repeat rw [kup_ne _ _ _ (by omega)]]; exact h.wr f hf
theorem Rel.faultW (h : Rel a m v u) (ha : a < 2 ^ 20) {i : Nat} (hi : i < 8) (hal : ¬ v 1 i = 0) {p : Nat} (hp : v 3 i = nI p) (hp2 : p < 8) (hwl : u (8 + i) 17 = (if v 18 i = 0 then 1 else 2)) : Rel (a + 1) m (rLinger v i 4 (nI p) (-1)) (cJoin u i 4 (nI p) (-1)) := by
  obtain ⟨⟨e2, e5, e6, e7, e8, e9, e10, e11, e12, e14, e17, e19⟩, hr, hd, hc⟩ := h.tr hi
  obtain ⟨c1, c2, c3, c4, c5⟩ := hc hal
  have hOB := OB_join (v' := rLinger v i 4 (nI p) (-1)) (u' := cJoin u i 4 (nI p) (-1)) h.or h.bd ha i (fun c j hj hc => by rcases hc with rfl | rfl | rfl <;> simp [rLinger, kup, hj]) (fun j hj => by simp [cJoin, cWait, kup, hj]) (by simp [rLinger, kup]) (by simp [cJoin, cWait, kup]) (by simp [rLinger, kup]) (by simp [cJoin, cWait, kup])
  refine h.at i hi h.ci.join h.ri.linger (fun c j hj h0 h4 h20 => by simp [rLinger, kup, hj, h0, h4]) (fun j k hj8 hj hk => by simp [rLinger, kup]) (by simp [rLinger, kup]) (by simp [rLinger, kup]) (Or.inl (by simp [rLinger, kup])) (fun j hj8 hj => by (try simp only [cJoin, cWait]); repeat rw [kup_ne _ _ _ (by omega)]) (fun j hj8 hj => by (try simp only [cJoin, cWait]); repeat rw [kup_ne _ _ _ (by omega)]) (by first | (simp [cJoin, cWait, kup]; done) | ((try simp only [cJoin, cWait]); repeat rw [kup_o (by omega)])) ?_ hOB.1 hOB.2 (by simp [rLinger, kup_ne]) (by simp [rLinger, kup_ne]) (by simp [rLinger, kup_ne]) (by simp [rLinger, kup_ne]) ?_ ?_ ?_ ?_ ?_ (Or.inr (by simp [rLinger, kup]; exact nI_pos' (by omega)))
  · refine ⟨by simp [rLinger, cJoin, cWait, kup, e2, e5, e6, e7, e8, e9, e10, e11, e12, e14, e17, e19], fun k hk => by simpa [rLinger, cJoin, cWait, kup] using hr k hk, by simp [rLinger, cJoin, cWait, kup, hal], fun _ => ⟨by simp [rLinger, cJoin, cWait, kup, c1], by simp [rLinger, cJoin, cWait, kup, c2], by simpa [rLinger, cJoin, cWait, kup] using c3, by intro _; simp [rLinger, cJoin, cWait, kup, hp, hwl]; exact fun e => nI_pos (n := p) (by omega) (by rw [e]; decide), by simp [rLinger, cJoin, cWait, kup]⟩⟩
  · (try simp only [cJoin, cWait]); repeat rw [kup_ne _ _ _ (by omega)]
  · (try simp only [cJoin, cWait]); repeat rw [kup_ne _ _ _ (by omega)]
  · (try simp only [cJoin, cWait]); repeat rw [kup_ne _ _ _ (by omega)]
  · (try simp only [cJoin, cWait]); repeat rw [kup_ne _ _ _ (by omega)]
  · intro f hf; rw [show (rLinger v i 4 (nI p) (-1)) 24 = v 24 by simp [rLinger, kup_ne], show (cJoin u i 4 (nI p) (-1)) 3 = u 3 by (try simp only [cJoin, cWait]); repeat rw [kup_ne _ _ _ (by omega)]]; exact h.wr f hf
theorem Rel.recvW (h : Rel a m v u) (ha : a < 2 ^ 20) {i : Nat} (hi : i < 8) (hal : ¬ v 1 i = 0) {on lim dl : Int32} (hdl : dl = (if 0 ≤ lim then v 0 0 + lim else -1)) (hd2 : dl = -1 ∨ v 0 0 < dl) (hon : on = -1 ∨ 0 ≤ on) : Rel (a + 1) m (rLinger v i 2 on lim) (cWait u i 2 on dl) := by
  obtain ⟨⟨e2, e5, e6, e7, e8, e9, e10, e11, e12, e14, e17, e19⟩, hr, hd, hc⟩ := h.tr hi
  obtain ⟨c1, c2, c3, c4, c5⟩ := hc hal
  have hOB := OB_keep (v' := rLinger v i 2 on lim) (u' := cWait u i 2 on dl) h.or h.bd ha i (fun c j hj hc => by rcases hc with rfl | rfl | rfl <;> simp [rLinger, kup, hj]) (fun j hj => by simp [cWait, kup, hj]) (fun hw => by simp [ws, rLinger, kup] at hw) (Or.inr (by simp [rLinger, kup])) (by simp [cWait, kup])
  refine h.at i hi h.ci.wait h.ri.linger (fun c j hj h0 h4 h20 => by simp [rLinger, kup, hj, h0, h4]) (fun j k hj8 hj hk => by simp [rLinger, kup]) (by simp [rLinger, kup]) (by simp [rLinger, kup]) (Or.inl (by simp [rLinger, kup])) (fun j hj8 hj => by (try simp only [cWait]); repeat rw [kup_ne _ _ _ (by omega)]) (fun j hj8 hj => by (try simp only [cWait]); repeat rw [kup_ne _ _ _ (by omega)]) (by first | (simp [cWait, kup]; done) | ((try simp only [cWait]); repeat rw [kup_o (by omega)])) ?_ hOB.1 hOB.2 (by simp [rLinger, kup_ne]) (by simp [rLinger, kup_ne]) (by simp [rLinger, kup_ne]) (by simp [rLinger, kup_ne]) ?_ ?_ ?_ ?_ ?_ (by simpa [rLinger, kup] using hon)
  · refine ⟨by simp [rLinger, cWait, kup, e2, e5, e6, e7, e8, e9, e10, e11, e12, e14, e17, e19], fun k hk => by simpa [rLinger, cWait, kup] using hr k hk, by simp [rLinger, cWait, kup, hal], fun _ => ⟨by simp [rLinger, cWait, kup, c1], by simp [rLinger, cWait, kup, c2], by simpa [rLinger, cWait, kup] using c3, by simp [rLinger, cWait, kup], by intro _; simp only [rLinger, cWait]; simp [kup, ← hdl]; exact hd2⟩⟩
  · (try simp only [cWait]); repeat rw [kup_ne _ _ _ (by omega)]
  · (try simp only [cWait]); repeat rw [kup_ne _ _ _ (by omega)]
  · (try simp only [cWait]); repeat rw [kup_ne _ _ _ (by omega)]
  · (try simp only [cWait]); repeat rw [kup_ne _ _ _ (by omega)]
  · intro f hf; rw [show (rLinger v i 2 on lim) 24 = v 24 by simp [rLinger, kup_ne], show (cWait u i 2 on dl) 3 = u 3 by (try simp only [cWait]); repeat rw [kup_ne _ _ _ (by omega)]]; exact h.wr f hf
theorem Rel.take (h : Rel a m v u) (ha : a < 2 ^ 20) {i : Nat} (hi : i < 8) (hal : ¬ v 1 i = 0) {s a1 a2 a3 a4 : Int32} : Rel (a + 1) m (rTake v i s a1 a2 a3 a4) (cTake u i s a1 a2 a3 a4) := by
  obtain ⟨⟨e2, e5, e6, e7, e8, e9, e10, e11, e12, e14, e17, e19⟩, hr, hd, hc⟩ := h.tr hi
  obtain ⟨c1, c2, c3, c4, c5⟩ := hc hal
  have hOB := OB_keep (v' := rTake v i s a1 a2 a3 a4) (u' := cTake u i s a1 a2 a3 a4) h.or h.bd ha i (fun c j hj hc => by rcases hc with rfl | rfl | rfl <;> simp [rTake, kup, hj]) (fun j hj => by simp [cTake, kup, hj]) (fun hw => by simp only [ws, rTake, cTake] at hw ⊢; simp [kup] at hw ⊢; exact hw) (Or.inl (by simp [rTake, kup])) (by simp [cTake, kup])
  refine h.at i hi h.ci.take h.ri.take (fun c j hj h0 h4 h20 => by simp [rTake, kup, hj, h0, h4]) (fun j k hj8 hj hk => by simp only [rTake]; rw [kup_o (by decide), kup_o (by decide), kup_j (by omega), kup_j (by omega), kup_j (by omega), kup_j (by omega)]) (by simp [rTake, kup]) (by simp [rTake, kup]) (Or.inl (by simp [rTake, kup])) (fun j hj8 hj => by (try simp only [cTake]); repeat rw [kup_ne _ _ _ (by omega)]) (fun j hj8 hj => by (try simp only [cTake]); repeat rw [kup_ne _ _ _ (by omega)]) (by first | (simp [cTake, kup]; done) | ((try simp only [cTake]); repeat rw [kup_o (by omega)])) ?_ hOB.1 hOB.2 (by simp [rTake, kup_ne]) (by simp [rTake, kup_ne]) (by simp [rTake, kup_ne]) (by simp [rTake, kup_ne]) ?_ ?_ ?_ ?_ ?_ (by simpa [rTake, kup] using h.xr i hi)
  · refine ⟨by simp [rTake, cTake, kup, e2, e5, e6, e7, e8, e9, e10, e11, e12, e14, e17, e19], fun k hk => by have := hr k hk; rcases (show k = 0 ∨ k = 1 ∨ k = 2 ∨ k = 3 by omega) with rfl | rfl | rfl | rfl <;> simp [rTake, cTake, kup], by simpa [rTake, cTake, kup] using hd, fun _ => ⟨by simp [rTake, cTake, kup, c1], by simp [rTake, cTake, kup, c2], by simpa [rTake, cTake, kup] using c3, by simpa [rTake, cTake, kup] using c4, by simpa [rTake, cTake, kup] using c5⟩⟩
  · (try simp only [cTake]); repeat rw [kup_ne _ _ _ (by omega)]
  · (try simp only [cTake]); repeat rw [kup_ne _ _ _ (by omega)]
  · (try simp only [cTake]); repeat rw [kup_ne _ _ _ (by omega)]
  · (try simp only [cTake]); repeat rw [kup_ne _ _ _ (by omega)]
  · intro f hf; rw [show (rTake v i s a1 a2 a3 a4) 24 = v 24 by simp [rTake, kup_ne], show (cTake u i s a1 a2 a3 a4) 3 = u 3 by (try simp only [cTake]); repeat rw [kup_ne _ _ _ (by omega)]]; exact h.wr f hf
theorem Rel.noOffer (h : Rel a m v u) (ha : a < 2 ^ 20) {i : Nat} (hi : i < 8) (hal : ¬ v 1 i = 0)  : Rel (a + 1) m (kup v 5 i (-1)) (kup u (8 + i) 5 (-1)) := by
  obtain ⟨⟨e2, e5, e6, e7, e8, e9, e10, e11, e12, e14, e17, e19⟩, hr, hd, hc⟩ := h.tr hi
  obtain ⟨c1, c2, c3, c4, c5⟩ := hc hal
  have hOB := OB_keep (v' := kup v 5 i (-1)) (u' := kup u (8 + i) 5 (-1)) h.or h.bd ha i (fun c j hj hc => by rcases hc with rfl | rfl | rfl <;> simp [id, kup, hj]) (fun j hj => by simp [id, kup, hj]) (fun hw => by simp only [ws] at hw ⊢; simp [kup] at hw ⊢; exact hw) (Or.inl (by simp [kup])) (by simp [id, kup])
  refine h.at i hi (h.ci.up cOk_off) (h.ri.up (rOk_5 (Or.inl rfl))) (fun c j hj h0 h4 h20 => by simp [id, kup, hj, h0, h4]) (fun j k hj8 hj hk => by simp [id, kup]) (by simp [id, kup]) (by simp [id, kup]) (Or.inl (by simp [id, kup])) (fun j hj8 hj => by (try simp only [id]); repeat rw [kup_ne _ _ _ (by omega)]) (fun j hj8 hj => by (try simp only [id]); repeat rw [kup_ne _ _ _ (by omega)]) (by first | (simp [id, kup]; done) | ((try simp only [id]); repeat rw [kup_o (by omega)])) ?_ hOB.1 hOB.2 (by simp [id, kup_ne]) (by simp [id, kup_ne]) (by simp [id, kup_ne]) (by simp [id, kup_ne]) ?_ ?_ ?_ ?_ ?_ (by simpa [id, kup] using h.xr i hi)
  · refine ⟨by simp [id, id, kup, e2, e5, e6, e7, e8, e9, e10, e11, e12, e14, e17, e19], fun k hk => by simpa [id, id, kup] using hr k hk, by simpa [kup] using hd, fun _ => ⟨by simp [id, id, kup, c1], by simp [id, id, kup, c2], by simp [kup], by simpa [kup] using c4, by simpa [kup] using c5⟩⟩
  · (try simp only [id]); repeat rw [kup_ne _ _ _ (by omega)]
  · (try simp only [id]); repeat rw [kup_ne _ _ _ (by omega)]
  · (try simp only [id]); repeat rw [kup_ne _ _ _ (by omega)]
  · (try simp only [id]); repeat rw [kup_ne _ _ _ (by omega)]
  · intro f hf; rw [show (kup v 5 i (-1)) 24 = v 24 by simp [id, kup_ne], show (kup u (8 + i) 5 (-1)) 3 = u 3 by (try simp only [id]); repeat rw [kup_ne _ _ _ (by omega)]]; exact h.wr f hf
theorem Rel.stuck (h : Rel a m v u) (ha : a < 2 ^ 20) {i : Nat} (hi : i < 8) (hal : ¬ v 1 i = 0)  : Rel (a + 1) m (kup v 13 i 6) (kup u (8 + i) 2 6) := by
  obtain ⟨⟨e2, e5, e6, e7, e8, e9, e10, e11, e12, e14, e17, e19⟩, hr, hd, hc⟩ := h.tr hi
  obtain ⟨c1, c2, c3, c4, c5⟩ := hc hal
  have hOB := OB_keep (v' := kup v 13 i 6) (u' := kup u (8 + i) 2 6) h.or h.bd ha i (fun c j hj hc => by rcases hc with rfl | rfl | rfl <;> simp [id, kup, hj]) (fun j hj => by simp [id, kup, hj]) (fun hw => by simp [ws, kup] at hw) (Or.inl (by simp [kup])) (by simp [id, kup])
  refine h.at i hi (h.ci.up (cOk_t (by decide))) (h.ri.up (rOk_any (by decide))) (fun c j hj h0 h4 h20 => by simp [id, kup, hj, h0, h4]) (fun j k hj8 hj hk => by simp [id, kup]) (by simp [id, kup]) (by simp [id, kup]) (Or.inl (by simp [id, kup])) (fun j hj8 hj => by (try simp only [id]); repeat rw [kup_ne _ _ _ (by omega)]) (fun j hj8 hj => by (try simp only [id]); repeat rw [kup_ne _ _ _ (by omega)]) (by first | (simp [id, kup]; done) | ((try simp only [id]); repeat rw [kup_o (by omega)])) ?_ hOB.1 hOB.2 (by simp [id, kup_ne]) (by simp [id, kup_ne]) (by simp [id, kup_ne]) (by simp [id, kup_ne]) ?_ ?_ ?_ ?_ ?_ (by simpa [id, kup] using h.xr i hi)
  · refine ⟨by simp [id, id, kup, e2, e5, e6, e7, e8, e9, e10, e11, e12, e14, e17, e19], fun k hk => by simpa [id, id, kup] using hr k hk, by simp [id, id, kup, hal], fun _ => ⟨by simp [id, id, kup, c1], by simp [id, id, kup, c2], by simpa [id, id, kup] using c3, by simp [id, id, kup], by simp [id, id, kup]⟩⟩
  · (try simp only [id]); repeat rw [kup_ne _ _ _ (by omega)]
  · (try simp only [id]); repeat rw [kup_ne _ _ _ (by omega)]
  · (try simp only [id]); repeat rw [kup_ne _ _ _ (by omega)]
  · (try simp only [id]); repeat rw [kup_ne _ _ _ (by omega)]
  · intro f hf; rw [show (kup v 13 i 6) 24 = v 24 by simp [id, kup_ne], show (kup u (8 + i) 2 6) 3 = u 3 by (try simp only [id]); repeat rw [kup_ne _ _ _ (by omega)]]; exact h.wr f hf
theorem Rel.rest (h : Rel a m v u) (ha : a < 2 ^ 20) {i : Nat} (hi : i < 8) (hal : ¬ v 1 i = 0) {p : Nat} (hp : v 3 i = nI p) (hp2 : p < 8) (hwl : u (8 + i) 17 = (if v 18 i = 0 then 1 else 2)) : Rel (a + 1) m (kup (kup v 13 i 5) 14 i (nI p)) (cWait u i 5 (nI p) (-1)) := by
  obtain ⟨⟨e2, e5, e6, e7, e8, e9, e10, e11, e12, e14, e17, e19⟩, hr, hd, hc⟩ := h.tr hi
  obtain ⟨c1, c2, c3, c4, c5⟩ := hc hal
  have hOB := OB_keep (v' := kup (kup v 13 i 5) 14 i (nI p)) (u' := cWait u i 5 (nI p) (-1)) h.or h.bd ha i (fun c j hj hc => by rcases hc with rfl | rfl | rfl <;> simp [id, kup, hj]) (fun j hj => by simp [cWait, kup, hj]) (fun hw => by simp [ws, kup] at hw) (Or.inl (by simp [kup])) (by simp [cWait, kup])
  refine h.at i hi h.ci.wait ((h.ri.up (rOk_any (by decide))).up (rOk_any (by decide))) (fun c j hj h0 h4 h20 => by simp [id, kup, hj, h0, h4]) (fun j k hj8 hj hk => by simp [id, kup]) (by simp [id, kup]) (by simp [id, kup]) (Or.inl (by simp [id, kup])) (fun j hj8 hj => by (try simp only [cWait]); repeat rw [kup_ne _ _ _ (by omega)]) (fun j hj8 hj => by (try simp only [cWait]); repeat rw [kup_ne _ _ _ (by omega)]) (by first | (simp [cWait, kup]; done) | ((try simp only [cWait]); repeat rw [kup_o (by omega)])) ?_ hOB.1 hOB.2 (by simp [id, kup_ne]) (by simp [id, kup_ne]) (by simp [id, kup_ne]) (by simp [id, kup_ne]) ?_ ?_ ?_ ?_ ?_ (Or.inr (by simp [rLinger, kup]; exact nI_pos' (by omega)))
  · refine ⟨by simp [id, cWait, kup, e2, e5, e6, e7, e8, e9, e10, e11, e12, e14, e17, e19], fun k hk => by simpa [id, cWait, kup] using hr k hk, by simp [id, cWait, kup, hal], fun _ => ⟨by simp [id, cWait, kup, c1], by simp [id, cWait, kup, c2], by simpa [id, cWait, kup] using c3, by intro _; simp [id, cWait, kup, hp, hwl]; exact fun e => nI_pos (n := p) (by omega) (by rw [e]; decide), by simp [id, cWait, kup]⟩⟩
  · (try simp only [cWait]); repeat rw [kup_ne _ _ _ (by omega)]
  · (try simp only [cWait]); repeat rw [kup_ne _ _ _ (by omega)]
  · (try simp only [cWait]); repeat rw [kup_ne _ _ _ (by omega)]
  · (try simp only [cWait]); repeat rw [kup_ne _ _ _ (by omega)]
  · intro f hf; rw [show (kup (kup v 13 i 5) 14 i (nI p)) 24 = v 24 by simp [id, kup_ne], show (cWait u i 5 (nI p) (-1)) 3 = u 3 by (try simp only [cWait]); repeat rw [kup_ne _ _ _ (by omega)]]; exact h.wr f hf
theorem Rel.want (h : Rel a m v u) (ha : a < 2 ^ 20) {i : Nat} (hi : i < 8) (hal : ¬ v 1 i = 0) {p s x : Int32} (hp : vp_in p 16) (h0 : v 13 i = 0) : Rel (a + 1) m (rWant v i p s x) (cWant u i p s x) := by
  obtain ⟨⟨e2, e5, e6, e7, e8, e9, e10, e11, e12, e14, e17, e19⟩, hr, hd, hc⟩ := h.tr hi
  obtain ⟨c1, c2, c3, c4, c5⟩ := hc hal
  have hOB := OB_keep (v' := rWant v i p s x) (u' := cWant u i p s x) h.or h.bd ha i (fun c j hj hc => by rcases hc with rfl | rfl | rfl <;> simp [rWant, kup, hj]) (fun j hj => by simp [cWant, kup, hj]) (fun hw => by simp only [ws, rWant, cWant] at hw ⊢; simp [kup] at hw ⊢; exact hw) (Or.inl (by simp [rWant, kup])) (by simp [cWant, kup])
  refine h.at i hi (h.ci.want hp) (h.ri.want hp) (fun c j hj h0 h4 h20 => by simp [rWant, kup, hj, h0, h4]) (fun j k hj8 hj hk => by simp [rWant, kup]) (by simp [rWant, kup]) (by simp [rWant, kup]) (Or.inl (by simp [rWant, kup])) (fun j hj8 hj => by (try simp only [cWant]); repeat rw [kup_ne _ _ _ (by omega)]) (fun j hj8 hj => by (try simp only [cWant]); repeat rw [kup_ne _ _ _ (by omega)]) (by first | (simp [cWant, kup]; done) | ((try simp only [cWant]); repeat rw [kup_o (by omega)])) ?_ hOB.1 hOB.2 (by simp [rWant, kup_ne]) (by simp [rWant, kup_ne]) (by simp [rWant, kup_ne]) (by simp [rWant, kup_ne]) ?_ ?_ ?_ ?_ ?_ (by simpa [rWant, kup] using h.xr i hi)
  · refine ⟨by simp [rWant, cWant, kup, e2, e5, e6, e7, e8, e9, e10, e11, e12, e14, e17, e19], fun k hk => by simpa [rWant, cWant, kup] using hr k hk, by simpa [rWant, cWant, kup] using hd, fun _ => ⟨by simp [rWant, cWant, kup, c1], by simp [rWant, cWant, kup, c2], by simpa [rWant, cWant, kup] using c3, by simp [rWant, cWant, kup, h0], by simp [rWant, cWant, kup, h0]⟩⟩
  · (try simp only [cWant]); repeat rw [kup_ne _ _ _ (by omega)]
  · (try simp only [cWant]); repeat rw [kup_ne _ _ _ (by omega)]
  · (try simp only [cWant]); repeat rw [kup_ne _ _ _ (by omega)]
  · (try simp only [cWant]); repeat rw [kup_ne _ _ _ (by omega)]
  · intro f hf; rw [show (rWant v i p s x) 24 = v 24 by simp [rWant, kup_ne], show (cWant u i p s x) 3 = u 3 by (try simp only [cWant]); repeat rw [kup_ne _ _ _ (by omega)]]; exact h.wr f hf
theorem Rel.value (h : Rel a m v u) (ha : a < 2 ^ 20) {i : Nat} (hi : i < 8) (hal : ¬ v 1 i = 0) {x : Int32} : Rel (a + 1) m (kup v 11 i x) (kup u (8 + i) 11 x) := by
  obtain ⟨⟨e2, e5, e6, e7, e8, e9, e10, e11, e12, e14, e17, e19⟩, hr, hd, hc⟩ := h.tr hi
  obtain ⟨c1, c2, c3, c4, c5⟩ := hc hal
  have hOB := OB_keep (v' := kup v 11 i x) (u' := kup u (8 + i) 11 x) h.or h.bd ha i (fun c j hj hc => by rcases hc with rfl | rfl | rfl <;> simp [id, kup, hj]) (fun j hj => by simp [id, kup, hj]) (fun hw => by simp only [ws] at hw ⊢; simp [kup] at hw ⊢; exact hw) (Or.inl (by simp [kup])) (by simp [id, kup])
  refine h.at i hi (h.ci.up (cOk_t (by decide))) (h.ri.up (rOk_any (by decide))) (fun c j hj h0 h4 h20 => by simp [id, kup, hj, h0, h4]) (fun j k hj8 hj hk => by simp [id, kup]) (by simp [id, kup]) (by simp [id, kup]) (Or.inl (by simp [id, kup])) (fun j hj8 hj => by (try simp only [id]); repeat rw [kup_ne _ _ _ (by omega)]) (fun j hj8 hj => by (try simp only [id]); repeat rw [kup_ne _ _ _ (by omega)]) (by first | (simp [id, kup]; done) | ((try simp only [id]); repeat rw [kup_o (by omega)])) ?_ hOB.1 hOB.2 (by simp [id, kup_ne]) (by simp [id, kup_ne]) (by simp [id, kup_ne]) (by simp [id, kup_ne]) ?_ ?_ ?_ ?_ ?_ (by simpa [id, kup] using h.xr i hi)
  · refine ⟨by simp [id, id, kup, e2, e5, e6, e7, e8, e9, e10, e11, e12, e14, e17, e19], fun k hk => by simpa [id, id, kup] using hr k hk, by simpa [kup] using hd, fun _ => ⟨by simp [id, id, kup, c1], by simp [id, id, kup, c2], by simpa [kup] using c3, by simpa [kup] using c4, by simpa [kup] using c5⟩⟩
  · (try simp only [id]); repeat rw [kup_ne _ _ _ (by omega)]
  · (try simp only [id]); repeat rw [kup_ne _ _ _ (by omega)]
  · (try simp only [id]); repeat rw [kup_ne _ _ _ (by omega)]
  · (try simp only [id]); repeat rw [kup_ne _ _ _ (by omega)]
  · intro f hf; rw [show (kup v 11 i x) 24 = v 24 by simp [id, kup_ne], show (kup u (8 + i) 11 x) 3 = u 3 by (try simp only [id]); repeat rw [kup_ne _ _ _ (by omega)]]; exact h.wr f hf
theorem Rel.gaveUp (h : Rel a m v u) (ha : a < 2 ^ 20) {i : Nat} (hi : i < 8) (hal : ¬ v 1 i = 0) (h0 : v 13 i = 0) : Rel (a + 1) m (kup v 9 i 1) (cRun u i 1) := by
  obtain ⟨⟨e2, e5, e6, e7, e8, e9, e10, e11, e12, e14, e17, e19⟩, hr, hd, hc⟩ := h.tr hi
  obtain ⟨c1, c2, c3, c4, c5⟩ := hc hal
  have hOB := OB_keep (v' := kup v 9 i 1) (u' := cRun u i 1) h.or h.bd ha i (fun c j hj hc => by rcases hc with rfl | rfl | rfl <;> simp [id, kup, hj]) (fun j hj => by simp [cRun, kup, hj]) (fun hw => by simp [ws, kup, h0] at hw) (Or.inl (by simp [kup])) (by simp [cRun, kup])
  refine h.at i hi h.ci.run (h.ri.up (rOk_any (by decide))) (fun c j hj h0 h4 h20 => by simp [id, kup, hj, h0, h4]) (fun j k hj8 hj hk => by simp [id, kup]) (by simp [id, kup]) (by simp [id, kup]) (Or.inl (by simp [id, kup])) (fun j hj8 hj => by (try simp only [cRun]); repeat rw [kup_ne _ _ _ (by omega)]) (fun j hj8 hj => by (try simp only [cRun]); repeat rw [kup_ne _ _ _ (by omega)]) (by first | (simp [cRun, kup]; done) | ((try simp only [cRun]); repeat rw [kup_o (by omega)])) ?_ hOB.1 hOB.2 (by simp [id, kup_ne]) (by simp [id, kup_ne]) (by simp [id, kup_ne]) (by simp [id, kup_ne]) ?_ ?_ ?_ ?_ ?_ (by simpa [id, kup] using h.xr i hi)
  · refine ⟨by simp [id, cRun, kup, e2, e5, e6, e7, e8, e9, e10, e11, e12, e14, e17, e19], fun k hk => by simpa [id, cRun, kup] using hr k hk, by simp [id, cRun, kup, hal], fun _ => ⟨by simp [cRun, kup, h0], by simp [id, cRun, kup, c2], by simpa [id, cRun, kup] using c3, by simp [kup, h0], by simp [kup, h0]⟩⟩
  · (try simp only [cRun]); repeat rw [kup_ne _ _ _ (by omega)]
  · (try simp only [cRun]); repeat rw [kup_ne _ _ _ (by omega)]
  · (try simp only [cRun]); repeat rw [kup_ne _ _ _ (by omega)]
  · (try simp only [cRun]); repeat rw [kup_ne _ _ _ (by omega)]
  · intro f hf; rw [show (kup v 9 i 1) 24 = v 24 by simp [id, kup_ne], show (cRun u i 1) 3 = u 3 by (try simp only [cRun]); repeat rw [kup_ne _ _ _ (by omega)]]; exact h.wr f hf
theorem Rel.window (h : Rel a m v u) (ha : a < 2 ^ 20) {i : Nat} (hi : i < 8) (hal : ¬ v 1 i = 0) {p : Int32} (hp : p = -1 ∨ vp_in p 16) : Rel (a + 1) m (kup v 8 i p) (kup u (8 + i) 8 p) := by
  obtain ⟨⟨e2, e5, e6, e7, e8, e9, e10, e11, e12, e14, e17, e19⟩, hr, hd, hc⟩ := h.tr hi
  obtain ⟨c1, c2, c3, c4, c5⟩ := hc hal
  have hOB := OB_keep (v' := kup v 8 i p) (u' := kup u (8 + i) 8 p) h.or h.bd ha i (fun c j hj hc => by rcases hc with rfl | rfl | rfl <;> simp [id, kup, hj]) (fun j hj => by simp [id, kup, hj]) (fun hw => by simp only [ws] at hw ⊢; simp [kup] at hw ⊢; exact hw) (Or.inl (by simp [kup])) (by simp [id, kup])
  refine h.at i hi (h.ci.up (cOk_win hp)) (h.ri.up (rOk_8 hp)) (fun c j hj h0 h4 h20 => by simp [id, kup, hj, h0, h4]) (fun j k hj8 hj hk => by simp [id, kup]) (by simp [id, kup]) (by simp [id, kup]) (Or.inl (by simp [id, kup])) (fun j hj8 hj => by (try simp only [id]); repeat rw [kup_ne _ _ _ (by omega)]) (fun j hj8 hj => by (try simp only [id]); repeat rw [kup_ne _ _ _ (by omega)]) (by first | (simp [id, kup]; done) | ((try simp only [id]); repeat rw [kup_o (by omega)])) ?_ hOB.1 hOB.2 (by simp [id, kup_ne]) (by simp [id, kup_ne]) (by simp [id, kup_ne]) (by simp [id, kup_ne]) ?_ ?_ ?_ ?_ ?_ (by simpa [id, kup] using h.xr i hi)
  · refine ⟨by simp [id, id, kup, e2, e5, e6, e7, e8, e9, e10, e11, e12, e14, e17, e19], fun k hk => by simpa [id, id, kup] using hr k hk, by simpa [kup] using hd, fun _ => ⟨by simp [id, id, kup, c1], by simp [id, id, kup, c2], by simpa [kup] using c3, by simpa [kup] using c4, by simpa [kup] using c5⟩⟩
  · (try simp only [id]); repeat rw [kup_ne _ _ _ (by omega)]
  · (try simp only [id]); repeat rw [kup_ne _ _ _ (by omega)]
  · (try simp only [id]); repeat rw [kup_ne _ _ _ (by omega)]
  · (try simp only [id]); repeat rw [kup_ne _ _ _ (by omega)]
  · intro f hf; rw [show (kup v 8 i p) 24 = v 24 by simp [id, kup_ne], show (kup u (8 + i) 8 p) 3 = u 3 by (try simp only [id]); repeat rw [kup_ne _ _ _ (by omega)]]; exact h.wr f hf
theorem Rel.offerS (h : Rel a m v u) (ha : a < 2 ^ 20) {i : Nat} (hi : i < 8) (hal : ¬ v 1 i = 0) {p l g : Int32} (hp : p = -1 ∨ vp_in p 16) (hl : p = -1 ∨ l = 1 ∨ l = 2) : Rel (a + 1) m (kup (kup (kup v 5 i p) 6 i l) 7 i g) (kup (kup (kup u (8 + i) 5 p) (8 + i) 6 l) (8 + i) 7 g) := by
  obtain ⟨⟨e2, e5, e6, e7, e8, e9, e10, e11, e12, e14, e17, e19⟩, hr, hd, hc⟩ := h.tr hi
  obtain ⟨c1, c2, c3, c4, c5⟩ := hc hal
  have hOB := OB_keep (v' := kup (kup (kup v 5 i p) 6 i l) 7 i g) (u' := kup (kup (kup u (8 + i) 5 p) (8 + i) 6 l) (8 + i) 7 g) h.or h.bd ha i (fun c j hj hc => by rcases hc with rfl | rfl | rfl <;> simp [id, kup, hj]) (fun j hj => by simp [id, kup, hj]) (fun hw => by simp only [ws] at hw ⊢; simp [kup] at hw ⊢; exact hw) (Or.inl (by simp [kup])) (by simp [id, kup])
  refine h.at i hi (((h.ci.up (cOk_offr hp)).up (cOk_t (by decide))).up (cOk_t (by decide))) (((h.ri.up (rOk_5 hp)).up (rOk_any (by decide))).up (rOk_any (by decide))) (fun c j hj h0 h4 h20 => by simp [id, kup, hj, h0, h4]) (fun j k hj8 hj hk => by simp [id, kup]) (by simp [id, kup]) (by simp [id, kup]) (Or.inl (by simp [id, kup])) (fun j hj8 hj => by (try simp only [id]); repeat rw [kup_ne _ _ _ (by omega)]) (fun j hj8 hj => by (try simp only [id]); repeat rw [kup_ne _ _ _ (by omega)]) (by first | (simp [id, kup]; done) | ((try simp only [id]); repeat rw [kup_o (by omega)])) ?_ hOB.1 hOB.2 (by simp [id, kup_ne]) (by simp [id, kup_ne]) (by simp [id, kup_ne]) (by simp [id, kup_ne]) ?_ ?_ ?_ ?_ ?_ (by simpa [id, kup] using h.xr i hi)
  · refine ⟨by simp [id, id, kup, e2, e5, e6, e7, e8, e9, e10, e11, e12, e14, e17, e19], fun k hk => by simpa [id, id, kup] using hr k hk, by simpa [kup] using hd, fun _ => ⟨by simp [id, id, kup, c1], by simp [id, id, kup, c2], by simpa [kup] using hl, by simpa [kup] using c4, by simpa [kup] using c5⟩⟩
  · (try simp only [id]); repeat rw [kup_ne _ _ _ (by omega)]
  · (try simp only [id]); repeat rw [kup_ne _ _ _ (by omega)]
  · (try simp only [id]); repeat rw [kup_ne _ _ _ (by omega)]
  · (try simp only [id]); repeat rw [kup_ne _ _ _ (by omega)]
  · intro f hf; rw [show (kup (kup (kup v 5 i p) 6 i l) 7 i g) 24 = v 24 by simp [id, kup_ne], show (kup (kup (kup u (8 + i) 5 p) (8 + i) 6 l) (8 + i) 7 g) 3 = u 3 by (try simp only [id]); repeat rw [kup_ne _ _ _ (by omega)]]; exact h.wr f hf
theorem Rel.reg (h : Rel a m v u) (ha : a < 2 ^ 20) {i : Nat} (hi : i < 8) (hal : ¬ v 1 i = 0) {k : Nat} {x : Int32} (hk4 : k < 4) : Rel (a + 1) m (kup v 4 (4 * i + k) x) (kup u (16 + i) k x) := by
  obtain ⟨⟨e2, e5, e6, e7, e8, e9, e10, e11, e12, e14, e17, e19⟩, hr, hd, hc⟩ := h.tr hi
  obtain ⟨c1, c2, c3, c4, c5⟩ := hc hal
  have hOB := OB_keep (v' := kup v 4 (4 * i + k) x) (u' := kup u (16 + i) k x) h.or h.bd ha i (fun c j hj hc => by rcases hc with rfl | rfl | rfl <;> simp [kup]) (fun j hj => by rw [kup_j (by omega)]) (fun hw => by simp only [ws] at hw ⊢; rw [kup_j (show 15 ≠ k by omega)]; simp [kup] at hw ⊢; exact hw) (Or.inl (by simp [kup])) (by rw [kup_o (by omega)])
  refine h.at i hi (h.ci.up cOk_r) (h.ri.up (rOk_any (by decide))) (fun c j hj h0 h4 h20 => by simp [id, kup, hj, h0, h4]) (fun j k hj8 hj hk => by rw [kup_j (by omega)]) (by simp [id, kup]) (by simp [id, kup]) (Or.inl (by simp [id, kup])) (fun j hj8 hj => by (try simp only [id]); repeat rw [kup_ne _ _ _ (by omega)]) (fun j hj8 hj => by rw [kup_ne _ _ _ (by omega)]) (by first | (simp [id, kup]; done) | ((try simp only [id]); repeat rw [kup_o (by omega)])) ?_ hOB.1 hOB.2 (by simp [id, kup_ne]) (by simp [id, kup_ne]) (by simp [id, kup_ne]) (by simp [id, kup_ne]) ?_ ?_ ?_ ?_ ?_ (by simpa [id, kup] using h.xr i hi)
  · refine ⟨?_, fun j hj => ?_, ?_, fun _ => ⟨?_, ?_, ?_, ?_, ?_⟩⟩
    · rw [kup_ne u _ _ (show 8 + i ≠ 16 + i by omega)]; simp [kup, e2, e5, e6, e7, e8, e9, e10, e11, e12, e14, e17, e19]
    · by_cases hjk : j = k
      · subst hjk; rw [kup_eq, kup_eq]
      · rw [kup_j (by omega), kup_j hjk]; exact hr j hj
    · rw [kup_ne u _ _ (show 8 + i ≠ 16 + i by omega)]; simpa [kup] using hd
    · rw [kup_ne u _ _ (show 8 + i ≠ 16 + i by omega)]; simpa [kup] using c1
    · rw [kup_ne u _ _ (show 8 + i ≠ 16 + i by omega)]; simpa [kup] using c2
    · simpa [kup] using c3
    · rw [kup_ne u _ _ (show 8 + i ≠ 16 + i by omega)]; simpa [kup] using c4
    · rw [kup_ne u _ _ (show 8 + i ≠ 16 + i by omega)]; simpa [kup] using c5
  · (try simp only [id]); repeat rw [kup_ne _ _ _ (by omega)]
  · (try simp only [id]); repeat rw [kup_ne _ _ _ (by omega)]
  · (try simp only [id]); repeat rw [kup_ne _ _ _ (by omega)]
  · (try simp only [id]); repeat rw [kup_ne _ _ _ (by omega)]
  · intro f hf; rw [show (kup v 4 (4 * i + k) x) 24 = v 24 by simp [id, kup_ne], show (kup u (16 + i) k x) 3 = u 3 by (try simp only [id]); repeat rw [kup_ne _ _ _ (by omega)]]; exact h.wr f hf
theorem cOk_pg {i : Nat} : cOk (8 + i) 4 (-1) :=
  ⟨fun _ _ => ⟨fun e => by omega, fun e => by omega, fun _ => Or.inl rfl, fun e => by omega, fun e => by omega, fun e => by omega⟩, fun e => by omega, fun e => by omega, fun e => by omega⟩
theorem Rel.pagerOff (h : Rel a m v u) (ha : a < 2 ^ 20) {i : Nat} (hi : i < 8) (hal : ¬ v 1 i = 0) : Rel (a + 1) m (kup (kup v 3 i (-1)) 13 i (if v 13 i = 4 then 6 else if v 13 i = 5 then 6 else v 13 i)) (if u (8 + i) 2 = 4 ∨ u (8 + i) 2 = 5 then kup (kup u (8 + i) 4 (-1)) (8 + i) 2 6 else kup u (8 + i) 4 (-1)) := by
  obtain ⟨⟨e2, e5, e6, e7, e8, e9, e10, e11, e12, e14, e17, e19⟩, hr, hd, hc⟩ := h.tr hi
  obtain ⟨c1, c2, c3, c4, c5⟩ := hc hal
  have hri : rInv (kup (kup v 3 i (-1)) 13 i (if v 13 i = 4 then 6 else if v 13 i = 5 then 6 else v 13 i)) := (h.ri.up (rOk_3 (Or.inl rfl))).up (rOk_any (by decide))
  rw [← c1]
  by_cases h45 : v 13 i = 4 ∨ v 13 i = 5
  · have ev : (kup (kup v 3 i (-1)) 13 i (if v 13 i = 4 then 6 else if v 13 i = 5 then 6 else v 13 i)) = kup (kup v 3 i (-1)) 13 i 6 := by rcases h45 with e | e <;> simp [e]
    rw [if_pos h45]
    rw [ev] at hri ⊢
    have hOB := OB_keep (v' := kup (kup v 3 i (-1)) 13 i 6) (u' := kup (kup u (8 + i) 4 (-1)) (8 + i) 2 6) h.or h.bd ha i (fun c j hj hc => by rcases hc with rfl | rfl | rfl <;> simp [kup, hj]) (fun j hj => by simp [kup, hj]) (fun hw => by simp [ws, kup] at hw) (Or.inl (by simp [kup])) (by repeat rw [kup_o (by omega)])
    refine h.at i hi ((h.ci.up cOk_pg).up (cOk_t (by decide))) hri (fun c j hj h0 h4 h20 => by simp [kup, hj]) (fun j k hj8 hj hk => by simp [kup]) (by simp [kup]) (by simp [kup]) (Or.inr (by simp [kup])) (fun j hj8 hj => by repeat rw [kup_ne _ _ _ (by omega)]) (fun j hj8 hj => by repeat rw [kup_ne _ _ _ (by omega)]) (by simp [kup]) ?_ hOB.1 hOB.2 (by simp [kup_ne]) (by simp [kup_ne]) (by simp [kup_ne]) (by simp [kup_ne]) (by repeat rw [kup_ne _ _ _ (by omega)]) (by repeat rw [kup_ne _ _ _ (by omega)]) (by repeat rw [kup_ne _ _ _ (by omega)]) (by repeat rw [kup_ne _ _ _ (by omega)]) (fun f hf => by rw [kup_ne _ _ _ (by omega), kup_ne _ _ _ (by omega), kup_ne _ _ _ (by omega), kup_ne _ _ _ (by omega)]; exact h.wr f hf) (by simpa [kup] using h.xr i hi)
    exact ⟨by simp [kup, e2, e5, e6, e7, e8, e9, e10, e11, e12, e14, e17, e19], fun k hk => by simpa [kup] using hr k hk, by simp [kup, hal], fun _ => ⟨by simp [kup], by simp [kup], by simpa [kup] using c3, by simp [kup], by simp [kup]⟩⟩
  · have h4 : ¬ v 13 i = 4 := fun e => h45 (Or.inl e)
    have h5 : ¬ v 13 i = 5 := fun e => h45 (Or.inr e)
    have ev : (kup (kup v 3 i (-1)) 13 i (if v 13 i = 4 then 6 else if v 13 i = 5 then 6 else v 13 i)) = kup v 3 i (-1) := by
      rw [if_neg h4, if_neg h5]
      funext c j
      by_cases hh : c = 13 ∧ j = i
      · obtain ⟨rfl, rfl⟩ := hh
        simp [kup]
      · simp [kup, hh]
    rw [if_neg h45]
    rw [ev] at hri ⊢
    have hOB := OB_keep (v' := kup v 3 i (-1)) (u' := kup u (8 + i) 4 (-1)) h.or h.bd ha i (fun c j hj hc => by rcases hc with rfl | rfl | rfl <;> simp [kup]) (fun j hj => by simp [kup]) (fun hw => by simp only [ws] at hw ⊢; simp [kup] at hw ⊢; exact hw) (Or.inl (by simp [kup])) (by repeat rw [kup_o (by omega)])
    refine h.at i hi (h.ci.up cOk_pg) hri (fun c j hj h0 h4 h20 => by simp [kup, hj]) (fun j k hj8 hj hk => by simp [kup]) (by simp [kup]) (by simp [kup]) (Or.inr (by simp [kup])) (fun j hj8 hj => by repeat rw [kup_ne _ _ _ (by omega)]) (fun j hj8 hj => by repeat rw [kup_ne _ _ _ (by omega)]) (by simp [kup]) ?_ hOB.1 hOB.2 (by simp [kup_ne]) (by simp [kup_ne]) (by simp [kup_ne]) (by simp [kup_ne]) (by repeat rw [kup_ne _ _ _ (by omega)]) (by repeat rw [kup_ne _ _ _ (by omega)]) (by repeat rw [kup_ne _ _ _ (by omega)]) (by repeat rw [kup_ne _ _ _ (by omega)]) (fun f hf => by rw [kup_ne _ _ _ (by omega), kup_ne _ _ _ (by omega)]; exact h.wr f hf) (by simpa [kup] using h.xr i hi)
    exact ⟨by simp [kup, e2, e5, e6, e7, e8, e9, e10, e11, e12, e14, e17, e19], fun k hk => by simpa [kup] using hr k hk, by simpa [kup] using hd, fun _ => ⟨by simpa [kup] using c1, by simp [kup], by simpa [kup] using c3, by simp [kup, h4, h5], by simpa [kup] using c5⟩⟩
/-- what a row without a thread holds as its pager is free -/
theorem Rel.deadPager (h : Rel a m v u) {i : Nat} (hi : i < 8) (hal : v 1 i = 0) : Rel a m v (kup u (8 + i) 4 (-1)) := by
  refine ⟨h.ci.up cOk_pg, h.ri, fun j hj => ?_, h.pr, ?_, ?_, ?_, ?_, ?_, h.xr⟩
  · have hT := h.tr hj
    unfold TR at hT ⊢
    rw [kup_ne u _ _ (show 16 + j ≠ 8 + i by omega)]
    by_cases hji : j = i
    · subst hji
      refine ⟨by simpa [kup] using hT.1, hT.2.1, by simpa [kup] using hT.2.2.1, fun e => absurd hal e⟩
    · rw [kup_ne u _ _ (show 8 + j ≠ 8 + i by omega)]
      exact hT
  · intro j k hj hk w1 w2
    rw [kup_j (by decide), kup_j (by decide)]
    exact h.or j k hj hk w1 w2
  · obtain ⟨b1, b2, b3⟩ := h.bd
    refine ⟨by rw [kup_o (by omega)]; exact b1, b2, fun j hj w => ?_⟩
    rw [kup_j (by decide), kup_o (by omega)]
    exact b3 j hj w
  · rw [kup_ne _ _ _ (by omega), kup_ne _ _ _ (by omega), kup_ne _ _ _ (by omega), kup_ne _ _ _ (by omega)]
    exact h.mr
  · intro f hf
    rw [kup_o (by omega)]
    exact h.wr f hf
  · obtain ⟨k, h1, h2, h3⟩ := h.nr
    exact ⟨k, h1, h2, by rw [kup_o (by omega)]; exact h3⟩
/-- a thread ends, whose pager-ship has ended -/
theorem Rel.kill (h : Rel a m v u) (ha : a < 2 ^ 20) {t : Nat} (ht : t < 8) (hpg : ∀ i, i < 8 → ¬ v 1 i = 0 → ¬ i = t → ¬ v 3 i = nI t) : Rel (a + 1) m (kup v 1 t 0) (kup u (8 + t) 2 (-1)) := by
  have hOB := OB_keep (v' := kup v 1 t 0) (u' := kup u (8 + t) 2 (-1)) h.or h.bd ha t (fun c j hj hc => by rcases hc with rfl | rfl | rfl <;> simp [kup, hj]) (fun j hj => by simp [kup]) (fun hw => by simp [ws, kup] at hw) (Or.inl (by simp [kup])) (by simp [kup])
  refine ⟨h.ci.up (cOk_t (by decide)), h.ri.up (rOk_any (by decide)), fun j hj => ?_, fun j hj => ?_, hOB.1, hOB.2, ?_, ?_, ?_, ?_⟩
  · have hT := h.tr hj
    unfold TR at hT ⊢
    rw [kup_ne u _ _ (show 16 + j ≠ 8 + t by omega)]
    by_cases hji : j = t
    · subst hji
      exact ⟨by simpa [kup] using hT.1, by simpa [kup] using hT.2.1, by simp [kup], fun e => by simp [kup] at e⟩
    · rw [kup_ne u _ _ (show 8 + j ≠ 8 + t by omega)]
      simpa [kup, hji] using hT
  · by_cases hji : j = t
    · subst hji
      intro e
      simp [kup] at e
    · intro e
      rw [kup_j hji] at e
      rw [kup_o (by decide)]
      rcases h.pr j hj e with h1 | ⟨h1, h2, h3⟩
      · exact Or.inl h1
      · refine Or.inr ⟨h1, ?_, h3⟩
        rw [kup_j (fun e9 => hpg j hj e hji (by rw [vin_eq h1, e9]))]
        exact h2
  · rw [kup_ne _ _ _ (by omega), kup_ne _ _ _ (by omega), kup_ne _ _ _ (by omega), kup_ne _ _ _ (by omega), kup_ne _ _ _ (by omega), kup_ne _ _ _ (by omega), kup_ne _ _ _ (by omega), kup_ne _ _ _ (by omega)]
    exact h.mr
  · intro f hf
    rw [kup_o (by omega), kup_o (by omega)]
    exact h.wr f hf
  · obtain ⟨k, h1, h2, h3⟩ := h.nr
    exact ⟨k, h1, by rw [kup_o (by omega)]; exact h2, by rw [kup_o (by omega)]; exact h3⟩
  · intro j hj
    rw [kup_o (by decide)]
    exact h.xr j hj
end KPM
