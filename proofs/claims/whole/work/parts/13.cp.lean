section KCP
set_option maxRecDepth 4000 in
theorem c_P_holds {l : Launch} {D : va_G} {cI cB cT : ClassId} {ad : Nat → Nat} {d : Nat} {u : kSt} {k : Nat} (hk : k < 96) : KSp (kWl lyC l D cI cB cT ad) y_P_holds m_P_holds d [.ref 2, .int (nI k)] u (some (.int (bI (cHolds u k)))) u := by
  refine KSp.of (by decide) rfl (Nat.le_of_ble_eq_true rfl) rfl ?_
  show KAt (kWl lyC l D cI cB cT ad) m_P_holds d 0 [some (.ref 2), some (.int (nI k))] [] u (some (.int (bI (cHolds u k)))) u
  refine k_aload_n d_P_holds_0 rfl ?_
  refine k_getr (t := 4) d_P_holds_1 f_P_9 (by decide) rfl (by decide) (by decide) rfl ?_
  refine k_iload_n d_P_holds_4 rfl ?_
  refine k_ialdN (n := 96) d_P_holds_5 (by decide) rfl rfl (by first | assumption | omega) (by decide) ?_
  refine k_if_eq d_P_holds_6 (fun h6 => ?_) (fun h6 => ?_)
  · refine k_iconst (v := 0) d_P_holds_13 (by decide) ?_
    exact k_zret d_P_holds_14 rfl (by first | rfl | exact nb_bI _) (by first | rfl | (simp [cHolds, bI] <;> done) | (simp [cHolds, bI, *] <;> done)) (by first | rfl | (simp [cHolds, bI] <;> done) | (simp [cHolds, bI, *] <;> done))
  · refine k_iconst (v := 1) d_P_holds_9 (by decide) ?_
    refine k_goto d_P_holds_10 ?_
    exact k_zret d_P_holds_14 rfl (by first | rfl | exact nb_bI _) (by first | rfl | (simp [cHolds, bI] <;> done) | (simp [cHolds, bI, *] <;> done)) (by first | rfl | (simp [cHolds, bI] <;> done) | (simp [cHolds, bI, *] <;> done))

set_option maxRecDepth 4000 in
theorem c_P_describe {l : Launch} {D : va_G} {cI cB cT : ClassId} {ad : Nat → Nat} {d : Nat} {u : kSt} {k : Nat} (hk : k < 96) : KSp (kWl lyC l D cI cB cT ad) y_P_describe m_P_describe (d + 1) [.ref 2, .int (nI k)] u (some (.int (cDescribe u k))) u := by
  refine KSp.of (by decide) rfl (Nat.le_of_ble_eq_true rfl) rfl ?_
  show KAt (kWl lyC l D cI cB cT ad) m_P_describe (d + 1) 0 [some (.ref 2), some (.int (nI k))] [] u (some (.int (cDescribe u k))) u
  refine k_aload_n d_P_describe_0 rfl ?_
  refine k_iload_n d_P_describe_1 rfl ?_
  refine k_virt1s d_P_describe_2 l_P_24 g_P_holds (c_P_holds hk) rcvP (Nat.le_of_ble_eq_true rfl) ?_
  refine k_if_eqB d_P_describe_5 (fun h5 => ?_) (fun h5 => ?_)
  · refine k_iconst (v := (-1)) d_P_describe_38 (by decide) ?_
    exact k_iret d_P_describe_39 rfl (by first | rfl | (simp [cDescribe] <;> done) | (simp [cDescribe, *] <;> done)) (by first | rfl | (simp [cDescribe] <;> done) | (simp [cDescribe, *] <;> done))
  · refine k_sipush (v := 1000) d_P_describe_8 (by decide) ?_
    refine k_aload_n d_P_describe_11 rfl ?_
    refine k_getr (t := 6) d_P_describe_12 f_P_18 (by decide) rfl (by decide) (by decide) rfl ?_
    refine k_iload_n d_P_describe_15 rfl ?_
    refine k_ialdN (n := 96) d_P_describe_16 (by decide) rfl rfl (by first | assumption | omega) (by decide) ?_
    refine k_imul d_P_describe_17 ?_
    refine k_bipush (v := 10) d_P_describe_18 (by decide) ?_
    refine k_aload_n d_P_describe_20 rfl ?_
    refine k_getr (t := 5) d_P_describe_21 f_P_15 (by decide) rfl (by decide) (by decide) rfl ?_
    refine k_iload_n d_P_describe_24 rfl ?_
    refine k_ialdN (n := 96) d_P_describe_25 (by decide) rfl rfl (by first | assumption | omega) (by decide) ?_
    refine k_imul d_P_describe_26 ?_
    refine k_iadd d_P_describe_27 ?_
    refine k_aload_n d_P_describe_28 rfl ?_
    refine k_getr (t := 4) d_P_describe_29 f_P_9 (by decide) rfl (by decide) (by decide) rfl ?_
    refine k_iload_n d_P_describe_32 rfl ?_
    refine k_ialdN (n := 96) d_P_describe_33 (by decide) rfl rfl (by first | assumption | omega) (by decide) ?_
    refine k_iadd d_P_describe_34 ?_
    refine k_goto d_P_describe_35 ?_
    exact k_iret d_P_describe_39 rfl (by first | rfl | (simp [cDescribe] <;> done) | (simp [cDescribe, *] <;> done)) (by first | rfl | (simp [cDescribe] <;> done) | (simp [cDescribe, *] <;> done))

theorem c_P_descends_loop {l : Launch} {D : va_G} {cI cB cT : ClassId} {ad : Nat → Nat} {d : Nat} {u : kSt} {k : Nat} {z : Int32} (hp : cPar u) : ∀ (n : Nat) (a : Int32), n < 100 → (a = -1 ∨ ∃ p, p < 96 ∧ a = nI p) → KAt (kWl lyC l D cI cB cT ad) m_P_descends d 10 [some (.ref 2), some (.int (nI k)), some (.int z), some (.int a), some (.int (nI n))] [] u (some (.int (bI (cUp u z n a)))) u := by
  intro n
  induction n with
  | zero =>
    intro a hn ha
    refine k_iload d_P_descends_10 rfl ?_
    refine k_if_le d_P_descends_12 (fun h12 => ?_) (fun h12 => absurd h12 (fun z => z (by decide)))
    refine k_iconst (v := 0) d_P_descends_40 (by decide) ?_
    exact k_zret d_P_descends_41 rfl (by first | rfl | exact nb_bI _) (by first | rfl | (simp [cUp, bI] <;> done) | (simp [cUp, bI, *] <;> done)) (by first | rfl | (simp [cUp, bI] <;> done) | (simp [cUp, bI, *] <;> done))
  | succ n ih =>
    intro a hn ha
    rcases ha with rfl | ⟨p, hq, rfl⟩
    · have h0 := nI_nle (n := n + 1) (by omega) (by omega)
      refine k_iload d_P_descends_10 rfl ?_
      refine k_if_le d_P_descends_12 (fun h12 => absurd h12 h0) (fun h12 => ?_)
      refine k_iload_n d_P_descends_15 rfl ?_
      refine k_iconst (v := (-1)) d_P_descends_16 (by decide) ?_
      refine k_icmp_eq d_P_descends_17 (fun h17 => ?_) (fun h17 => absurd h17 (fun z => z rfl))
      refine k_iconst (v := 0) d_P_descends_40 (by decide) ?_
      exact k_zret d_P_descends_41 rfl (by first | rfl | exact nb_bI _) (by first | rfl | (simp [cUp, bI] <;> done) | (simp [cUp, bI, *] <;> done)) (by first | rfl | (simp [cUp, bI] <;> done) | (simp [cUp, bI, *] <;> done))
    · have h0 := nI_nle (n := n + 1) (by omega) (by omega)
      have h1 : ¬ nI p = -1 := fun e => nI_pos (n := p) (by omega) (by rw [e]; decide)
      have h2 := ix_nI (n := p) (by omega)
      refine k_iload d_P_descends_10 rfl ?_
      refine k_if_le d_P_descends_12 (fun h12 => absurd h12 h0) (fun h12 => ?_)
      refine k_iload_n d_P_descends_15 rfl ?_
      refine k_iconst (v := (-1)) d_P_descends_16 (by decide) ?_
      refine k_icmp_eq d_P_descends_17 (fun h17 => absurd h17 h1) (fun h17 => ?_)
      refine k_aload_n d_P_descends_20 rfl ?_
      refine k_getr (t := 7) d_P_descends_21 f_P_21 (by decide) rfl (by decide) (by decide) rfl ?_
      refine k_iload_n d_P_descends_24 rfl ?_
      refine k_ialdN (n := 96) d_P_descends_25 (by decide) rfl rfl (by first | assumption | omega) (by decide) ?_
      refine k_istore_n d_P_descends_26 (by decide) ?_
      refine k_iload_n d_P_descends_27 rfl ?_
      refine k_iload_n d_P_descends_28 rfl ?_
      refine k_icmp_ne d_P_descends_29 (fun h29 => ?_) (fun h29 => ?_)
      · refine k_decN d_P_descends_34 rfl (by decide) ?_
        refine k_goto d_P_descends_37 ?_
        exact (ih _ (by omega) (hp p hq)).to (by simp [cUp, *]) rfl
      · refine k_iconst (v := 1) d_P_descends_32 (by decide) ?_
        exact k_zret d_P_descends_33 rfl (by first | rfl | exact nb_bI _) (by first | rfl | (simp [cUp, bI] <;> done) | (simp [cUp, bI, *] <;> done)) (by first | rfl | (simp [cUp, bI] <;> done) | (simp [cUp, bI, *] <;> done))

set_option maxRecDepth 4000 in
theorem c_P_descends {l : Launch} {D : va_G} {cI cB cT : ClassId} {ad : Nat → Nat} {d : Nat} {u : kSt} {k : Nat} {z : Int32} (hk : k < 96) (hp : cPar u) (hd : cDep u) : KSp (kWl lyC l D cI cB cT ad) y_P_descends m_P_descends d [.ref 2, .int (nI k), .int z] u (some (.int (bI (cDesc u k z)))) u := by
  refine KSp.of (by decide) rfl (Nat.le_of_ble_eq_true rfl) rfl ?_
  show KAt (kWl lyC l D cI cB cT ad) m_P_descends d 0 [some (.ref 2), some (.int (nI k)), some (.int z), none, none] [] u (some (.int (bI (cDesc u k z)))) u
  refine k_iload_n d_P_descends_0 rfl ?_
  refine k_istore_n d_P_descends_1 (by decide) ?_
  refine k_aload_n d_P_descends_2 rfl ?_
  refine k_getr (t := 6) d_P_descends_3 f_P_18 (by decide) rfl (by decide) (by decide) rfl ?_
  refine k_iload_n d_P_descends_6 rfl ?_
  refine k_ialdN (n := 96) d_P_descends_7 (by decide) rfl rfl (by first | assumption | omega) (by decide) ?_
  refine k_istore d_P_descends_8 (by decide) ?_
  obtain ⟨e, he, he2⟩ := hd k hk
  have h2 := ix_nI (n := e) (by omega)
  rw [he2]
  exact (c_P_descends_loop hp e _ (by omega) (Or.inr ⟨k, hk, rfl⟩)).to (by simp [cDesc, he2, h2]) rfl

theorem c_P_countDescendants_loop {l : Launch} {D : va_G} {cI cB cT : ClassId} {ad : Nat → Nat} {d : Nat} {u : kSt} {z : Int32} (hp : cPar u) (hd : cDep u) (N : Nat) (hN : N = 96) : ∀ (n k : Nat) (a : Int32), k + n = N → a = cCount u z k → KAt (kWl lyC l D cI cB cT ad) m_P_countDescendants (d + 1) 4 [some (.ref 2), some (.int z), some (.int a), some (.int (nI k))] [] u (some (.int (cCount u z N))) u := by
  intro n
  induction n with
  | zero =>
    intro k a hk ha
    subst ha
    obtain rfl : k = N := by omega
    have h0 : ¬ ¬ (96 : Int32) ≤ nI k := by rw [hN]; decide
    refine k_iload_n d_P_countDescendants_4 rfl ?_
    refine k_bipush (v := 96) d_P_countDescendants_5 (by decide) ?_
    refine k_icmp_ge d_P_countDescendants_7 (fun h7 => ?_) (fun h7 => absurd h7 h0)
    refine k_iload_n d_P_countDescendants_36 rfl ?_
    exact k_iret d_P_countDescendants_37 rfl (by first | rfl | (simp [bI] <;> done) | (simp [bI, *] <;> done)) (by first | rfl | (simp [bI] <;> done) | (simp [bI, *] <;> done))
  | succ n ih =>
    intro k a hk ha
    subst ha
    have hk2 : k < 96 := by omega
    have h0 : ¬ (96 : Int32) ≤ nI k := nI_ge (a := k) (b := 96) hk2 (by decide)
    refine k_iload_n d_P_countDescendants_4 rfl ?_
    refine k_bipush (v := 96) d_P_countDescendants_5 (by decide) ?_
    refine k_icmp_ge d_P_countDescendants_7 (fun h7 => absurd h7 h0) (fun h7 => ?_)
    refine k_aload_n d_P_countDescendants_10 rfl ?_
    refine k_iload_n d_P_countDescendants_11 rfl ?_
    refine k_virt1s d_P_countDescendants_12 l_P_24 g_P_holds (c_P_holds hk2) rcvP (Nat.le_of_ble_eq_true rfl) ?_
    refine k_if_eqB d_P_countDescendants_15 (fun h15 => ?_) (fun h15 => ?_)
    · refine k_incN d_P_countDescendants_30 rfl (by decide) ?_
      refine k_goto d_P_countDescendants_33 ?_
      exact ih (k + 1) _ (by omega) (by simp [cCount, *])
    · refine k_aload_n d_P_countDescendants_18 rfl ?_
      refine k_iload_n d_P_countDescendants_19 rfl ?_
      refine k_iload_n d_P_countDescendants_20 rfl ?_
      refine k_virt2s d_P_countDescendants_21 l_P_28 g_P_descends (c_P_descends hk2 hp hd) rcvP (Nat.le_of_ble_eq_true rfl) ?_
      refine k_if_eqB d_P_countDescendants_24 (fun h24 => ?_) (fun h24 => ?_)
      · refine k_incN d_P_countDescendants_30 rfl (by decide) ?_
        refine k_goto d_P_countDescendants_33 ?_
        exact ih (k + 1) _ (by omega) (by simp [cCount, *])
      · refine k_inc1 d_P_countDescendants_27 rfl (by decide) ?_
        refine k_incN d_P_countDescendants_30 rfl (by decide) ?_
        refine k_goto d_P_countDescendants_33 ?_
        exact ih (k + 1) _ (by omega) (by simp [cCount, *])

set_option maxRecDepth 4000 in
theorem c_P_countDescendants {l : Launch} {D : va_G} {cI cB cT : ClassId} {ad : Nat → Nat} {d : Nat} {u : kSt} {z : Int32} (hp : cPar u) (hd : cDep u) : KSp (kWl lyC l D cI cB cT ad) y_P_countDescendants m_P_countDescendants (d + 1) [.ref 2, .int z] u (some (.int (cCount u z 96))) u := by
  refine KSp.of (by decide) rfl (Nat.le_of_ble_eq_true rfl) rfl ?_
  show KAt (kWl lyC l D cI cB cT ad) m_P_countDescendants (d + 1) 0 [some (.ref 2), some (.int z), none, none] [] u (some (.int (cCount u z 96))) u
  refine k_iconst (v := 0) d_P_countDescendants_0 (by decide) ?_
  refine k_istore_n d_P_countDescendants_1 (by decide) ?_
  refine k_iconst (v := 0) d_P_countDescendants_2 (by decide) ?_
  refine k_istore_n d_P_countDescendants_3 (by decide) ?_
  exact c_P_countDescendants_loop hp hd 96 rfl 96 0 _ rfl rfl

set_option maxRecDepth 4000 in
theorem c_P_lower {l : Launch} {D : va_G} {cI cB cT : ClassId} {ad : Nat → Nat} {d : Nat} {u : kSt} {k : Nat} {m : Int32} (hk : k < 96) : KSp (kWl lyC l D cI cB cT ad) y_P_lower m_P_lower d [.ref 2, .int (nI k), .int m] u (some (.int (cLowerN u k m))) (cLower u k m) := by
  refine KSp.of (by decide) rfl (Nat.le_of_ble_eq_true rfl) rfl ?_
  show KAt (kWl lyC l D cI cB cT ad) m_P_lower d 0 [some (.ref 2), some (.int (nI k)), some (.int m)] [] u (some (.int (cLowerN u k m))) (cLower u k m)
  refine k_aload_n d_P_lower_0 rfl ?_
  refine k_getr (t := 4) d_P_lower_1 f_P_9 (by decide) rfl (by decide) (by decide) rfl ?_
  refine k_iload_n d_P_lower_4 rfl ?_
  refine k_ialdN (n := 96) d_P_lower_5 (by decide) rfl rfl (by first | assumption | omega) (by decide) ?_
  refine k_iload_n d_P_lower_6 rfl ?_
  refine k_icmp_gt d_P_lower_7 (fun h7 => ?_) (fun h7 => ?_)
  · refine k_aload_n d_P_lower_12 rfl ?_
    refine k_getr (t := 4) d_P_lower_13 f_P_9 (by decide) rfl (by decide) (by decide) rfl ?_
    refine k_iload_n d_P_lower_16 rfl ?_
    refine k_iload_n d_P_lower_17 rfl ?_
    refine k_iastN (n := 96) d_P_lower_18 (by decide) rfl rfl (by first | assumption | omega) (by decide) ?_
    refine k_iconst (v := 1) d_P_lower_19 (by decide) ?_
    exact k_iret d_P_lower_20 rfl (by first | rfl | (simp [cLower, cLowerN] <;> done) | (simp [cLower, cLowerN, *] <;> done)) (by first | rfl | (simp [cLower, cLowerN] <;> done) | (simp [cLower, cLowerN, *] <;> done))
  · refine k_iconst (v := 0) d_P_lower_10 (by decide) ?_
    exact k_iret d_P_lower_11 rfl (by first | rfl | (simp [cLower, cLowerN] <;> done) | (simp [cLower, cLowerN, *] <;> done)) (by first | rfl | (simp [cLower, cLowerN] <;> done) | (simp [cLower, cLowerN, *] <;> done))

theorem cLower_ne {u : kSt} {k a : Nat} {m : Int32} (ha : a ≠ 4) : cLower u k m a = u a := by
  unfold cLower
  split
  · exact kup_ne u k m ha
  · rfl
theorem cLow_ne {u : kSt} {z m : Int32} {a : Nat} (ha : a ≠ 4) : ∀ n, cLow u z m n a = u a
  | 0 => rfl
  | n + 1 => by
    unfold cLow
    split
    · rw [cLower_ne ha, cLow_ne ha n]
    · exact cLow_ne ha n
theorem cLow_par {u : kSt} {z m : Int32} (h : cPar u) (n : Nat) : cPar (cLow u z m n) := by
  intro j hj
  rw [cLow_ne (by decide)]
  exact h j hj
theorem cLow_dep {u : kSt} {z m : Int32} (h : cDep u) (n : Nat) : cDep (cLow u z m n) := by
  intro j hj
  rw [cLow_ne (by decide)]
  exact h j hj
theorem c_P_lowerDescendants_loop {l : Launch} {D : va_G} {cI cB cT : ClassId} {ad : Nat → Nat} {d : Nat} {u : kSt} {z m : Int32} (hp : cPar u) (hd : cDep u) (N : Nat) (hN : N = 96) : ∀ (n k : Nat) (a : Int32) (y : kSt), k + n = N → a = cLowN u z m k → y = cLow u z m k → KAt (kWl lyC l D cI cB cT ad) m_P_lowerDescendants (d + 1) 5 [some (.ref 2), some (.int z), some (.int m), some (.int a), some (.int (nI k))] [] y (some (.int (cLowN u z m N))) (cLow u z m N) := by
  intro n
  induction n with
  | zero =>
    intro k a y hk ha hy
    subst ha
    subst hy
    obtain rfl : k = N := by omega
    have h0 : ¬ ¬ (96 : Int32) ≤ nI k := by rw [hN]; decide
    refine k_iload d_P_lowerDescendants_5 rfl ?_
    refine k_bipush (v := 96) d_P_lowerDescendants_7 (by decide) ?_
    refine k_icmp_ge d_P_lowerDescendants_9 (fun h9 => ?_) (fun h9 => absurd h9 h0)
    refine k_iload_n d_P_lowerDescendants_47 rfl ?_
    exact k_iret d_P_lowerDescendants_48 rfl (by first | rfl | (simp [bI] <;> done) | (simp [bI, *] <;> done)) (by first | rfl | (simp [bI] <;> done) | (simp [bI, *] <;> done))
  | succ n ih =>
    intro k a y hk ha hy
    subst ha
    subst hy
    have hk2 : k < 96 := by omega
    have h0 : ¬ (96 : Int32) ≤ nI k := nI_ge (a := k) (b := 96) hk2 (by decide)
    refine k_iload d_P_lowerDescendants_5 rfl ?_
    refine k_bipush (v := 96) d_P_lowerDescendants_7 (by decide) ?_
    refine k_icmp_ge d_P_lowerDescendants_9 (fun h9 => absurd h9 h0) (fun h9 => ?_)
    refine k_aload_n d_P_lowerDescendants_12 rfl ?_
    refine k_iload d_P_lowerDescendants_13 rfl ?_
    refine k_virt1s d_P_lowerDescendants_15 l_P_24 g_P_holds (c_P_holds hk2) rcvP (Nat.le_of_ble_eq_true rfl) ?_
    refine k_if_eqB d_P_lowerDescendants_18 (fun h18 => ?_) (fun h18 => ?_)
    · refine k_incN d_P_lowerDescendants_41 rfl (by decide) ?_
      refine k_goto d_P_lowerDescendants_44 ?_
      exact ih (k + 1) _ _ (by omega) (by simp [cLowN, *]) (by simp [cLow, *])
    · refine k_aload_n d_P_lowerDescendants_21 rfl ?_
      refine k_iload d_P_lowerDescendants_22 rfl ?_
      refine k_iload_n d_P_lowerDescendants_24 rfl ?_
      refine k_virt2s d_P_lowerDescendants_25 l_P_28 g_P_descends (c_P_descends hk2 (cLow_par hp k) (cLow_dep hd k)) rcvP (Nat.le_of_ble_eq_true rfl) ?_
      refine k_if_eqB d_P_lowerDescendants_28 (fun h28 => ?_) (fun h28 => ?_)
      · refine k_incN d_P_lowerDescendants_41 rfl (by decide) ?_
        refine k_goto d_P_lowerDescendants_44 ?_
        exact ih (k + 1) _ _ (by omega) (by simp [cLowN, *]) (by simp [cLow, *])
      · refine k_iload_n d_P_lowerDescendants_31 rfl ?_
        refine k_aload_n d_P_lowerDescendants_32 rfl ?_
        refine k_iload d_P_lowerDescendants_33 rfl ?_
        refine k_iload_n d_P_lowerDescendants_35 rfl ?_
        refine k_virt2s d_P_lowerDescendants_36 l_P_32 g_P_lower (c_P_lower hk2) rcvP (Nat.le_of_ble_eq_true rfl) ?_
        refine k_iadd d_P_lowerDescendants_39 ?_
        refine k_istore_n d_P_lowerDescendants_40 (by decide) ?_
        refine k_incN d_P_lowerDescendants_41 rfl (by decide) ?_
        refine k_goto d_P_lowerDescendants_44 ?_
        exact ih (k + 1) _ _ (by omega) (by simp [cLowN, *]) (by simp [cLow, *])

set_option maxRecDepth 4000 in
theorem c_P_lowerDescendants {l : Launch} {D : va_G} {cI cB cT : ClassId} {ad : Nat → Nat} {d : Nat} {u : kSt} {z m : Int32} (hp : cPar u) (hd : cDep u) : KSp (kWl lyC l D cI cB cT ad) y_P_lowerDescendants m_P_lowerDescendants (d + 1) [.ref 2, .int z, .int m] u (some (.int (cLowN u z m 96))) (cLow u z m 96) := by
  refine KSp.of (by decide) rfl (Nat.le_of_ble_eq_true rfl) rfl ?_
  show KAt (kWl lyC l D cI cB cT ad) m_P_lowerDescendants (d + 1) 0 [some (.ref 2), some (.int z), some (.int m), none, none] [] u (some (.int (cLowN u z m 96))) (cLow u z m 96)
  refine k_iconst (v := 0) d_P_lowerDescendants_0 (by decide) ?_
  refine k_istore_n d_P_lowerDescendants_1 (by decide) ?_
  refine k_iconst (v := 0) d_P_lowerDescendants_2 (by decide) ?_
  refine k_istore d_P_lowerDescendants_3 (by decide) ?_
  exact c_P_lowerDescendants_loop hp hd 96 rfl 96 0 _ _ rfl rfl rfl

set_option maxRecDepth 4000 in
theorem c_P_derive {l : Launch} {D : va_G} {cI cB cT : ClassId} {ad : Nat → Nat} {d : Nat} {u : kSt} {s t : Nat} {m : Int32} (hs : s < 96) (ht : t < 96) : KSp (kWl lyC l D cI cB cT ad) y_P_derive m_P_derive d [.ref 2, .int (nI s), .int (nI t), .int m] u none (cDerive u s t m) := by
  refine KSp.of (by decide) rfl (Nat.le_of_ble_eq_true rfl) rfl ?_
  show KAt (kWl lyC l D cI cB cT ad) m_P_derive d 0 [some (.ref 2), some (.int (nI s)), some (.int (nI t)), some (.int m)] [] u none (cDerive u s t m)
  refine k_aload_n d_P_derive_0 rfl ?_
  refine k_getr (t := 4) d_P_derive_1 f_P_9 (by decide) rfl (by decide) (by decide) rfl ?_
  refine k_iload_n d_P_derive_4 rfl ?_
  refine k_iload_n d_P_derive_5 rfl ?_
  refine k_iastN (n := 96) d_P_derive_6 (by decide) rfl rfl (by first | assumption | omega) (by decide) ?_
  refine k_aload_n d_P_derive_7 rfl ?_
  refine k_getr (t := 5) d_P_derive_8 f_P_15 (by decide) rfl (by decide) (by decide) rfl ?_
  refine k_iload_n d_P_derive_11 rfl ?_
  refine k_aload_n d_P_derive_12 rfl ?_
  refine k_getr (t := 5) d_P_derive_13 f_P_15 (by decide) rfl (by decide) (by decide) rfl ?_
  refine k_iload_n d_P_derive_16 rfl ?_
  refine k_ialdN (n := 96) d_P_derive_17 (by decide) rfl rfl (by first | assumption | omega) (by decide) ?_
  refine k_iastN (n := 96) d_P_derive_18 (by decide) rfl rfl (by first | assumption | omega) (by decide) ?_
  refine k_aload_n d_P_derive_19 rfl ?_
  refine k_getr (t := 6) d_P_derive_20 f_P_18 (by decide) rfl (by decide) (by decide) rfl ?_
  refine k_iload_n d_P_derive_23 rfl ?_
  refine k_aload_n d_P_derive_24 rfl ?_
  refine k_getr (t := 6) d_P_derive_25 f_P_18 (by decide) rfl (by decide) (by decide) rfl ?_
  refine k_iload_n d_P_derive_28 rfl ?_
  refine k_ialdN (n := 96) d_P_derive_29 (by decide) rfl rfl (by first | assumption | omega) (by decide) ?_
  refine k_iconst (v := 1) d_P_derive_30 (by decide) ?_
  refine k_iadd d_P_derive_31 ?_
  refine k_iastN (n := 96) d_P_derive_32 (by decide) rfl rfl (by first | assumption | omega) (by decide) ?_
  refine k_aload_n d_P_derive_33 rfl ?_
  refine k_getr (t := 7) d_P_derive_34 f_P_21 (by decide) rfl (by decide) (by decide) rfl ?_
  refine k_iload_n d_P_derive_37 rfl ?_
  refine k_iload_n d_P_derive_38 rfl ?_
  refine k_iastN (n := 96) d_P_derive_39 (by decide) rfl rfl (by first | assumption | omega) (by decide) ?_
  exact k_vret d_P_derive_40 rfl rfl (by simp [cDerive, kup_o])

theorem c_P_move_loop {l : Launch} {D : va_G} {cI cB cT : ClassId} {ad : Nat → Nat} {d : Nat} {u : kSt} {s t : Nat} (hs : s < 96) (ht : t < 96) (N : Nat) (hN : N = 96) : ∀ (n k : Nat) (y : kSt), k + n = N → y = cAdopt u (nI s) (nI t) k → KAt (kWl lyC l D cI cB cT ad) m_P_move (d + 1) 50 [some (.ref 2), some (.int (nI s)), some (.int (nI t)), some (.int (nI k))] [] y none (kup (cAdopt u (nI s) (nI t) N) 4 s 0) := by
  intro n
  induction n with
  | zero =>
    intro k y hk hy
    subst hy
    obtain rfl : k = N := by omega
    have h0 : ¬ ¬ (96 : Int32) ≤ nI k := by rw [hN]; decide
    refine k_iload_n d_P_move_50 rfl ?_
    refine k_bipush (v := 96) d_P_move_51 (by decide) ?_
    refine k_icmp_ge d_P_move_53 (fun h53 => ?_) (fun h53 => absurd h53 h0)
    refine k_aload_n d_P_move_87 rfl ?_
    refine k_getr (t := 4) d_P_move_88 f_P_9 (by decide) rfl (by decide) (by decide) rfl ?_
    refine k_iload_n d_P_move_91 rfl ?_
    refine k_iconst (v := 0) d_P_move_92 (by decide) ?_
    refine k_iastN (n := 96) d_P_move_93 (by decide) rfl rfl (by first | assumption | omega) (by decide) ?_
    exact k_vret d_P_move_94 rfl rfl (by first | rfl | (simp [bI] <;> done) | (simp [bI, *] <;> done))
  | succ n ih =>
    intro k y hk hy
    subst hy
    have hk2 : k < 96 := by omega
    have h0 : ¬ (96 : Int32) ≤ nI k := nI_ge (a := k) (b := 96) hk2 (by decide)
    refine k_iload_n d_P_move_50 rfl ?_
    refine k_bipush (v := 96) d_P_move_51 (by decide) ?_
    refine k_icmp_ge d_P_move_53 (fun h53 => absurd h53 h0) (fun h53 => ?_)
    refine k_aload_n d_P_move_56 rfl ?_
    refine k_iload_n d_P_move_57 rfl ?_
    refine k_virt1s d_P_move_58 l_P_24 g_P_holds (c_P_holds hk2) rcvP (Nat.le_of_ble_eq_true rfl) ?_
    refine k_if_eqB d_P_move_61 (fun h61 => ?_) (fun h61 => ?_)
    · refine k_incN d_P_move_81 rfl (by decide) ?_
      refine k_goto d_P_move_84 ?_
      exact ih (k + 1) _ (by omega) (by simp [cAdopt, *])
    · refine k_aload_n d_P_move_64 rfl ?_
      refine k_getr (t := 7) d_P_move_65 f_P_21 (by decide) rfl (by decide) (by decide) rfl ?_
      refine k_iload_n d_P_move_68 rfl ?_
      refine k_ialdN (n := 96) d_P_move_69 (by decide) rfl rfl (by first | assumption | omega) (by decide) ?_
      refine k_iload_n d_P_move_70 rfl ?_
      refine k_icmp_ne d_P_move_71 (fun h71 => ?_) (fun h71 => ?_)
      · refine k_incN d_P_move_81 rfl (by decide) ?_
        refine k_goto d_P_move_84 ?_
        exact ih (k + 1) _ (by omega) (by simp [cAdopt, *])
      · refine k_aload_n d_P_move_74 rfl ?_
        refine k_getr (t := 7) d_P_move_75 f_P_21 (by decide) rfl (by decide) (by decide) rfl ?_
        refine k_iload_n d_P_move_78 rfl ?_
        refine k_iload_n d_P_move_79 rfl ?_
        refine k_iastN (n := 96) d_P_move_80 (by decide) rfl rfl (by first | assumption | omega) (by decide) ?_
        refine k_incN d_P_move_81 rfl (by decide) ?_
        refine k_goto d_P_move_84 ?_
        exact ih (k + 1) _ (by omega) (by simp [cAdopt, *])

set_option maxRecDepth 4000 in
theorem c_P_move {l : Launch} {D : va_G} {cI cB cT : ClassId} {ad : Nat → Nat} {d : Nat} {u : kSt} {s t : Nat} (hs : s < 96) (ht : t < 96) : KSp (kWl lyC l D cI cB cT ad) y_P_move m_P_move (d + 1) [.ref 2, .int (nI s), .int (nI t)] u none (cMove u s t) := by
  refine KSp.of (by decide) rfl (Nat.le_of_ble_eq_true rfl) rfl ?_
  show KAt (kWl lyC l D cI cB cT ad) m_P_move (d + 1) 0 [some (.ref 2), some (.int (nI s)), some (.int (nI t)), none] [] u none (cMove u s t)
  refine k_aload_n d_P_move_0 rfl ?_
  refine k_getr (t := 4) d_P_move_1 f_P_9 (by decide) rfl (by decide) (by decide) rfl ?_
  refine k_iload_n d_P_move_4 rfl ?_
  refine k_aload_n d_P_move_5 rfl ?_
  refine k_getr (t := 4) d_P_move_6 f_P_9 (by decide) rfl (by decide) (by decide) rfl ?_
  refine k_iload_n d_P_move_9 rfl ?_
  refine k_ialdN (n := 96) d_P_move_10 (by decide) rfl rfl (by first | assumption | omega) (by decide) ?_
  refine k_iastN (n := 96) d_P_move_11 (by decide) rfl rfl (by first | assumption | omega) (by decide) ?_
  refine k_aload_n d_P_move_12 rfl ?_
  refine k_getr (t := 5) d_P_move_13 f_P_15 (by decide) rfl (by decide) (by decide) rfl ?_
  refine k_iload_n d_P_move_16 rfl ?_
  refine k_aload_n d_P_move_17 rfl ?_
  refine k_getr (t := 5) d_P_move_18 f_P_15 (by decide) rfl (by decide) (by decide) rfl ?_
  refine k_iload_n d_P_move_21 rfl ?_
  refine k_ialdN (n := 96) d_P_move_22 (by decide) rfl rfl (by first | assumption | omega) (by decide) ?_
  refine k_iastN (n := 96) d_P_move_23 (by decide) rfl rfl (by first | assumption | omega) (by decide) ?_
  refine k_aload_n d_P_move_24 rfl ?_
  refine k_getr (t := 6) d_P_move_25 f_P_18 (by decide) rfl (by decide) (by decide) rfl ?_
  refine k_iload_n d_P_move_28 rfl ?_
  refine k_aload_n d_P_move_29 rfl ?_
  refine k_getr (t := 6) d_P_move_30 f_P_18 (by decide) rfl (by decide) (by decide) rfl ?_
  refine k_iload_n d_P_move_33 rfl ?_
  refine k_ialdN (n := 96) d_P_move_34 (by decide) rfl rfl (by first | assumption | omega) (by decide) ?_
  refine k_iastN (n := 96) d_P_move_35 (by decide) rfl rfl (by first | assumption | omega) (by decide) ?_
  refine k_aload_n d_P_move_36 rfl ?_
  refine k_getr (t := 7) d_P_move_37 f_P_21 (by decide) rfl (by decide) (by decide) rfl ?_
  refine k_iload_n d_P_move_40 rfl ?_
  refine k_aload_n d_P_move_41 rfl ?_
  refine k_getr (t := 7) d_P_move_42 f_P_21 (by decide) rfl (by decide) (by decide) rfl ?_
  refine k_iload_n d_P_move_45 rfl ?_
  refine k_ialdN (n := 96) d_P_move_46 (by decide) rfl rfl (by first | assumption | omega) (by decide) ?_
  refine k_iastN (n := 96) d_P_move_47 (by decide) rfl rfl (by first | assumption | omega) (by decide) ?_
  refine k_iconst (v := 0) d_P_move_48 (by decide) ?_
  refine k_istore_n d_P_move_49 (by decide) ?_
  exact (c_P_move_loop hs ht 96 rfl 96 0 _ rfl rfl).to rfl (by simp [cMove, kup_o]; rfl)

theorem c_P_handOn_2 {l : Launch} {D : va_G} {cI cB cT : ClassId} {ad : Nat → Nat} {d : Nat} {u : kSt} {s t : Nat} {m g : Int32} (hs : s < 96) (ht : t < 96) : KAt (kWl lyC l D cI cB cT ad) m_P_handOn (d + 2) 36 [some (.ref 2), some (.int (nI s)), some (.int (nI t)), some (.int m), some (.int g)] [] u none (cHand2 u s t m g) := by
  refine k_aload_n d_P_handOn_36 rfl ?_
  refine k_iload_n d_P_handOn_37 rfl ?_
  refine k_virt1s d_P_handOn_38 l_P_24 g_P_holds (c_P_holds hs) rcvP (Nat.le_of_ble_eq_true rfl) ?_
  refine k_if_neB d_P_handOn_41 (fun h41 => ?_) (fun h41 => ?_)
  · refine k_iload d_P_handOn_45 rfl ?_
    refine k_if_eq d_P_handOn_47 (fun h47 => ?_) (fun h47 => ?_)
    · refine k_aload_n d_P_handOn_59 rfl ?_
      refine k_getr (t := 6) d_P_handOn_60 f_P_18 (by decide) rfl (by decide) (by decide) rfl ?_
      refine k_iload_n d_P_handOn_63 rfl ?_
      refine k_ialdN (n := 96) d_P_handOn_64 (by decide) rfl rfl (by first | assumption | omega) (by decide) ?_
      refine k_bipush (v := 12) d_P_handOn_65 (by decide) ?_
      refine k_icmp_ge d_P_handOn_67 (fun h67 => ?_) (fun h67 => ?_)
      · exact k_vret d_P_handOn_86 rfl rfl (by first | rfl | (simp [cHand2] <;> done) | (simp [cHand2, *] <;> done))
      · refine k_aload_n d_P_handOn_70 rfl ?_
        refine k_iload_n d_P_handOn_71 rfl ?_
        refine k_iload_n d_P_handOn_72 rfl ?_
        refine k_iload_n d_P_handOn_73 rfl ?_
        refine k_aload_n d_P_handOn_74 rfl ?_
        refine k_getr (t := 4) d_P_handOn_75 f_P_9 (by decide) rfl (by decide) (by decide) rfl ?_
        refine k_iload_n d_P_handOn_78 rfl ?_
        refine k_ialdN (n := 96) d_P_handOn_79 (by decide) rfl rfl (by first | assumption | omega) (by decide) ?_
        refine k_min d_P_handOn_80 lm_P_43 (Nat.le_of_ble_eq_true rfl) ?_
        refine k_virt3v d_P_handOn_83 l_P_48 g_P_derive (c_P_derive hs ht) rcvP (Nat.le_of_ble_eq_true rfl) ?_
        exact k_vret d_P_handOn_86 rfl rfl (by first | rfl | (simp [cHand2] <;> done) | (simp [cHand2, *] <;> done))
    · refine k_aload_n d_P_handOn_50 rfl ?_
      refine k_iload_n d_P_handOn_51 rfl ?_
      refine k_iload_n d_P_handOn_52 rfl ?_
      refine k_virt2v d_P_handOn_53 l_P_39 g_P_move (c_P_move hs ht) rcvP (Nat.le_of_ble_eq_true rfl) ?_
      refine k_goto d_P_handOn_56 ?_
      exact k_vret d_P_handOn_86 rfl rfl (by first | rfl | (simp [cHand2] <;> done) | (simp [cHand2, *] <;> done))
  · exact k_vret d_P_handOn_44 rfl rfl (by first | rfl | (simp [cHand2] <;> done) | (simp [cHand2, *] <;> done))

set_option maxRecDepth 4000 in
theorem c_P_handOn {l : Launch} {D : va_G} {cI cB cT : ClassId} {ad : Nat → Nat} {d : Nat} {u : kSt} {s t : Nat} {m g : Int32} (hs : s < 96) (ht : t < 96) (hp : cPar u) (hd : cDep u) : KSp (kWl lyC l D cI cB cT ad) y_P_handOn m_P_handOn (d + 2) [.ref 2, .int (nI s), .int (nI t), .int m, .int g] u none (cHandOn u s t m g) := by
  refine KSp.of (by decide) rfl (Nat.le_of_ble_eq_true rfl) rfl ?_
  show KAt (kWl lyC l D cI cB cT ad) m_P_handOn (d + 2) 0 [some (.ref 2), some (.int (nI s)), some (.int (nI t)), some (.int m), some (.int g)] [] u none (cHandOn u s t m g)
  refine k_iload_n d_P_handOn_0 rfl ?_
  refine k_iload_n d_P_handOn_1 rfl ?_
  refine k_icmp_eq d_P_handOn_2 (fun h2 => ?_) (fun h2 => ?_)
  · have hst := (nI_eq (a := s) (b := t) (by omega) (by omega)).symm
    exact k_vret d_P_handOn_13 rfl rfl (by first | rfl | (simp [cHandOn, hst] <;> done) | (simp [cHandOn, hst, *] <;> done))
  · have hst := (nI_eq (a := s) (b := t) (by omega) (by omega)).symm
    refine k_aload_n d_P_handOn_5 rfl ?_
    refine k_iload_n d_P_handOn_6 rfl ?_
    refine k_virt1s d_P_handOn_7 l_P_24 g_P_holds (c_P_holds hs) rcvP (Nat.le_of_ble_eq_true rfl) ?_
    refine k_if_neB d_P_handOn_10 (fun h10 => ?_) (fun h10 => ?_)
    · refine k_aload_n d_P_handOn_14 rfl ?_
      refine k_iload_n d_P_handOn_15 rfl ?_
      refine k_virt1s d_P_handOn_16 l_P_24 g_P_holds (c_P_holds ht) rcvP (Nat.le_of_ble_eq_true rfl) ?_
      refine k_if_eqB d_P_handOn_19 (fun h19 => ?_) (fun h19 => ?_)
      · have hst := (nI_eq (a := s) (b := t) (by omega) (by omega)).symm
        exact (c_P_handOn_2 hs ht).to rfl (by simp [cHandOn, cClean, *])
      · refine k_aload_n d_P_handOn_22 rfl ?_
        refine k_iload_n d_P_handOn_23 rfl ?_
        refine k_iconst (v := 0) d_P_handOn_24 (by decide) ?_
        refine k_virt2s d_P_handOn_25 l_P_36 g_P_lowerDescendants (c_P_lowerDescendants hp hd) rcvP (Nat.le_of_ble_eq_true rfl) ?_
        refine k_pop d_P_handOn_28 rfl ?_
        refine k_aload_n d_P_handOn_29 rfl ?_
        refine k_iload_n d_P_handOn_30 rfl ?_
        refine k_iconst (v := 0) d_P_handOn_31 (by decide) ?_
        refine k_virt2s d_P_handOn_32 l_P_32 g_P_lower (c_P_lower ht) rcvP (Nat.le_of_ble_eq_true rfl) ?_
        refine k_pop d_P_handOn_35 rfl ?_
        have hst := (nI_eq (a := s) (b := t) (by omega) (by omega)).symm
        exact (c_P_handOn_2 hs ht).to rfl (by simp [cHandOn, cClean, *])
    · have hst := (nI_eq (a := s) (b := t) (by omega) (by omega)).symm
      exact k_vret d_P_handOn_13 rfl rfl (by first | rfl | (simp [cHandOn, hst] <;> done) | (simp [cHandOn, hst, *] <;> done))

end KCP
