section KCH
set_option maxRecDepth 4000 in
theorem c_H_run {l : Launch} {D : va_G} {cI cB cT : ClassId} {ad : Nat → Nat} {d : Nat} {u : kSt} {i : Nat} {o : Int32} (hi : i < 8) : KSp (kWl lyC l D cI cB cT ad) y_H_run m_H_run d [.ref (8 + i), .int o] u none (cRun u i o) := by
  refine KSp.of (by decide) rfl (Nat.le_of_ble_eq_true rfl) rfl ?_
  show KAt (kWl lyC l D cI cB cT ad) m_H_run d 0 [some (.ref (8 + i)), some (.int o)] [] u none (cRun u i o)
  refine k_aload_n d_H_run_0 rfl ?_
  refine k_iconst (v := 0) d_H_run_1 (by decide) ?_
  refine cT_put d_H_run_2 p_H_15 (by first | assumption | omega) (by decide) (by decide) rfl rfl ?_
  refine k_aload_n d_H_run_5 rfl ?_
  refine k_iload_n d_H_run_6 rfl ?_
  refine cT_put d_H_run_7 p_H_34 (by first | assumption | omega) (by decide) (by decide) rfl rfl ?_
  exact k_vret d_H_run_10 rfl rfl (by first | rfl | (simp [cRun] <;> done) | (simp [cRun, *] <;> done))

set_option maxRecDepth 4000 in
theorem c_H_waitFor {l : Launch} {D : va_G} {cI cB cT : ClassId} {ad : Nat → Nat} {d : Nat} {u : kSt} {i : Nat} {a b c : Int32} (hi : i < 8) : KSp (kWl lyC l D cI cB cT ad) y_H_waitFor m_H_waitFor d [.ref (8 + i), .int a, .int b, .int c] u none (cWait u i a b c) := by
  refine KSp.of (by decide) rfl (Nat.le_of_ble_eq_true rfl) rfl ?_
  show KAt (kWl lyC l D cI cB cT ad) m_H_waitFor d 0 [some (.ref (8 + i)), some (.int a), some (.int b), some (.int c)] [] u none (cWait u i a b c)
  refine k_aload_n d_H_waitFor_0 rfl ?_
  refine k_iload_n d_H_waitFor_1 rfl ?_
  refine cT_put d_H_waitFor_2 p_H_15 (by first | assumption | omega) (by decide) (by decide) rfl rfl ?_
  refine k_aload_n d_H_waitFor_5 rfl ?_
  refine k_iload_n d_H_waitFor_6 rfl ?_
  refine cT_put d_H_waitFor_7 p_H_46 (by first | assumption | omega) (by decide) (by decide) rfl rfl ?_
  refine k_aload_n d_H_waitFor_10 rfl ?_
  refine k_iload_n d_H_waitFor_11 rfl ?_
  refine cT_put d_H_waitFor_12 p_H_49 (by first | assumption | omega) (by decide) (by decide) rfl rfl ?_
  exact k_vret d_H_waitFor_15 rfl rfl (by first | rfl | (simp [cWait] <;> done) | (simp [cWait, *] <;> done))

set_option maxRecDepth 4000 in
theorem c_H_take {l : Launch} {D : va_G} {cI cB cT : ClassId} {ad : Nat → Nat} {d : Nat} {u : kSt} {i : Nat} {s a b c e : Int32} (hi : i < 8) : KSp (kWl lyC l D cI cB cT ad) y_H_take m_H_take d [.ref (8 + i), .int s, .int a, .int b, .int c, .int e] u none (cTake u i s a b c e) := by
  refine KSp.of (by decide) rfl (Nat.le_of_ble_eq_true rfl) rfl ?_
  show KAt (kWl lyC l D cI cB cT ad) m_H_take d 0 [some (.ref (8 + i)), some (.int s), some (.int a), some (.int b), some (.int c), some (.int e)] [] u none (cTake u i s a b c e)
  refine k_aload_n d_H_take_0 rfl ?_
  refine cT_reg d_H_take_1 f_H_9 (by first | assumption | omega) ?_
  refine k_iconst (v := 0) d_H_take_4 (by decide) ?_
  refine k_iload_n d_H_take_5 rfl ?_
  refine cR_ast d_H_take_6 (by first | assumption | omega) (by first | assumption | (unfold vp_in; decide) | exact vin (by assumption) (by assumption) | exact vin_n (by assumption) | exact vin_n (by omega)) ?_
  refine k_aload_n d_H_take_7 rfl ?_
  refine cT_reg d_H_take_8 f_H_9 (by first | assumption | omega) ?_
  refine k_iconst (v := 1) d_H_take_11 (by decide) ?_
  refine k_iload_n d_H_take_12 rfl ?_
  refine cR_ast d_H_take_13 (by first | assumption | omega) (by first | assumption | (unfold vp_in; decide) | exact vin (by assumption) (by assumption) | exact vin_n (by assumption) | exact vin_n (by omega)) ?_
  refine k_aload_n d_H_take_14 rfl ?_
  refine cT_reg d_H_take_15 f_H_9 (by first | assumption | omega) ?_
  refine k_iconst (v := 2) d_H_take_18 (by decide) ?_
  refine k_iload d_H_take_19 rfl ?_
  refine cR_ast d_H_take_21 (by first | assumption | omega) (by first | assumption | (unfold vp_in; decide) | exact vin (by assumption) (by assumption) | exact vin_n (by assumption) | exact vin_n (by omega)) ?_
  refine k_aload_n d_H_take_22 rfl ?_
  refine cT_reg d_H_take_23 f_H_9 (by first | assumption | omega) ?_
  refine k_iconst (v := 3) d_H_take_26 (by decide) ?_
  refine k_iload d_H_take_27 rfl ?_
  refine cR_ast d_H_take_29 (by first | assumption | omega) (by first | assumption | (unfold vp_in; decide) | exact vin (by assumption) (by assumption) | exact vin_n (by assumption) | exact vin_n (by omega)) ?_
  refine k_aload_n d_H_take_30 rfl ?_
  refine k_iload_n d_H_take_31 rfl ?_
  refine cT_put d_H_take_32 p_H_37 (by first | assumption | omega) (by decide) (by decide) rfl rfl ?_
  refine k_aload_n d_H_take_35 rfl ?_
  refine k_dup d_H_take_36 rfl ?_
  refine cT_get d_H_take_37 f_H_43 (by first | assumption | omega) (by decide) (by decide) ?_
  refine k_iconst (v := 1) d_H_take_40 (by decide) ?_
  refine k_iadd d_H_take_41 ?_
  refine cT_put d_H_take_42 p_H_43 (by first | assumption | omega) (by decide) (by decide) rfl rfl ?_
  exact k_vret d_H_take_45 rfl rfl (by simp only [cTake, ix0, ix1, ix2, ix3]; congr 1; simp [kup])

set_option maxRecDepth 4000 in
theorem c_H_waitsForThread {l : Launch} {D : va_G} {cI cB cT : ClassId} {ad : Nat → Nat} {d : Nat} {u : kSt} {i : Nat} (hi : i < 8) : KSp (kWl lyC l D cI cB cT ad) y_H_waitsForThread m_H_waitsForThread d [.ref (8 + i)] u (some (.int (bI (cWaits u i)))) u := by
  refine KSp.of (by decide) rfl (Nat.le_of_ble_eq_true rfl) rfl ?_
  show KAt (kWl lyC l D cI cB cT ad) m_H_waitsForThread d 0 [some (.ref (8 + i))] [] u (some (.int (bI (cWaits u i)))) u
  refine k_aload_n d_H_waitsForThread_0 rfl ?_
  refine cT_get d_H_waitsForThread_1 f_H_15 (by first | assumption | omega) (by decide) (by decide) ?_
  refine k_iconst (v := 1) d_H_waitsForThread_4 (by decide) ?_
  refine k_icmp_eq d_H_waitsForThread_5 (fun h5 => ?_) (fun h5 => ?_)
  · refine k_iconst (v := 1) d_H_waitsForThread_24 (by decide) ?_
    refine k_goto d_H_waitsForThread_25 ?_
    exact k_zret d_H_waitsForThread_29 rfl (by first | rfl | exact nb_bI _) (by first | rfl | (simp [cWaits, bI] <;> done) | (simp [cWaits, bI, *] <;> done)) (by first | rfl | (simp [cWaits, bI] <;> done) | (simp [cWaits, bI, *] <;> done))
  · refine k_aload_n d_H_waitsForThread_8 rfl ?_
    refine cT_get d_H_waitsForThread_9 f_H_15 (by first | assumption | omega) (by decide) (by decide) ?_
    refine k_iconst (v := 2) d_H_waitsForThread_12 (by decide) ?_
    refine k_icmp_eq d_H_waitsForThread_13 (fun h13 => ?_) (fun h13 => ?_)
    · refine k_iconst (v := 1) d_H_waitsForThread_24 (by decide) ?_
      refine k_goto d_H_waitsForThread_25 ?_
      exact k_zret d_H_waitsForThread_29 rfl (by first | rfl | exact nb_bI _) (by first | rfl | (simp [cWaits, bI] <;> done) | (simp [cWaits, bI, *] <;> done)) (by first | rfl | (simp [cWaits, bI] <;> done) | (simp [cWaits, bI, *] <;> done))
    · refine k_aload_n d_H_waitsForThread_16 rfl ?_
      refine cT_get d_H_waitsForThread_17 f_H_15 (by first | assumption | omega) (by decide) (by decide) ?_
      refine k_iconst (v := 3) d_H_waitsForThread_20 (by decide) ?_
      refine k_icmp_ne d_H_waitsForThread_21 (fun h21 => ?_) (fun h21 => ?_)
      · refine k_iconst (v := 0) d_H_waitsForThread_28 (by decide) ?_
        exact k_zret d_H_waitsForThread_29 rfl (by first | rfl | exact nb_bI _) (by first | rfl | (simp [cWaits, bI] <;> done) | (simp [cWaits, bI, *] <;> done)) (by first | rfl | (simp [cWaits, bI] <;> done) | (simp [cWaits, bI, *] <;> done))
      · refine k_iconst (v := 1) d_H_waitsForThread_24 (by decide) ?_
        refine k_goto d_H_waitsForThread_25 ?_
        exact k_zret d_H_waitsForThread_29 rfl (by first | rfl | exact nb_bI _) (by first | rfl | (simp [cWaits, bI] <;> done) | (simp [cWaits, bI, *] <;> done)) (by first | rfl | (simp [cWaits, bI] <;> done) | (simp [cWaits, bI, *] <;> done))

set_option maxRecDepth 4000 in
theorem c_H_waitsToSendTo {l : Launch} {D : va_G} {cI cB cT : ClassId} {ad : Nat → Nat} {d : Nat} {u : kSt} {i : Nat} {t : Int32} (hi : i < 8) : KSp (kWl lyC l D cI cB cT ad) y_H_waitsToSendTo m_H_waitsToSendTo d [.ref (8 + i), .int t] u (some (.int (bI (cWaitsTo u i t)))) u := by
  refine KSp.of (by decide) rfl (Nat.le_of_ble_eq_true rfl) rfl ?_
  show KAt (kWl lyC l D cI cB cT ad) m_H_waitsToSendTo d 0 [some (.ref (8 + i)), some (.int t)] [] u (some (.int (bI (cWaitsTo u i t)))) u
  refine k_aload_n d_H_waitsToSendTo_0 rfl ?_
  refine cT_get d_H_waitsToSendTo_1 f_H_15 (by first | assumption | omega) (by decide) (by decide) ?_
  refine k_iconst (v := 1) d_H_waitsToSendTo_4 (by decide) ?_
  refine k_icmp_eq d_H_waitsToSendTo_5 (fun h5 => ?_) (fun h5 => ?_)
  · refine k_aload_n d_H_waitsToSendTo_24 rfl ?_
    refine cT_get d_H_waitsToSendTo_25 f_H_46 (by first | assumption | omega) (by decide) (by decide) ?_
    refine k_iload_n d_H_waitsToSendTo_28 rfl ?_
    refine k_icmp_ne d_H_waitsToSendTo_29 (fun h29 => ?_) (fun h29 => ?_)
    · refine k_iconst (v := 0) d_H_waitsToSendTo_36 (by decide) ?_
      exact k_zret d_H_waitsToSendTo_37 rfl (by first | rfl | exact nb_bI _) (by first | rfl | (simp [cWaitsTo, bI] <;> done) | (simp [cWaitsTo, bI, *] <;> done)) (by first | rfl | (simp [cWaitsTo, bI] <;> done) | (simp [cWaitsTo, bI, *] <;> done))
    · refine k_iconst (v := 1) d_H_waitsToSendTo_32 (by decide) ?_
      refine k_goto d_H_waitsToSendTo_33 ?_
      exact k_zret d_H_waitsToSendTo_37 rfl (by first | rfl | exact nb_bI _) (by first | rfl | (simp [cWaitsTo, bI] <;> done) | (simp [cWaitsTo, bI, *] <;> done)) (by first | rfl | (simp [cWaitsTo, bI] <;> done) | (simp [cWaitsTo, bI, *] <;> done))
  · refine k_aload_n d_H_waitsToSendTo_8 rfl ?_
    refine cT_get d_H_waitsToSendTo_9 f_H_15 (by first | assumption | omega) (by decide) (by decide) ?_
    refine k_iconst (v := 3) d_H_waitsToSendTo_12 (by decide) ?_
    refine k_icmp_eq d_H_waitsToSendTo_13 (fun h13 => ?_) (fun h13 => ?_)
    · refine k_aload_n d_H_waitsToSendTo_24 rfl ?_
      refine cT_get d_H_waitsToSendTo_25 f_H_46 (by first | assumption | omega) (by decide) (by decide) ?_
      refine k_iload_n d_H_waitsToSendTo_28 rfl ?_
      refine k_icmp_ne d_H_waitsToSendTo_29 (fun h29 => ?_) (fun h29 => ?_)
      · refine k_iconst (v := 0) d_H_waitsToSendTo_36 (by decide) ?_
        exact k_zret d_H_waitsToSendTo_37 rfl (by first | rfl | exact nb_bI _) (by first | rfl | (simp [cWaitsTo, bI] <;> done) | (simp [cWaitsTo, bI, *] <;> done)) (by first | rfl | (simp [cWaitsTo, bI] <;> done) | (simp [cWaitsTo, bI, *] <;> done))
      · refine k_iconst (v := 1) d_H_waitsToSendTo_32 (by decide) ?_
        refine k_goto d_H_waitsToSendTo_33 ?_
        exact k_zret d_H_waitsToSendTo_37 rfl (by first | rfl | exact nb_bI _) (by first | rfl | (simp [cWaitsTo, bI] <;> done) | (simp [cWaitsTo, bI, *] <;> done)) (by first | rfl | (simp [cWaitsTo, bI] <;> done) | (simp [cWaitsTo, bI, *] <;> done))
    · refine k_aload_n d_H_waitsToSendTo_16 rfl ?_
      refine cT_get d_H_waitsToSendTo_17 f_H_15 (by first | assumption | omega) (by decide) (by decide) ?_
      refine k_iconst (v := 4) d_H_waitsToSendTo_20 (by decide) ?_
      refine k_icmp_ne d_H_waitsToSendTo_21 (fun h21 => ?_) (fun h21 => ?_)
      · refine k_iconst (v := 0) d_H_waitsToSendTo_36 (by decide) ?_
        exact k_zret d_H_waitsToSendTo_37 rfl (by first | rfl | exact nb_bI _) (by first | rfl | (simp [cWaitsTo, bI] <;> done) | (simp [cWaitsTo, bI, *] <;> done)) (by first | rfl | (simp [cWaitsTo, bI] <;> done) | (simp [cWaitsTo, bI, *] <;> done))
      · refine k_aload_n d_H_waitsToSendTo_24 rfl ?_
        refine cT_get d_H_waitsToSendTo_25 f_H_46 (by first | assumption | omega) (by decide) (by decide) ?_
        refine k_iload_n d_H_waitsToSendTo_28 rfl ?_
        refine k_icmp_ne d_H_waitsToSendTo_29 (fun h29 => ?_) (fun h29 => ?_)
        · refine k_iconst (v := 0) d_H_waitsToSendTo_36 (by decide) ?_
          exact k_zret d_H_waitsToSendTo_37 rfl (by first | rfl | exact nb_bI _) (by first | rfl | (simp [cWaitsTo, bI] <;> done) | (simp [cWaitsTo, bI, *] <;> done)) (by first | rfl | (simp [cWaitsTo, bI] <;> done) | (simp [cWaitsTo, bI, *] <;> done))
        · refine k_iconst (v := 1) d_H_waitsToSendTo_32 (by decide) ?_
          refine k_goto d_H_waitsToSendTo_33 ?_
          exact k_zret d_H_waitsToSendTo_37 rfl (by first | rfl | exact nb_bI _) (by first | rfl | (simp [cWaitsTo, bI] <;> done) | (simp [cWaitsTo, bI, *] <;> done)) (by first | rfl | (simp [cWaitsTo, bI] <;> done) | (simp [cWaitsTo, bI, *] <;> done))

set_option maxRecDepth 4000 in
theorem c_H_receivesFrom {l : Launch} {D : va_G} {cI cB cT : ClassId} {ad : Nat → Nat} {d : Nat} {u : kSt} {i : Nat} {t : Int32} (hi : i < 8) : KSp (kWl lyC l D cI cB cT ad) y_H_receivesFrom m_H_receivesFrom d [.ref (8 + i), .int t] u (some (.int (bI (cRecv u i t)))) u := by
  refine KSp.of (by decide) rfl (Nat.le_of_ble_eq_true rfl) rfl ?_
  show KAt (kWl lyC l D cI cB cT ad) m_H_receivesFrom d 0 [some (.ref (8 + i)), some (.int t)] [] u (some (.int (bI (cRecv u i t)))) u
  refine k_aload_n d_H_receivesFrom_0 rfl ?_
  refine cT_get d_H_receivesFrom_1 f_H_15 (by first | assumption | omega) (by decide) (by decide) ?_
  refine k_iconst (v := 2) d_H_receivesFrom_4 (by decide) ?_
  refine k_icmp_ne d_H_receivesFrom_5 (fun h5 => ?_) (fun h5 => ?_)
  · refine k_iconst (v := 0) d_H_receivesFrom_28 (by decide) ?_
    exact k_zret d_H_receivesFrom_29 rfl (by first | rfl | exact nb_bI _) (by first | rfl | (simp [cRecv, bI] <;> done) | (simp [cRecv, bI, *] <;> done)) (by first | rfl | (simp [cRecv, bI] <;> done) | (simp [cRecv, bI, *] <;> done))
  · refine k_aload_n d_H_receivesFrom_8 rfl ?_
    refine cT_get d_H_receivesFrom_9 f_H_46 (by first | assumption | omega) (by decide) (by decide) ?_
    refine k_iconst (v := (-1)) d_H_receivesFrom_12 (by decide) ?_
    refine k_icmp_eq d_H_receivesFrom_13 (fun h13 => ?_) (fun h13 => ?_)
    · refine k_iconst (v := 1) d_H_receivesFrom_24 (by decide) ?_
      refine k_goto d_H_receivesFrom_25 ?_
      exact k_zret d_H_receivesFrom_29 rfl (by first | rfl | exact nb_bI _) (by first | rfl | (simp [cRecv, bI] <;> done) | (simp [cRecv, bI, *] <;> done)) (by first | rfl | (simp [cRecv, bI] <;> done) | (simp [cRecv, bI, *] <;> done))
    · refine k_aload_n d_H_receivesFrom_16 rfl ?_
      refine cT_get d_H_receivesFrom_17 f_H_46 (by first | assumption | omega) (by decide) (by decide) ?_
      refine k_iload_n d_H_receivesFrom_20 rfl ?_
      refine k_icmp_ne d_H_receivesFrom_21 (fun h21 => ?_) (fun h21 => ?_)
      · refine k_iconst (v := 0) d_H_receivesFrom_28 (by decide) ?_
        exact k_zret d_H_receivesFrom_29 rfl (by first | rfl | exact nb_bI _) (by first | rfl | (simp [cRecv, bI] <;> done) | (simp [cRecv, bI, *] <;> done)) (by first | rfl | (simp [cRecv, bI] <;> done) | (simp [cRecv, bI, *] <;> done))
      · refine k_iconst (v := 1) d_H_receivesFrom_24 (by decide) ?_
        refine k_goto d_H_receivesFrom_25 ?_
        exact k_zret d_H_receivesFrom_29 rfl (by first | rfl | exact nb_bI _) (by first | rfl | (simp [cRecv, bI] <;> done) | (simp [cRecv, bI, *] <;> done)) (by first | rfl | (simp [cRecv, bI] <;> done) | (simp [cRecv, bI, *] <;> done))

set_option maxRecDepth 4000 in
theorem c_H_takesFrom {l : Launch} {D : va_G} {cI cB cT : ClassId} {ad : Nat → Nat} {d : Nat} {u : kSt} {i : Nat} {t : Int32} (hi : i < 8) : KSp (kWl lyC l D cI cB cT ad) y_H_takesFrom m_H_takesFrom (d + 1) [.ref (8 + i), .int t] u (some (.int (bI (cTakes u i t)))) u := by
  refine KSp.of (by decide) rfl (Nat.le_of_ble_eq_true rfl) rfl ?_
  show KAt (kWl lyC l D cI cB cT ad) m_H_takesFrom (d + 1) 0 [some (.ref (8 + i)), some (.int t)] [] u (some (.int (bI (cTakes u i t)))) u
  refine k_aload_n d_H_takesFrom_0 rfl ?_
  refine k_iload_n d_H_takesFrom_1 rfl ?_
  refine k_virt1s d_H_takesFrom_2 l_H_60 g_H_receivesFrom (c_H_receivesFrom hi) (rcvT (by first | assumption | omega)) (Nat.le_of_ble_eq_true rfl) ?_
  refine k_if_neB d_H_takesFrom_5 (fun h5 => ?_) (fun h5 => ?_)
  · refine k_iconst (v := 1) d_H_takesFrom_24 (by decide) ?_
    refine k_goto d_H_takesFrom_25 ?_
    exact k_zret d_H_takesFrom_29 rfl (by first | rfl | exact nb_bI _) (by first | rfl | (simp [cTakes, bI] <;> done) | (simp [cTakes, bI, *] <;> done)) (by first | rfl | (simp [cTakes, bI] <;> done) | (simp [cTakes, bI, *] <;> done))
  · refine k_aload_n d_H_takesFrom_8 rfl ?_
    refine cT_get d_H_takesFrom_9 f_H_15 (by first | assumption | omega) (by decide) (by decide) ?_
    refine k_iconst (v := 5) d_H_takesFrom_12 (by decide) ?_
    refine k_icmp_ne d_H_takesFrom_13 (fun h13 => ?_) (fun h13 => ?_)
    · refine k_iconst (v := 0) d_H_takesFrom_28 (by decide) ?_
      exact k_zret d_H_takesFrom_29 rfl (by first | rfl | exact nb_bI _) (by first | rfl | (simp [cTakes, bI] <;> done) | (simp [cTakes, bI, *] <;> done)) (by first | rfl | (simp [cTakes, bI] <;> done) | (simp [cTakes, bI, *] <;> done))
    · refine k_aload_n d_H_takesFrom_16 rfl ?_
      refine cT_get d_H_takesFrom_17 f_H_46 (by first | assumption | omega) (by decide) (by decide) ?_
      refine k_iload_n d_H_takesFrom_20 rfl ?_
      refine k_icmp_ne d_H_takesFrom_21 (fun h21 => ?_) (fun h21 => ?_)
      · refine k_iconst (v := 0) d_H_takesFrom_28 (by decide) ?_
        exact k_zret d_H_takesFrom_29 rfl (by first | rfl | exact nb_bI _) (by first | rfl | (simp [cTakes, bI] <;> done) | (simp [cTakes, bI, *] <;> done)) (by first | rfl | (simp [cTakes, bI] <;> done) | (simp [cTakes, bI, *] <;> done))
      · refine k_iconst (v := 1) d_H_takesFrom_24 (by decide) ?_
        refine k_goto d_H_takesFrom_25 ?_
        exact k_zret d_H_takesFrom_29 rfl (by first | rfl | exact nb_bI _) (by first | rfl | (simp [cTakes, bI] <;> done) | (simp [cTakes, bI, *] <;> done)) (by first | rfl | (simp [cTakes, bI] <;> done) | (simp [cTakes, bI, *] <;> done))

theorem c_H_begin_loop {l : Launch} {D : va_G} {cI cB cT : ClassId} {ad : Nat → Nat} {d : Nat} {u : kSt} {i : Nat} {sp pg : Int32} (hi : i < 8) : ∀ (n k : Nat), k + n = 4 → KAt (kWl lyC l D cI cB cT ad) m_H_begin d 2 [some (.ref (8 + i)), some (.int sp), some (.int pg), some (.int (nI k))] [] (cClear u i k) none (cBegin u i sp pg) := by
  intro n
  induction n with
  | zero =>
    intro k hk
    obtain rfl : k = 4 := by omega
    refine k_iload_n d_H_begin_2 rfl ?_
    refine k_iconst (v := 4) d_H_begin_3 (by decide) ?_
    refine k_icmp_ge d_H_begin_4 (fun h4 => ?_) (fun h4 => absurd h4 (fun z => z (by decide)))
    refine k_aload_n d_H_begin_20 rfl ?_
    refine k_iconst (v := 0) d_H_begin_21 (by decide) ?_
    refine cT_put d_H_begin_22 p_H_15 (by first | assumption | omega) (by decide) (by decide) rfl rfl ?_
    refine k_aload_n d_H_begin_25 rfl ?_
    refine k_iload_n d_H_begin_26 rfl ?_
    refine cT_put d_H_begin_27 p_H_22 (by first | assumption | omega) (by decide) (by decide) rfl rfl ?_
    refine k_aload_n d_H_begin_30 rfl ?_
    refine k_iload_n d_H_begin_31 rfl ?_
    refine cT_put d_H_begin_32 p_H_25 (by first | assumption | omega) (by decide) (by decide) rfl rfl ?_
    refine k_aload_n d_H_begin_35 rfl ?_
    refine k_iconst (v := (-1)) d_H_begin_36 (by decide) ?_
    refine cT_put d_H_begin_37 p_H_28 (by first | assumption | omega) (by decide) (by decide) rfl rfl ?_
    refine k_aload_n d_H_begin_40 rfl ?_
    refine k_iconst (v := (-1)) d_H_begin_41 (by decide) ?_
    refine cT_put d_H_begin_42 p_H_31 (by first | assumption | omega) (by decide) (by decide) rfl rfl ?_
    refine k_aload_n d_H_begin_45 rfl ?_
    refine k_iconst (v := 0) d_H_begin_46 (by decide) ?_
    refine cT_put d_H_begin_47 p_H_34 (by first | assumption | omega) (by decide) (by decide) rfl rfl ?_
    refine k_aload_n d_H_begin_50 rfl ?_
    refine k_iconst (v := (-1)) d_H_begin_51 (by decide) ?_
    refine cT_put d_H_begin_52 p_H_37 (by first | assumption | omega) (by decide) (by decide) rfl rfl ?_
    refine k_aload_n d_H_begin_55 rfl ?_
    refine k_iconst (v := 0) d_H_begin_56 (by decide) ?_
    refine cT_put d_H_begin_57 p_H_40 (by first | assumption | omega) (by decide) (by decide) rfl rfl ?_
    refine k_aload_n d_H_begin_60 rfl ?_
    refine k_iconst (v := 0) d_H_begin_61 (by decide) ?_
    refine cT_put d_H_begin_62 p_H_43 (by first | assumption | omega) (by decide) (by decide) rfl rfl ?_
    exact k_vret d_H_begin_65 rfl rfl (by first | rfl | (simp [cBegin] <;> done) | (simp [cBegin, *] <;> done))
  | succ n ih =>
    intro k hk
    refine k_iload_n d_H_begin_2 rfl ?_
    refine k_iconst (v := 4) d_H_begin_3 (by decide) ?_
    refine k_icmp_ge d_H_begin_4 (fun h4 => absurd h4 (nI_ge (a := k) (b := 4) (by omega) (by decide))) (fun h4 => ?_)
    refine k_aload_n d_H_begin_7 rfl ?_
    refine cT_reg d_H_begin_8 f_H_9 (by first | assumption | omega) ?_
    refine k_iload_n d_H_begin_11 rfl ?_
    refine k_iconst (v := 0) d_H_begin_12 (by decide) ?_
    refine cR_ast d_H_begin_13 (by first | assumption | omega) (by first | assumption | (unfold vp_in; decide) | exact vin (by assumption) (by assumption) | exact vin_n (by assumption) | exact vin_n (by omega)) ?_
    rw [ix_nI (n := k) (by omega)]
    refine k_incN d_H_begin_14 rfl (by decide) ?_
    refine k_goto d_H_begin_17 ?_
    exact ih (k + 1) (by omega)

set_option maxRecDepth 4000 in
theorem c_H_begin {l : Launch} {D : va_G} {cI cB cT : ClassId} {ad : Nat → Nat} {d : Nat} {u : kSt} {i : Nat} {sp pg : Int32} (hi : i < 8) : KSp (kWl lyC l D cI cB cT ad) y_H_begin m_H_begin d [.ref (8 + i), .int sp, .int pg] u none (cBegin u i sp pg) := by
  refine KSp.of (by decide) rfl (Nat.le_of_ble_eq_true rfl) rfl ?_
  show KAt (kWl lyC l D cI cB cT ad) m_H_begin d 0 [some (.ref (8 + i)), some (.int sp), some (.int pg), none] [] u none (cBegin u i sp pg)
  refine k_iconst (v := 0) d_H_begin_0 (by decide) ?_
  refine k_istore_n d_H_begin_1 (by decide) ?_
  exact c_H_begin_loop hi 4 0 rfl

theorem c_H_outlive_2 {l : Launch} {D : va_G} {cI cB cT : ClassId} {ad : Nat → Nat} {d : Nat} {u : kSt} {i : Nat} {t : Int32} (hi : i < 8) : KAt (kWl lyC l D cI cB cT ad) m_H_outlive d 20 [some (.ref (8 + i)), some (.int t)] [] u none (cOut2 u i t) := by
  refine k_aload_n d_H_outlive_20 rfl ?_
  refine cT_get d_H_outlive_21 f_H_25 (by first | assumption | omega) (by decide) (by decide) ?_
  refine k_iload_n d_H_outlive_24 rfl ?_
  refine k_icmp_ne d_H_outlive_25 (fun h25 => ?_) (fun h25 => ?_)
  · exact k_vret d_H_outlive_55 rfl rfl (by simp [cOut2, kup] at * <;> simp [*])
  · refine k_aload_n d_H_outlive_28 rfl ?_
    refine k_iconst (v := (-1)) d_H_outlive_29 (by decide) ?_
    refine cT_put d_H_outlive_30 p_H_25 (by first | assumption | omega) (by decide) (by decide) rfl rfl ?_
    refine k_aload_n d_H_outlive_33 rfl ?_
    refine cT_get d_H_outlive_34 f_H_15 (by first | assumption | omega) (by decide) (by decide) ?_
    refine k_iconst (v := 4) d_H_outlive_37 (by decide) ?_
    refine k_icmp_eq d_H_outlive_38 (fun h38 => ?_) (fun h38 => ?_)
    · refine k_aload_n d_H_outlive_49 rfl ?_
      refine k_bipush (v := 6) d_H_outlive_50 (by decide) ?_
      refine cT_put d_H_outlive_52 p_H_15 (by first | assumption | omega) (by decide) (by decide) rfl rfl ?_
      exact k_vret d_H_outlive_55 rfl rfl (by simp [cOut2, kup] at * <;> simp [*])
    · refine k_aload_n d_H_outlive_41 rfl ?_
      refine cT_get d_H_outlive_42 f_H_15 (by first | assumption | omega) (by decide) (by decide) ?_
      refine k_iconst (v := 5) d_H_outlive_45 (by decide) ?_
      refine k_icmp_ne d_H_outlive_46 (fun h46 => ?_) (fun h46 => ?_)
      · exact k_vret d_H_outlive_55 rfl rfl (by simp [cOut2, kup] at * <;> simp [*])
      · refine k_aload_n d_H_outlive_49 rfl ?_
        refine k_bipush (v := 6) d_H_outlive_50 (by decide) ?_
        refine cT_put d_H_outlive_52 p_H_15 (by first | assumption | omega) (by decide) (by decide) rfl rfl ?_
        exact k_vret d_H_outlive_55 rfl rfl (by simp [cOut2, kup] at * <;> simp [*])

set_option maxRecDepth 4000 in
theorem c_H_outlive {l : Launch} {D : va_G} {cI cB cT : ClassId} {ad : Nat → Nat} {d : Nat} {u : kSt} {i : Nat} {t : Int32} (hi : i < 8) : KSp (kWl lyC l D cI cB cT ad) y_H_outlive m_H_outlive (d + 1) [.ref (8 + i), .int t] u none (cOutlive u i t) := by
  refine KSp.of (by decide) rfl (Nat.le_of_ble_eq_true rfl) rfl ?_
  show KAt (kWl lyC l D cI cB cT ad) m_H_outlive (d + 1) 0 [some (.ref (8 + i)), some (.int t)] [] u none (cOutlive u i t)
  refine k_aload_n d_H_outlive_0 rfl ?_
  refine k_virt0s d_H_outlive_1 l_H_52 g_H_waitsForThread (c_H_waitsForThread hi) (rcvT (by first | assumption | omega)) (Nat.le_of_ble_eq_true rfl) ?_
  refine k_if_eqB d_H_outlive_4 (fun h4 => ?_) (fun h4 => ?_)
  · exact (c_H_outlive_2 hi).to rfl (by simp [cOutlive, cOut1, *])
  · refine k_aload_n d_H_outlive_7 rfl ?_
    refine cT_get d_H_outlive_8 f_H_46 (by first | assumption | omega) (by decide) (by decide) ?_
    refine k_iload_n d_H_outlive_11 rfl ?_
    refine k_icmp_ne d_H_outlive_12 (fun h12 => ?_) (fun h12 => ?_)
    · exact (c_H_outlive_2 hi).to rfl (by simp [cOutlive, cOut1, *])
    · refine k_aload_n d_H_outlive_15 rfl ?_
      refine k_iconst (v := 2) d_H_outlive_16 (by decide) ?_
      refine k_virt1v d_H_outlive_17 l_H_56 g_H_run (c_H_run hi) (rcvT (by first | assumption | omega)) (Nat.le_of_ble_eq_true rfl) ?_
      exact (c_H_outlive_2 hi).to rfl (by simp [cOutlive, cOut1, *])

end KCH
