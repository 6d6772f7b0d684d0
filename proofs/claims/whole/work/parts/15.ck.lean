section KCK
set_option maxRecDepth 4000 in
theorem c_K_isSpace {l : Launch} {D : va_G} {cI cB cT : ClassId} {ad : Nat → Nat} {d : Nat} {u : kSt} {n : Int32} : KSp (kWl lyC l D cI cB cT ad) y_K_isSpace m_K_isSpace d [.int n] u (some (.int (bI (cIsSpace n)))) u := by
  refine KSp.of (by decide) rfl (Nat.le_of_ble_eq_true rfl) rfl ?_
  show KAt (kWl lyC l D cI cB cT ad) m_K_isSpace d 0 [some (.int n)] [] u (some (.int (bI (cIsSpace n)))) u
  refine k_iload_n d_K_isSpace_0 rfl ?_
  refine k_if_lt d_K_isSpace_1 (fun h1 => ?_) (fun h1 => ?_)
  · refine k_iconst (v := 0) d_K_isSpace_14 (by decide) ?_
    exact k_zret d_K_isSpace_15 rfl (by first | rfl | exact nb_bI _) (by first | rfl | (simp [cIsSpace, bI] <;> done) | (simp [cIsSpace, bI, *] <;> done)) (by first | rfl | (simp [cIsSpace, bI] <;> done) | (simp [cIsSpace, bI, *] <;> done))
  · refine k_iload_n d_K_isSpace_4 rfl ?_
    refine k_bipush (v := 6) d_K_isSpace_5 (by decide) ?_
    refine k_icmp_ge d_K_isSpace_7 (fun h7 => ?_) (fun h7 => ?_)
    · refine k_iconst (v := 0) d_K_isSpace_14 (by decide) ?_
      exact k_zret d_K_isSpace_15 rfl (by first | rfl | exact nb_bI _) (by first | rfl | (simp [cIsSpace, bI] <;> done) | (simp [cIsSpace, bI, *] <;> done)) (by first | rfl | (simp [cIsSpace, bI] <;> done) | (simp [cIsSpace, bI, *] <;> done))
    · refine k_iconst (v := 1) d_K_isSpace_10 (by decide) ?_
      refine k_goto d_K_isSpace_11 ?_
      exact k_zret d_K_isSpace_15 rfl (by first | rfl | exact nb_bI _) (by first | rfl | (simp [cIsSpace, bI] <;> done) | (simp [cIsSpace, bI, *] <;> done)) (by first | rfl | (simp [cIsSpace, bI] <;> done) | (simp [cIsSpace, bI, *] <;> done))

set_option maxRecDepth 4000 in
theorem c_K_isPage {l : Launch} {D : va_G} {cI cB cT : ClassId} {ad : Nat → Nat} {d : Nat} {u : kSt} {n : Int32} : KSp (kWl lyC l D cI cB cT ad) y_K_isPage m_K_isPage d [.int n] u (some (.int (bI (cIsPage n)))) u := by
  refine KSp.of (by decide) rfl (Nat.le_of_ble_eq_true rfl) rfl ?_
  show KAt (kWl lyC l D cI cB cT ad) m_K_isPage d 0 [some (.int n)] [] u (some (.int (bI (cIsPage n)))) u
  refine k_iload_n d_K_isPage_0 rfl ?_
  refine k_if_lt d_K_isPage_1 (fun h1 => ?_) (fun h1 => ?_)
  · refine k_iconst (v := 0) d_K_isPage_14 (by decide) ?_
    exact k_zret d_K_isPage_15 rfl (by first | rfl | exact nb_bI _) (by first | rfl | (simp [cIsPage, bI] <;> done) | (simp [cIsPage, bI, *] <;> done)) (by first | rfl | (simp [cIsPage, bI] <;> done) | (simp [cIsPage, bI, *] <;> done))
  · refine k_iload_n d_K_isPage_4 rfl ?_
    refine k_bipush (v := 16) d_K_isPage_5 (by decide) ?_
    refine k_icmp_ge d_K_isPage_7 (fun h7 => ?_) (fun h7 => ?_)
    · refine k_iconst (v := 0) d_K_isPage_14 (by decide) ?_
      exact k_zret d_K_isPage_15 rfl (by first | rfl | exact nb_bI _) (by first | rfl | (simp [cIsPage, bI] <;> done) | (simp [cIsPage, bI, *] <;> done)) (by first | rfl | (simp [cIsPage, bI] <;> done) | (simp [cIsPage, bI, *] <;> done))
    · refine k_iconst (v := 1) d_K_isPage_10 (by decide) ?_
      refine k_goto d_K_isPage_11 ?_
      exact k_zret d_K_isPage_15 rfl (by first | rfl | exact nb_bI _) (by first | rfl | (simp [cIsPage, bI] <;> done) | (simp [cIsPage, bI, *] <;> done)) (by first | rfl | (simp [cIsPage, bI] <;> done) | (simp [cIsPage, bI, *] <;> done))

set_option maxRecDepth 4000 in
theorem c_K_isLevel {l : Launch} {D : va_G} {cI cB cT : ClassId} {ad : Nat → Nat} {d : Nat} {u : kSt} {n : Int32} : KSp (kWl lyC l D cI cB cT ad) y_K_isLevel m_K_isLevel d [.int n] u (some (.int (bI (cIsLevel n)))) u := by
  refine KSp.of (by decide) rfl (Nat.le_of_ble_eq_true rfl) rfl ?_
  show KAt (kWl lyC l D cI cB cT ad) m_K_isLevel d 0 [some (.int n)] [] u (some (.int (bI (cIsLevel n)))) u
  refine k_iload_n d_K_isLevel_0 rfl ?_
  refine k_iconst (v := 1) d_K_isLevel_1 (by decide) ?_
  refine k_icmp_eq d_K_isLevel_2 (fun h2 => ?_) (fun h2 => ?_)
  · refine k_iconst (v := 1) d_K_isLevel_10 (by decide) ?_
    refine k_goto d_K_isLevel_11 ?_
    exact k_zret d_K_isLevel_15 rfl (by first | rfl | exact nb_bI _) (by first | rfl | (simp [cIsLevel, bI] <;> done) | (simp [cIsLevel, bI, *] <;> done)) (by first | rfl | (simp [cIsLevel, bI] <;> done) | (simp [cIsLevel, bI, *] <;> done))
  · refine k_iload_n d_K_isLevel_5 rfl ?_
    refine k_iconst (v := 2) d_K_isLevel_6 (by decide) ?_
    refine k_icmp_ne d_K_isLevel_7 (fun h7 => ?_) (fun h7 => ?_)
    · refine k_iconst (v := 0) d_K_isLevel_14 (by decide) ?_
      exact k_zret d_K_isLevel_15 rfl (by first | rfl | exact nb_bI _) (by first | rfl | (simp [cIsLevel, bI] <;> done) | (simp [cIsLevel, bI, *] <;> done)) (by first | rfl | (simp [cIsLevel, bI] <;> done) | (simp [cIsLevel, bI, *] <;> done))
    · refine k_iconst (v := 1) d_K_isLevel_10 (by decide) ?_
      refine k_goto d_K_isLevel_11 ?_
      exact k_zret d_K_isLevel_15 rfl (by first | rfl | exact nb_bI _) (by first | rfl | (simp [cIsLevel, bI] <;> done) | (simp [cIsLevel, bI, *] <;> done)) (by first | rfl | (simp [cIsLevel, bI] <;> done) | (simp [cIsLevel, bI, *] <;> done))

set_option maxRecDepth 4000 in
theorem c_K_isLimit {l : Launch} {D : va_G} {cI cB cT : ClassId} {ad : Nat → Nat} {d : Nat} {u : kSt} {n : Int32} : KSp (kWl lyC l D cI cB cT ad) y_K_isLimit m_K_isLimit d [.int n] u (some (.int (bI (cIsLimit n)))) u := by
  refine KSp.of (by decide) rfl (Nat.le_of_ble_eq_true rfl) rfl ?_
  show KAt (kWl lyC l D cI cB cT ad) m_K_isLimit d 0 [some (.int n)] [] u (some (.int (bI (cIsLimit n)))) u
  refine k_iload_n d_K_isLimit_0 rfl ?_
  refine k_iconst (v := (-1)) d_K_isLimit_1 (by decide) ?_
  refine k_icmp_lt d_K_isLimit_2 (fun h2 => ?_) (fun h2 => ?_)
  · refine k_iconst (v := 0) d_K_isLimit_15 (by decide) ?_
    exact k_zret d_K_isLimit_16 rfl (by first | rfl | exact nb_bI _) (by first | rfl | (simp [cIsLimit, bI] <;> done) | (simp [cIsLimit, bI, *] <;> done)) (by first | rfl | (simp [cIsLimit, bI] <;> done) | (simp [cIsLimit, bI, *] <;> done))
  · refine k_iload_n d_K_isLimit_5 rfl ?_
    refine k_bipush (v := 100) d_K_isLimit_6 (by decide) ?_
    refine k_icmp_gt d_K_isLimit_8 (fun h8 => ?_) (fun h8 => ?_)
    · refine k_iconst (v := 0) d_K_isLimit_15 (by decide) ?_
      exact k_zret d_K_isLimit_16 rfl (by first | rfl | exact nb_bI _) (by first | rfl | (simp [cIsLimit, bI] <;> done) | (simp [cIsLimit, bI, *] <;> done)) (by first | rfl | (simp [cIsLimit, bI] <;> done) | (simp [cIsLimit, bI, *] <;> done))
    · refine k_iconst (v := 1) d_K_isLimit_11 (by decide) ?_
      refine k_goto d_K_isLimit_12 ?_
      exact k_zret d_K_isLimit_16 rfl (by first | rfl | exact nb_bI _) (by first | rfl | (simp [cIsLimit, bI] <;> done) | (simp [cIsLimit, bI, *] <;> done)) (by first | rfl | (simp [cIsLimit, bI] <;> done) | (simp [cIsLimit, bI, *] <;> done))

set_option maxRecDepth 4000 in
theorem c_K_isPageOrNone {l : Launch} {D : va_G} {cI cB cT : ClassId} {ad : Nat → Nat} {d : Nat} {u : kSt} {n : Int32} : KSp (kWl lyC l D cI cB cT ad) y_K_isPageOrNone m_K_isPageOrNone (d + 1) [.int n] u (some (.int (bI (cIsPageN n)))) u := by
  refine KSp.of (by decide) rfl (Nat.le_of_ble_eq_true rfl) rfl ?_
  show KAt (kWl lyC l D cI cB cT ad) m_K_isPageOrNone (d + 1) 0 [some (.int n)] [] u (some (.int (bI (cIsPageN n)))) u
  refine k_iload_n d_K_isPageOrNone_0 rfl ?_
  refine k_iconst (v := (-1)) d_K_isPageOrNone_1 (by decide) ?_
  refine k_icmp_eq d_K_isPageOrNone_2 (fun h2 => ?_) (fun h2 => ?_)
  · refine k_iconst (v := 1) d_K_isPageOrNone_12 (by decide) ?_
    refine k_goto d_K_isPageOrNone_13 ?_
    exact k_zret d_K_isPageOrNone_17 rfl (by first | rfl | exact nb_bI _) (by first | rfl | (simp [cIsPageN, bI] <;> done) | (simp [cIsPageN, bI, *] <;> done)) (by first | rfl | (simp [cIsPageN, bI] <;> done) | (simp [cIsPageN, bI, *] <;> done))
  · refine k_iload_n d_K_isPageOrNone_5 rfl ?_
    refine k_stat1s d_K_isPageOrNone_6 l_K_120 g_K_isPage c_K_isPage (Nat.le_of_ble_eq_true rfl) ?_
    refine k_if_eqB d_K_isPageOrNone_9 (fun h9 => ?_) (fun h9 => ?_)
    · refine k_iconst (v := 0) d_K_isPageOrNone_16 (by decide) ?_
      exact k_zret d_K_isPageOrNone_17 rfl (by first | rfl | exact nb_bI _) (by first | rfl | (simp [cIsPageN, bI] <;> done) | (simp [cIsPageN, bI, *] <;> done)) (by first | rfl | (simp [cIsPageN, bI] <;> done) | (simp [cIsPageN, bI, *] <;> done))
    · refine k_iconst (v := 1) d_K_isPageOrNone_12 (by decide) ?_
      refine k_goto d_K_isPageOrNone_13 ?_
      exact k_zret d_K_isPageOrNone_17 rfl (by first | rfl | exact nb_bI _) (by first | rfl | (simp [cIsPageN, bI] <;> done) | (simp [cIsPageN, bI, *] <;> done)) (by first | rfl | (simp [cIsPageN, bI] <;> done) | (simp [cIsPageN, bI, *] <;> done))

set_option maxRecDepth 4000 in
theorem c_K_slotOf {l : Launch} {D : va_G} {cI cB cT : ClassId} {ad : Nat → Nat} {d : Nat} {u : kSt} {a b : Int32} : KSp (kWl lyC l D cI cB cT ad) y_K_slotOf m_K_slotOf d [.int a, .int b] u (some (.int (a * 16 + b))) u := by
  refine KSp.of (by decide) rfl (Nat.le_of_ble_eq_true rfl) rfl ?_
  show KAt (kWl lyC l D cI cB cT ad) m_K_slotOf d 0 [some (.int a), some (.int b)] [] u (some (.int (a * 16 + b))) u
  refine k_iload_n d_K_slotOf_0 rfl ?_
  refine k_bipush (v := 16) d_K_slotOf_1 (by decide) ?_
  refine k_imul d_K_slotOf_3 ?_
  refine k_iload_n d_K_slotOf_4 rfl ?_
  refine k_iadd d_K_slotOf_5 ?_
  exact k_iret d_K_slotOf_6 rfl (by first | rfl | (simp [bI] <;> done) | (simp [bI, *] <;> done)) (by first | rfl | (simp [bI] <;> done) | (simp [bI, *] <;> done))

set_option maxRecDepth 4000 in
theorem c_K_deadline {l : Launch} {D : va_G} {cI cB cT : ClassId} {ad : Nat → Nat} {d : Nat} {u : kSt} {n : Int32} : KSp (kWl lyC l D cI cB cT ad) y_K_deadline m_K_deadline d [.ref 0, .int n] u (some (.int (cDeadline u n))) u := by
  refine KSp.of (by decide) rfl (Nat.le_of_ble_eq_true rfl) rfl ?_
  show KAt (kWl lyC l D cI cB cT ad) m_K_deadline d 0 [some (.ref 0), some (.int n)] [] u (some (.int (cDeadline u n))) u
  refine k_iload_n d_K_deadline_0 rfl ?_
  refine k_iconst (v := (-1)) d_K_deadline_1 (by decide) ?_
  refine k_icmp_ne d_K_deadline_2 (fun h2 => ?_) (fun h2 => ?_)
  · refine k_aload_n d_K_deadline_9 rfl ?_
    refine k_getf d_K_deadline_10 f_K_26 (by decide) rfl (by decide) (by decide) rfl ?_
    refine k_iload_n d_K_deadline_13 rfl ?_
    refine k_iadd d_K_deadline_14 ?_
    exact k_iret d_K_deadline_15 rfl (by first | rfl | (simp [cDeadline] <;> done) | (simp [cDeadline, *] <;> done)) (by first | rfl | (simp [cDeadline] <;> done) | (simp [cDeadline, *] <;> done))
  · refine k_iconst (v := (-1)) d_K_deadline_5 (by decide) ?_
    refine k_goto d_K_deadline_6 ?_
    exact k_iret d_K_deadline_15 rfl (by first | rfl | (simp [cDeadline] <;> done) | (simp [cDeadline, *] <;> done)) (by first | rfl | (simp [cDeadline] <;> done) | (simp [cDeadline, *] <;> done))

set_option maxRecDepth 4000 in
theorem c_K_isThread {l : Launch} {D : va_G} {cI cB cT : ClassId} {ad : Nat → Nat} {d : Nat} {u : kSt} {t : Int32} : KSp (kWl lyC l D cI cB cT ad) y_K_isThread m_K_isThread d [.ref 0, .int t] u (some (.int (bI (cIsThread u t)))) u := by
  refine KSp.of (by decide) rfl (Nat.le_of_ble_eq_true rfl) rfl ?_
  show KAt (kWl lyC l D cI cB cT ad) m_K_isThread d 0 [some (.ref 0), some (.int t)] [] u (some (.int (bI (cIsThread u t)))) u
  refine k_iload_n d_K_isThread_0 rfl ?_
  refine k_if_lt d_K_isThread_1 (fun h1 => ?_) (fun h1 => ?_)
  · refine k_iconst (v := 0) d_K_isThread_27 (by decide) ?_
    exact k_zret d_K_isThread_28 rfl (by first | rfl | exact nb_bI _) (by first | rfl | (simp [cIsThread, bI] <;> done) | (simp [cIsThread, bI, *] <;> done)) (by first | rfl | (simp [cIsThread, bI] <;> done) | (simp [cIsThread, bI, *] <;> done))
  · refine k_iload_n d_K_isThread_4 rfl ?_
    refine k_bipush (v := 8) d_K_isThread_5 (by decide) ?_
    refine k_icmp_ge d_K_isThread_7 (fun h7 => ?_) (fun h7 => ?_)
    · refine k_iconst (v := 0) d_K_isThread_27 (by decide) ?_
      exact k_zret d_K_isThread_28 rfl (by first | rfl | exact nb_bI _) (by first | rfl | (simp [cIsThread, bI] <;> done) | (simp [cIsThread, bI, *] <;> done)) (by first | rfl | (simp [cIsThread, bI] <;> done) | (simp [cIsThread, bI, *] <;> done))
    · refine k_aload_n d_K_isThread_10 rfl ?_
      refine k_getr (t := 1) d_K_isThread_11 f_K_11 (by decide) rfl (by decide) (by decide) rfl ?_
      refine k_iload_n d_K_isThread_14 rfl ?_
      refine cA_ald d_K_isThread_15 (by first | assumption | (unfold vp_in; decide) | exact vin (by assumption) (by assumption) | exact vin_n (by assumption) | exact vin_n (by omega)) (fun hi15 => ?_)
      refine cT_get d_K_isThread_16 f_K_51 (by first | assumption | omega) (by decide) (by decide) ?_
      refine k_iconst (v := (-1)) d_K_isThread_19 (by decide) ?_
      refine k_icmp_eq d_K_isThread_20 (fun h20 => ?_) (fun h20 => ?_)
      · refine k_iconst (v := 0) d_K_isThread_27 (by decide) ?_
        exact k_zret d_K_isThread_28 rfl (by first | rfl | exact nb_bI _) (by first | rfl | (simp [cIsThread, bI] <;> done) | (simp [cIsThread, bI, *] <;> done)) (by first | rfl | (simp [cIsThread, bI] <;> done) | (simp [cIsThread, bI, *] <;> done))
      · refine k_iconst (v := 1) d_K_isThread_23 (by decide) ?_
        refine k_goto d_K_isThread_24 ?_
        exact k_zret d_K_isThread_28 rfl (by first | rfl | exact nb_bI _) (by first | rfl | (simp [cIsThread, bI] <;> done) | (simp [cIsThread, bI, *] <;> done)) (by first | rfl | (simp [cIsThread, bI] <;> done) | (simp [cIsThread, bI, *] <;> done))

set_option maxRecDepth 4000 in
theorem c_K_isRunning {l : Launch} {D : va_G} {cI cB cT : ClassId} {ad : Nat → Nat} {d : Nat} {u : kSt} {t : Int32} : KSp (kWl lyC l D cI cB cT ad) y_K_isRunning m_K_isRunning (d + 1) [.ref 0, .int t] u (some (.int (bI (cIsRun u t)))) u := by
  refine KSp.of (by decide) rfl (Nat.le_of_ble_eq_true rfl) rfl ?_
  show KAt (kWl lyC l D cI cB cT ad) m_K_isRunning (d + 1) 0 [some (.ref 0), some (.int t)] [] u (some (.int (bI (cIsRun u t)))) u
  refine k_aload_n d_K_isRunning_0 rfl ?_
  refine k_iload_n d_K_isRunning_1 rfl ?_
  refine k_virt1s d_K_isRunning_2 l_K_44 g_K_isThread c_K_isThread rcvK (Nat.le_of_ble_eq_true rfl) ?_
  refine k_if_eqB d_K_isRunning_5 (fun h5 => ?_) (fun h5 => ?_)
  · refine k_iconst (v := 0) d_K_isRunning_24 (by decide) ?_
    exact k_zret d_K_isRunning_25 rfl (by first | rfl | exact nb_bI _) (by first | rfl | (simp [cIsRun, bI] <;> done) | (simp [cIsRun, bI, *] <;> done)) (by first | rfl | (simp [cIsRun, bI] <;> done) | (simp [cIsRun, bI, *] <;> done))
  · refine k_aload_n d_K_isRunning_8 rfl ?_
    refine k_getr (t := 1) d_K_isRunning_9 f_K_11 (by decide) rfl (by decide) (by decide) rfl ?_
    refine k_iload_n d_K_isRunning_12 rfl ?_
    refine cA_ald d_K_isRunning_13 (cIsThread_in h5) (fun hi13 => ?_)
    refine cT_get d_K_isRunning_14 f_K_51 (by first | assumption | omega) (by decide) (by decide) ?_
    refine k_if_ne d_K_isRunning_17 (fun h17 => ?_) (fun h17 => ?_)
    · refine k_iconst (v := 0) d_K_isRunning_24 (by decide) ?_
      exact k_zret d_K_isRunning_25 rfl (by first | rfl | exact nb_bI _) (by first | rfl | (simp [cIsRun, bI] <;> done) | (simp [cIsRun, bI, *] <;> done)) (by first | rfl | (simp [cIsRun, bI] <;> done) | (simp [cIsRun, bI, *] <;> done))
    · refine k_iconst (v := 1) d_K_isRunning_20 (by decide) ?_
      refine k_goto d_K_isRunning_21 ?_
      exact k_zret d_K_isRunning_25 rfl (by first | rfl | exact nb_bI _) (by first | rfl | (simp [cIsRun, bI] <;> done) | (simp [cIsRun, bI, *] <;> done)) (by first | rfl | (simp [cIsRun, bI] <;> done) | (simp [cIsRun, bI, *] <;> done))

set_option maxRecDepth 4000 in
theorem c_K_maySend {l : Launch} {D : va_G} {cI cB cT : ClassId} {ad : Nat → Nat} {d : Nat} {u : kSt} {t o n : Int32} : KSp (kWl lyC l D cI cB cT ad) y_K_maySend m_K_maySend (d + 2) [.ref 0, .int t, .int o, .int n] u (some (.int (bI (cMaySend u t o n)))) u := by
  refine KSp.of (by decide) rfl (Nat.le_of_ble_eq_true rfl) rfl ?_
  show KAt (kWl lyC l D cI cB cT ad) m_K_maySend (d + 2) 0 [some (.ref 0), some (.int t), some (.int o), some (.int n)] [] u (some (.int (bI (cMaySend u t o n)))) u
  refine k_aload_n d_K_maySend_0 rfl ?_
  refine k_iload_n d_K_maySend_1 rfl ?_
  refine k_virt1s d_K_maySend_2 l_K_57 g_K_isRunning c_K_isRunning rcvK (Nat.le_of_ble_eq_true rfl) ?_
  refine k_if_eqB d_K_maySend_5 (fun h5 => ?_) (fun h5 => ?_)
  · refine k_iconst (v := 0) d_K_maySend_32 (by decide) ?_
    exact k_zret d_K_maySend_33 rfl (by first | rfl | exact nb_bI _) (by first | rfl | (simp [cMaySend, bI] <;> done) | (simp [cMaySend, bI, *] <;> done)) (by first | rfl | (simp [cMaySend, bI] <;> done) | (simp [cMaySend, bI, *] <;> done))
  · refine k_iload_n d_K_maySend_8 rfl ?_
    refine k_iload_n d_K_maySend_9 rfl ?_
    refine k_icmp_eq d_K_maySend_10 (fun h10 => ?_) (fun h10 => ?_)
    · refine k_iconst (v := 0) d_K_maySend_32 (by decide) ?_
      exact k_zret d_K_maySend_33 rfl (by first | rfl | exact nb_bI _) (by first | rfl | (simp [cMaySend, bI] <;> done) | (simp [cMaySend, bI, *] <;> done)) (by first | rfl | (simp [cMaySend, bI] <;> done) | (simp [cMaySend, bI, *] <;> done))
    · refine k_aload_n d_K_maySend_13 rfl ?_
      refine k_iload_n d_K_maySend_14 rfl ?_
      refine k_virt1s d_K_maySend_15 l_K_44 g_K_isThread c_K_isThread rcvK (Nat.le_of_ble_eq_true rfl) ?_
      refine k_if_eqB d_K_maySend_18 (fun h18 => ?_) (fun h18 => ?_)
      · refine k_iconst (v := 0) d_K_maySend_32 (by decide) ?_
        exact k_zret d_K_maySend_33 rfl (by first | rfl | exact nb_bI _) (by first | rfl | (simp [cMaySend, bI] <;> done) | (simp [cMaySend, bI, *] <;> done)) (by first | rfl | (simp [cMaySend, bI] <;> done) | (simp [cMaySend, bI, *] <;> done))
      · refine k_iload_n d_K_maySend_21 rfl ?_
        refine k_stat1s d_K_maySend_22 l_K_97 g_K_isLimit c_K_isLimit (Nat.le_of_ble_eq_true rfl) ?_
        refine k_if_eqB d_K_maySend_25 (fun h25 => ?_) (fun h25 => ?_)
        · refine k_iconst (v := 0) d_K_maySend_32 (by decide) ?_
          exact k_zret d_K_maySend_33 rfl (by first | rfl | exact nb_bI _) (by first | rfl | (simp [cMaySend, bI] <;> done) | (simp [cMaySend, bI, *] <;> done)) (by first | rfl | (simp [cMaySend, bI] <;> done) | (simp [cMaySend, bI, *] <;> done))
        · refine k_iconst (v := 1) d_K_maySend_28 (by decide) ?_
          refine k_goto d_K_maySend_29 ?_
          exact k_zret d_K_maySend_33 rfl (by first | rfl | exact nb_bI _) (by first | rfl | (simp [cMaySend, bI] <;> done) | (simp [cMaySend, bI, *] <;> done)) (by first | rfl | (simp [cMaySend, bI] <;> done) | (simp [cMaySend, bI, *] <;> done))

set_option maxRecDepth 4000 in
theorem c_K_state {l : Launch} {D : va_G} {cI cB cT : ClassId} {ad : Nat → Nat} {d : Nat} {u : kSt} {t : Int32} : KSp (kWl lyC l D cI cB cT ad) y_K_state m_K_state (d + 1) [.ref 0, .int t] u (some (.int (cState u t))) u := by
  refine KSp.of (by decide) rfl (Nat.le_of_ble_eq_true rfl) rfl ?_
  show KAt (kWl lyC l D cI cB cT ad) m_K_state (d + 1) 0 [some (.ref 0), some (.int t)] [] u (some (.int (cState u t))) u
  refine k_aload_n d_K_state_0 rfl ?_
  refine k_iload_n d_K_state_1 rfl ?_
  refine k_virt1s d_K_state_2 l_K_44 g_K_isThread c_K_isThread rcvK (Nat.le_of_ble_eq_true rfl) ?_
  refine k_if_eqB d_K_state_5 (fun h5 => ?_) (fun h5 => ?_)
  · refine k_iconst (v := (-1)) d_K_state_20 (by decide) ?_
    exact k_iret d_K_state_21 rfl (by first | rfl | (simp [cState] <;> done) | (simp [cState, *] <;> done)) (by first | rfl | (simp [cState] <;> done) | (simp [cState, *] <;> done))
  · refine k_aload_n d_K_state_8 rfl ?_
    refine k_getr (t := 1) d_K_state_9 f_K_11 (by decide) rfl (by decide) (by decide) rfl ?_
    refine k_iload_n d_K_state_12 rfl ?_
    refine cA_ald d_K_state_13 (cIsThread_in h5) (fun hi13 => ?_)
    refine cT_get d_K_state_14 f_K_51 (by first | assumption | omega) (by decide) (by decide) ?_
    refine k_goto d_K_state_17 ?_
    exact k_iret d_K_state_21 rfl (by first | rfl | (simp [cState] <;> done) | (simp [cState, *] <;> done)) (by first | rfl | (simp [cState] <;> done) | (simp [cState, *] <;> done))

set_option maxRecDepth 4000 in
theorem c_K_outcome {l : Launch} {D : va_G} {cI cB cT : ClassId} {ad : Nat → Nat} {d : Nat} {u : kSt} {t : Int32} : KSp (kWl lyC l D cI cB cT ad) y_K_outcome m_K_outcome (d + 1) [.ref 0, .int t] u (some (.int (cOutcome u t))) u := by
  refine KSp.of (by decide) rfl (Nat.le_of_ble_eq_true rfl) rfl ?_
  show KAt (kWl lyC l D cI cB cT ad) m_K_outcome (d + 1) 0 [some (.ref 0), some (.int t)] [] u (some (.int (cOutcome u t))) u
  refine k_aload_n d_K_outcome_0 rfl ?_
  refine k_iload_n d_K_outcome_1 rfl ?_
  refine k_virt1s d_K_outcome_2 l_K_44 g_K_isThread c_K_isThread rcvK (Nat.le_of_ble_eq_true rfl) ?_
  refine k_if_eqB d_K_outcome_5 (fun h5 => ?_) (fun h5 => ?_)
  · refine k_iconst (v := (-1)) d_K_outcome_20 (by decide) ?_
    exact k_iret d_K_outcome_21 rfl (by first | rfl | (simp [cOutcome] <;> done) | (simp [cOutcome, *] <;> done)) (by first | rfl | (simp [cOutcome] <;> done) | (simp [cOutcome, *] <;> done))
  · refine k_aload_n d_K_outcome_8 rfl ?_
    refine k_getr (t := 1) d_K_outcome_9 f_K_11 (by decide) rfl (by decide) (by decide) rfl ?_
    refine k_iload_n d_K_outcome_12 rfl ?_
    refine cA_ald d_K_outcome_13 (cIsThread_in h5) (fun hi13 => ?_)
    refine cT_get d_K_outcome_14 f_K_164 (by first | assumption | omega) (by decide) (by decide) ?_
    refine k_goto d_K_outcome_17 ?_
    exact k_iret d_K_outcome_21 rfl (by first | rfl | (simp [cOutcome] <;> done) | (simp [cOutcome, *] <;> done)) (by first | rfl | (simp [cOutcome] <;> done) | (simp [cOutcome, *] <;> done))

set_option maxRecDepth 4000 in
theorem c_K_value {l : Launch} {D : va_G} {cI cB cT : ClassId} {ad : Nat → Nat} {d : Nat} {u : kSt} {t : Int32} : KSp (kWl lyC l D cI cB cT ad) y_K_value m_K_value (d + 1) [.ref 0, .int t] u (some (.int (cValue u t))) u := by
  refine KSp.of (by decide) rfl (Nat.le_of_ble_eq_true rfl) rfl ?_
  show KAt (kWl lyC l D cI cB cT ad) m_K_value (d + 1) 0 [some (.ref 0), some (.int t)] [] u (some (.int (cValue u t))) u
  refine k_aload_n d_K_value_0 rfl ?_
  refine k_iload_n d_K_value_1 rfl ?_
  refine k_virt1s d_K_value_2 l_K_44 g_K_isThread c_K_isThread rcvK (Nat.le_of_ble_eq_true rfl) ?_
  refine k_if_eqB d_K_value_5 (fun h5 => ?_) (fun h5 => ?_)
  · refine k_iconst (v := 0) d_K_value_20 (by decide) ?_
    exact k_iret d_K_value_21 rfl (by first | rfl | (simp [cValue] <;> done) | (simp [cValue, *] <;> done)) (by first | rfl | (simp [cValue] <;> done) | (simp [cValue, *] <;> done))
  · refine k_aload_n d_K_value_8 rfl ?_
    refine k_getr (t := 1) d_K_value_9 f_K_11 (by decide) rfl (by decide) (by decide) rfl ?_
    refine k_iload_n d_K_value_12 rfl ?_
    refine cA_ald d_K_value_13 (cIsThread_in h5) (fun hi13 => ?_)
    refine cT_get d_K_value_14 f_K_167 (by first | assumption | omega) (by decide) (by decide) ?_
    refine k_goto d_K_value_17 ?_
    exact k_iret d_K_value_21 rfl (by first | rfl | (simp [cValue] <;> done) | (simp [cValue, *] <;> done)) (by first | rfl | (simp [cValue] <;> done) | (simp [cValue, *] <;> done))

set_option maxRecDepth 4000 in
theorem c_K_sender {l : Launch} {D : va_G} {cI cB cT : ClassId} {ad : Nat → Nat} {d : Nat} {u : kSt} {t : Int32} : KSp (kWl lyC l D cI cB cT ad) y_K_sender m_K_sender (d + 1) [.ref 0, .int t] u (some (.int (cSender u t))) u := by
  refine KSp.of (by decide) rfl (Nat.le_of_ble_eq_true rfl) rfl ?_
  show KAt (kWl lyC l D cI cB cT ad) m_K_sender (d + 1) 0 [some (.ref 0), some (.int t)] [] u (some (.int (cSender u t))) u
  refine k_aload_n d_K_sender_0 rfl ?_
  refine k_iload_n d_K_sender_1 rfl ?_
  refine k_virt1s d_K_sender_2 l_K_44 g_K_isThread c_K_isThread rcvK (Nat.le_of_ble_eq_true rfl) ?_
  refine k_if_eqB d_K_sender_5 (fun h5 => ?_) (fun h5 => ?_)
  · refine k_iconst (v := (-1)) d_K_sender_20 (by decide) ?_
    exact k_iret d_K_sender_21 rfl (by first | rfl | (simp [cSender] <;> done) | (simp [cSender, *] <;> done)) (by first | rfl | (simp [cSender] <;> done) | (simp [cSender, *] <;> done))
  · refine k_aload_n d_K_sender_8 rfl ?_
    refine k_getr (t := 1) d_K_sender_9 f_K_11 (by decide) rfl (by decide) (by decide) rfl ?_
    refine k_iload_n d_K_sender_12 rfl ?_
    refine cA_ald d_K_sender_13 (cIsThread_in h5) (fun hi13 => ?_)
    refine cT_get d_K_sender_14 f_K_170 (by first | assumption | omega) (by decide) (by decide) ?_
    refine k_goto d_K_sender_17 ?_
    exact k_iret d_K_sender_21 rfl (by first | rfl | (simp [cSender] <;> done) | (simp [cSender, *] <;> done)) (by first | rfl | (simp [cSender] <;> done) | (simp [cSender, *] <;> done))

set_option maxRecDepth 4000 in
theorem c_K_register {l : Launch} {D : va_G} {cI cB cT : ClassId} {ad : Nat → Nat} {d : Nat} {u : kSt} {t k : Int32} : KSp (kWl lyC l D cI cB cT ad) y_K_register m_K_register (d + 1) [.ref 0, .int t, .int k] u (some (.int (cRegister u t k))) u := by
  refine KSp.of (by decide) rfl (Nat.le_of_ble_eq_true rfl) rfl ?_
  show KAt (kWl lyC l D cI cB cT ad) m_K_register (d + 1) 0 [some (.ref 0), some (.int t), some (.int k)] [] u (some (.int (cRegister u t k))) u
  refine k_aload_n d_K_register_0 rfl ?_
  refine k_iload_n d_K_register_1 rfl ?_
  refine k_virt1s d_K_register_2 l_K_44 g_K_isThread c_K_isThread rcvK (Nat.le_of_ble_eq_true rfl) ?_
  refine k_if_eqB d_K_register_5 (fun h5 => ?_) (fun h5 => ?_)
  · refine k_iconst (v := 0) d_K_register_17 (by decide) ?_
    exact k_iret d_K_register_18 rfl (by first | rfl | (simp [cRegister] <;> done) | (simp [cRegister, *] <;> done)) (by first | rfl | (simp [cRegister] <;> done) | (simp [cRegister, *] <;> done))
  · refine k_iload_n d_K_register_8 rfl ?_
    refine k_if_lt d_K_register_9 (fun h9 => ?_) (fun h9 => ?_)
    · refine k_iconst (v := 0) d_K_register_17 (by decide) ?_
      exact k_iret d_K_register_18 rfl (by first | rfl | (simp [cRegister] <;> done) | (simp [cRegister, *] <;> done)) (by first | rfl | (simp [cRegister] <;> done) | (simp [cRegister, *] <;> done))
    · refine k_iload_n d_K_register_12 rfl ?_
      refine k_iconst (v := 4) d_K_register_13 (by decide) ?_
      refine k_icmp_le d_K_register_14 (fun h14 => ?_) (fun h14 => ?_)
      · refine k_iload_n d_K_register_19 rfl ?_
        refine k_iconst (v := 4) d_K_register_20 (by decide) ?_
        refine k_icmp_ne d_K_register_21 (fun h21 => ?_) (fun h21 => ?_)
        · refine k_aload_n d_K_register_36 rfl ?_
          refine k_getr (t := 1) d_K_register_37 f_K_11 (by decide) rfl (by decide) (by decide) rfl ?_
          refine k_iload_n d_K_register_40 rfl ?_
          refine cA_ald d_K_register_41 (cIsThread_in h5) (fun hi41 => ?_)
          refine cT_reg d_K_register_42 f_K_60 (by first | assumption | omega) ?_
          refine k_iload_n d_K_register_45 rfl ?_
          refine cR_ald d_K_register_46 (by first | assumption | omega) (vin (m := 4) h9 (fun e => h21 (Int32.le_antisymm h14 e))) ?_
          exact k_iret d_K_register_47 rfl (by first | rfl | (simp [cRegister] <;> done) | (simp [cRegister, *] <;> done)) (by first | rfl | (simp [cRegister] <;> done) | (simp [cRegister, *] <;> done))
        · refine k_aload_n d_K_register_24 rfl ?_
          refine k_getr (t := 1) d_K_register_25 f_K_11 (by decide) rfl (by decide) (by decide) rfl ?_
          refine k_iload_n d_K_register_28 rfl ?_
          refine cA_ald d_K_register_29 (cIsThread_in h5) (fun hi29 => ?_)
          refine cT_get d_K_register_30 f_K_161 (by first | assumption | omega) (by decide) (by decide) ?_
          refine k_goto d_K_register_33 ?_
          exact k_iret d_K_register_47 rfl (by first | rfl | (simp [cRegister] <;> done) | (simp [cRegister, *] <;> done)) (by first | rfl | (simp [cRegister] <;> done) | (simp [cRegister, *] <;> done))
      · refine k_iconst (v := 0) d_K_register_17 (by decide) ?_
        exact k_iret d_K_register_18 rfl (by first | rfl | (simp [cRegister] <;> done) | (simp [cRegister, *] <;> done)) (by first | rfl | (simp [cRegister] <;> done) | (simp [cRegister, *] <;> done))

set_option maxRecDepth 4000 in
theorem c_K_word {l : Launch} {D : va_G} {cI cB cT : ClassId} {ad : Nat → Nat} {d : Nat} {u : kSt} {n : Int32} : KSp (kWl lyC l D cI cB cT ad) y_K_word m_K_word d [.ref 0, .int n] u (some (.int (cWord u n))) u := by
  refine KSp.of (by decide) rfl (Nat.le_of_ble_eq_true rfl) rfl ?_
  show KAt (kWl lyC l D cI cB cT ad) m_K_word d 0 [some (.ref 0), some (.int n)] [] u (some (.int (cWord u n))) u
  refine k_iload_n d_K_word_0 rfl ?_
  refine k_if_lt d_K_word_1 (fun h1 => ?_) (fun h1 => ?_)
  · refine k_iconst (v := 0) d_K_word_19 (by decide) ?_
    exact k_iret d_K_word_20 rfl (by first | rfl | (simp [cWord] <;> done) | (simp [cWord, *] <;> done)) (by first | rfl | (simp [cWord] <;> done) | (simp [cWord, *] <;> done))
  · refine k_iload_n d_K_word_4 rfl ?_
    refine k_bipush (v := 16) d_K_word_5 (by decide) ?_
    refine k_icmp_ge d_K_word_7 (fun h7 => ?_) (fun h7 => ?_)
    · refine k_iconst (v := 0) d_K_word_19 (by decide) ?_
      exact k_iret d_K_word_20 rfl (by first | rfl | (simp [cWord] <;> done) | (simp [cWord, *] <;> done)) (by first | rfl | (simp [cWord] <;> done) | (simp [cWord, *] <;> done))
    · refine k_aload_n d_K_word_10 rfl ?_
      refine k_getr (t := 3) d_K_word_11 f_K_22 (by decide) rfl (by decide) (by decide) rfl ?_
      refine k_iload_n d_K_word_14 rfl ?_
      refine k_iald d_K_word_15 (by decide) rfl (by first | assumption | (unfold vp_in; decide) | exact vin (by assumption) (by assumption) | exact vin_n (by assumption) | exact vin_n (by omega)) ?_
      refine k_goto d_K_word_16 ?_
      exact k_iret d_K_word_20 rfl (by first | rfl | (simp [cWord] <;> done) | (simp [cWord, *] <;> done)) (by first | rfl | (simp [cWord] <;> done) | (simp [cWord, *] <;> done))

set_option maxRecDepth 4000 in
theorem c_K_load {l : Launch} {D : va_G} {cI cB cT : ClassId} {ad : Nat → Nat} {d : Nat} {u : kSt} {t k v : Int32} : KSp (kWl lyC l D cI cB cT ad) y_K_load m_K_load (d + 2) [.ref 0, .int t, .int k, .int v] u (some (.int (cLoad u t k v).1)) (cLoad u t k v).2 := by
  refine KSp.of (by decide) rfl (Nat.le_of_ble_eq_true rfl) rfl ?_
  show KAt (kWl lyC l D cI cB cT ad) m_K_load (d + 2) 0 [some (.ref 0), some (.int t), some (.int k), some (.int v)] [] u (some (.int (cLoad u t k v).1)) (cLoad u t k v).2
  refine k_aload_n d_K_load_0 rfl ?_
  refine k_iload_n d_K_load_1 rfl ?_
  refine k_virt1s d_K_load_2 l_K_57 g_K_isRunning c_K_isRunning rcvK (Nat.le_of_ble_eq_true rfl) ?_
  refine k_if_eqB d_K_load_5 (fun h5 => ?_) (fun h5 => ?_)
  · refine k_iconst (v := 0) d_K_load_17 (by decide) ?_
    exact k_zret d_K_load_18 rfl (by first | rfl | exact nb_bI _) (by first | rfl | (simp [cLoad] <;> done) | (simp [cLoad, *] <;> done)) (by first | rfl | (simp [cLoad] <;> done) | (simp [cLoad, *] <;> done))
  · refine k_iload_n d_K_load_8 rfl ?_
    refine k_if_lt d_K_load_9 (fun h9 => ?_) (fun h9 => ?_)
    · refine k_iconst (v := 0) d_K_load_17 (by decide) ?_
      exact k_zret d_K_load_18 rfl (by first | rfl | exact nb_bI _) (by first | rfl | (simp [cLoad] <;> done) | (simp [cLoad, *] <;> done)) (by first | rfl | (simp [cLoad] <;> done) | (simp [cLoad, *] <;> done))
    · refine k_iload_n d_K_load_12 rfl ?_
      refine k_iconst (v := 4) d_K_load_13 (by decide) ?_
      refine k_icmp_lt d_K_load_14 (fun h14 => ?_) (fun h14 => ?_)
      · refine k_aload_n d_K_load_19 rfl ?_
        refine k_getr (t := 1) d_K_load_20 f_K_11 (by decide) rfl (by decide) (by decide) rfl ?_
        refine k_iload_n d_K_load_23 rfl ?_
        refine cA_ald d_K_load_24 (cIsRun_in h5) (fun hi24 => ?_)
        refine cT_reg d_K_load_25 f_K_60 (by first | assumption | omega) ?_
        refine k_iload_n d_K_load_28 rfl ?_
        refine k_iload_n d_K_load_29 rfl ?_
        refine cR_ast d_K_load_30 (by first | assumption | omega) (vin (m := 4) h9 (Int32.not_le.mpr h14)) ?_
        refine k_iconst (v := 1) d_K_load_31 (by decide) ?_
        exact k_zret d_K_load_32 rfl (by first | rfl | exact nb_bI _) (by first | rfl | (simp [cLoad] <;> done) | (simp [cLoad, *] <;> done)) (by first | rfl | (simp [cLoad] <;> done) | (simp [cLoad, *] <;> done))
      · refine k_iconst (v := 0) d_K_load_17 (by decide) ?_
        exact k_zret d_K_load_18 rfl (by first | rfl | exact nb_bI _) (by first | rfl | (simp [cLoad] <;> done) | (simp [cLoad, *] <;> done)) (by first | rfl | (simp [cLoad] <;> done) | (simp [cLoad, *] <;> done))

set_option maxRecDepth 4000 in
theorem c_K_offer {l : Launch} {D : va_G} {cI cB cT : ClassId} {ad : Nat → Nat} {d : Nat} {u : kSt} {t p m g : Int32} (hg : g = 0 ∨ g = 1) : KSp (kWl lyC l D cI cB cT ad) y_K_offer m_K_offer (d + 2) [.ref 0, .int t, .int p, .int m, .int g] u (some (.int (cOfferCall u t p m g).1)) (cOfferCall u t p m g).2 := by
  refine KSp.of (by decide) rfl (Nat.le_of_ble_eq_true rfl) rfl ?_
  show KAt (kWl lyC l D cI cB cT ad) m_K_offer (d + 2) 0 [some (.ref 0), some (.int t), some (.int p), some (.int m), some (.int g), none] [] u (some (.int (cOfferCall u t p m g).1)) (cOfferCall u t p m g).2
  refine k_aload_n d_K_offer_0 rfl ?_
  refine k_iload_n d_K_offer_1 rfl ?_
  refine k_virt1s d_K_offer_2 l_K_57 g_K_isRunning c_K_isRunning rcvK (Nat.le_of_ble_eq_true rfl) ?_
  refine k_if_eqB d_K_offer_5 (fun h5 => ?_) (fun h5 => ?_)
  · refine k_iconst (v := 0) d_K_offer_27 (by decide) ?_
    exact k_zret d_K_offer_28 rfl (by first | rfl | exact nb_bI _) (by simp [cOfferCall, *]) (by simp [cOfferCall, *])
  · refine k_iload_n d_K_offer_8 rfl ?_
    refine k_stat1s d_K_offer_9 l_K_63 g_K_isPageOrNone c_K_isPageOrNone (Nat.le_of_ble_eq_true rfl) ?_
    refine k_if_eqB d_K_offer_12 (fun h12 => ?_) (fun h12 => ?_)
    · refine k_iconst (v := 0) d_K_offer_27 (by decide) ?_
      exact k_zret d_K_offer_28 rfl (by first | rfl | exact nb_bI _) (by simp [cOfferCall, *]) (by simp [cOfferCall, *])
    · refine k_iload_n d_K_offer_15 rfl ?_
      refine k_iconst (v := (-1)) d_K_offer_16 (by decide) ?_
      refine k_icmp_eq d_K_offer_17 (fun h17 => ?_) (fun h17 => ?_)
      · refine k_aload_n d_K_offer_29 rfl ?_
        refine k_getr (t := 1) d_K_offer_30 f_K_11 (by decide) rfl (by decide) (by decide) rfl ?_
        refine k_iload_n d_K_offer_33 rfl ?_
        refine cA_ald d_K_offer_34 (cIsRun_in h5) (fun hi34 => ?_)
        refine k_astore d_K_offer_35 (by decide) ?_
        refine k_aload d_K_offer_37 rfl ?_
        refine k_iload_n d_K_offer_39 rfl ?_
        refine cT_put d_K_offer_40 p_K_69 (by first | assumption | omega) (by decide) (by decide) rfl rfl ?_
        refine k_aload d_K_offer_43 rfl ?_
        refine k_iload_n d_K_offer_45 rfl ?_
        refine cT_put d_K_offer_46 p_K_72 (by first | assumption | omega) (by decide) (by decide) rfl rfl ?_
        refine k_aload d_K_offer_49 rfl ?_
        refine k_iload d_K_offer_51 rfl ?_
        refine cT_put d_K_offer_53 p_K_75 (by first | assumption | omega) (by decide) (by decide) (by rcases hg with rfl | rfl <;> rfl) (by rcases hg with rfl | rfl <;> rfl) ?_
        refine k_iconst (v := 1) d_K_offer_56 (by decide) ?_
        exact k_zret d_K_offer_57 rfl (by first | rfl | exact nb_bI _) (by rw [cOfferCall, if_pos h5, if_pos h12]; simp [*]) (by rw [cOfferCall, if_pos h5, if_pos h12]; simp [*])
      · refine k_iload_n d_K_offer_20 rfl ?_
        refine k_stat1s d_K_offer_21 l_K_66 g_K_isLevel c_K_isLevel (Nat.le_of_ble_eq_true rfl) ?_
        refine k_if_neB d_K_offer_24 (fun h24 => ?_) (fun h24 => ?_)
        · refine k_aload_n d_K_offer_29 rfl ?_
          refine k_getr (t := 1) d_K_offer_30 f_K_11 (by decide) rfl (by decide) (by decide) rfl ?_
          refine k_iload_n d_K_offer_33 rfl ?_
          refine cA_ald d_K_offer_34 (cIsRun_in h5) (fun hi34 => ?_)
          refine k_astore d_K_offer_35 (by decide) ?_
          refine k_aload d_K_offer_37 rfl ?_
          refine k_iload_n d_K_offer_39 rfl ?_
          refine cT_put d_K_offer_40 p_K_69 (by first | assumption | omega) (by decide) (by decide) rfl rfl ?_
          refine k_aload d_K_offer_43 rfl ?_
          refine k_iload_n d_K_offer_45 rfl ?_
          refine cT_put d_K_offer_46 p_K_72 (by first | assumption | omega) (by decide) (by decide) rfl rfl ?_
          refine k_aload d_K_offer_49 rfl ?_
          refine k_iload d_K_offer_51 rfl ?_
          refine cT_put d_K_offer_53 p_K_75 (by first | assumption | omega) (by decide) (by decide) (by rcases hg with rfl | rfl <;> rfl) (by rcases hg with rfl | rfl <;> rfl) ?_
          refine k_iconst (v := 1) d_K_offer_56 (by decide) ?_
          exact k_zret d_K_offer_57 rfl (by first | rfl | exact nb_bI _) (by rw [cOfferCall, if_pos h5, if_pos h12]; simp [*]) (by rw [cOfferCall, if_pos h5, if_pos h12]; simp [*])
        · refine k_iconst (v := 0) d_K_offer_27 (by decide) ?_
          exact k_zret d_K_offer_28 rfl (by first | rfl | exact nb_bI _) (by simp [cOfferCall, *]) (by simp [cOfferCall, *])

set_option maxRecDepth 4000 in
theorem c_K_window {l : Launch} {D : va_G} {cI cB cT : ClassId} {ad : Nat → Nat} {d : Nat} {u : kSt} {t p : Int32} : KSp (kWl lyC l D cI cB cT ad) y_K_window m_K_window (d + 2) [.ref 0, .int t, .int p] u (some (.int (cWindow u t p).1)) (cWindow u t p).2 := by
  refine KSp.of (by decide) rfl (Nat.le_of_ble_eq_true rfl) rfl ?_
  show KAt (kWl lyC l D cI cB cT ad) m_K_window (d + 2) 0 [some (.ref 0), some (.int t), some (.int p)] [] u (some (.int (cWindow u t p).1)) (cWindow u t p).2
  refine k_aload_n d_K_window_0 rfl ?_
  refine k_iload_n d_K_window_1 rfl ?_
  refine k_virt1s d_K_window_2 l_K_57 g_K_isRunning c_K_isRunning rcvK (Nat.le_of_ble_eq_true rfl) ?_
  refine k_if_eqB d_K_window_5 (fun h5 => ?_) (fun h5 => ?_)
  · refine k_iconst (v := 0) d_K_window_15 (by decide) ?_
    exact k_zret d_K_window_16 rfl (by first | rfl | exact nb_bI _) (by first | rfl | (simp [cWindow] <;> done) | (simp [cWindow, *] <;> done)) (by first | rfl | (simp [cWindow] <;> done) | (simp [cWindow, *] <;> done))
  · refine k_iload_n d_K_window_8 rfl ?_
    refine k_stat1s d_K_window_9 l_K_63 g_K_isPageOrNone c_K_isPageOrNone (Nat.le_of_ble_eq_true rfl) ?_
    refine k_if_neB d_K_window_12 (fun h12 => ?_) (fun h12 => ?_)
    · refine k_aload_n d_K_window_17 rfl ?_
      refine k_getr (t := 1) d_K_window_18 f_K_11 (by decide) rfl (by decide) (by decide) rfl ?_
      refine k_iload_n d_K_window_21 rfl ?_
      refine cA_ald d_K_window_22 (cIsRun_in h5) (fun hi22 => ?_)
      refine k_iload_n d_K_window_23 rfl ?_
      refine cT_put d_K_window_24 p_K_79 (by first | assumption | omega) (by decide) (by decide) rfl rfl ?_
      refine k_iconst (v := 1) d_K_window_27 (by decide) ?_
      exact k_zret d_K_window_28 rfl (by first | rfl | exact nb_bI _) (by first | rfl | (simp [cWindow] <;> done) | (simp [cWindow, *] <;> done)) (by first | rfl | (simp [cWindow] <;> done) | (simp [cWindow, *] <;> done))
    · refine k_iconst (v := 0) d_K_window_15 (by decide) ?_
      exact k_zret d_K_window_16 rfl (by first | rfl | exact nb_bI _) (by first | rfl | (simp [cWindow] <;> done) | (simp [cWindow, *] <;> done)) (by first | rfl | (simp [cWindow] <;> done) | (simp [cWindow, *] <;> done))

set_option maxRecDepth 4000 in
theorem c_K_mapping {l : Launch} {D : va_G} {cI cB cT : ClassId} {ad : Nat → Nat} {d : Nat} {u : kSt} {a p : Int32} : KSp (kWl lyC l D cI cB cT ad) y_K_mapping m_K_mapping (d + 2) [.ref 0, .int a, .int p] u (some (.int (cMapping u a p))) u := by
  refine KSp.of (by decide) rfl (Nat.le_of_ble_eq_true rfl) rfl ?_
  show KAt (kWl lyC l D cI cB cT ad) m_K_mapping (d + 2) 0 [some (.ref 0), some (.int a), some (.int p)] [] u (some (.int (cMapping u a p))) u
  refine k_iload_n d_K_mapping_0 rfl ?_
  refine k_stat1s d_K_mapping_1 l_K_40 g_K_isSpace c_K_isSpace (Nat.le_of_ble_eq_true rfl) ?_
  refine k_if_eqB d_K_mapping_4 (fun h4 => ?_) (fun h4 => ?_)
  · refine k_iconst (v := (-1)) d_K_mapping_14 (by decide) ?_
    exact k_iret d_K_mapping_15 rfl (by first | rfl | (simp [cMapping] <;> done) | (simp [cMapping, *] <;> done)) (by first | rfl | (simp [cMapping] <;> done) | (simp [cMapping, *] <;> done))
  · refine k_iload_n d_K_mapping_7 rfl ?_
    refine k_stat1s d_K_mapping_8 l_K_120 g_K_isPage c_K_isPage (Nat.le_of_ble_eq_true rfl) ?_
    refine k_if_neB d_K_mapping_11 (fun h11 => ?_) (fun h11 => ?_)
    · refine k_aload_n d_K_mapping_16 rfl ?_
      refine k_getr (t := 2) d_K_mapping_17 f_K_18 (by decide) rfl (by decide) (by decide) rfl ?_
      refine k_iload_n d_K_mapping_20 rfl ?_
      refine k_iload_n d_K_mapping_21 rfl ?_
      refine k_stat2s d_K_mapping_22 l_K_139 g_K_slotOf c_K_slotOf (Nat.le_of_ble_eq_true rfl) ?_
      rw [(sl_eq (cIsSpace_in h4) (cIsPage_in h11)).1]
      refine k_virt1s d_K_mapping_25 l_K_173 g_P_describe (c_P_describe (sl_eq (cIsSpace_in h4) (cIsPage_in h11)).2) rcvP (Nat.le_of_ble_eq_true rfl) ?_
      exact k_iret d_K_mapping_28 rfl (by first | rfl | (simp [cMapping] <;> done) | (simp [cMapping, *] <;> done)) (by first | rfl | (simp [cMapping] <;> done) | (simp [cMapping, *] <;> done))
    · refine k_iconst (v := (-1)) d_K_mapping_14 (by decide) ?_
      exact k_iret d_K_mapping_15 rfl (by first | rfl | (simp [cMapping] <;> done) | (simp [cMapping, *] <;> done)) (by first | rfl | (simp [cMapping] <;> done) | (simp [cMapping, *] <;> done))

set_option maxRecDepth 4000 in
theorem c_K_heirs {l : Launch} {D : va_G} {cI cB cT : ClassId} {ad : Nat → Nat} {d : Nat} {u : kSt} {a p : Int32} (hI : cInv u) : KSp (kWl lyC l D cI cB cT ad) y_K_heirs m_K_heirs (d + 2) [.ref 0, .int a, .int p] u (some (.int (cHeirs u a p))) u := by
  refine KSp.of (by decide) rfl (Nat.le_of_ble_eq_true rfl) rfl ?_
  show KAt (kWl lyC l D cI cB cT ad) m_K_heirs (d + 2) 0 [some (.ref 0), some (.int a), some (.int p)] [] u (some (.int (cHeirs u a p))) u
  refine k_iload_n d_K_heirs_0 rfl ?_
  refine k_stat1s d_K_heirs_1 l_K_40 g_K_isSpace c_K_isSpace (Nat.le_of_ble_eq_true rfl) ?_
  refine k_if_eqB d_K_heirs_4 (fun h4 => ?_) (fun h4 => ?_)
  · refine k_iconst (v := (-1)) d_K_heirs_29 (by decide) ?_
    exact k_iret d_K_heirs_30 rfl (by first | rfl | (simp [cHeirs] <;> done) | (simp [cHeirs, *] <;> done)) (by first | rfl | (simp [cHeirs] <;> done) | (simp [cHeirs, *] <;> done))
  · refine k_iload_n d_K_heirs_7 rfl ?_
    refine k_stat1s d_K_heirs_8 l_K_120 g_K_isPage c_K_isPage (Nat.le_of_ble_eq_true rfl) ?_
    refine k_if_eqB d_K_heirs_11 (fun h11 => ?_) (fun h11 => ?_)
    · refine k_iconst (v := (-1)) d_K_heirs_29 (by decide) ?_
      exact k_iret d_K_heirs_30 rfl (by first | rfl | (simp [cHeirs] <;> done) | (simp [cHeirs, *] <;> done)) (by first | rfl | (simp [cHeirs] <;> done) | (simp [cHeirs, *] <;> done))
    · refine k_aload_n d_K_heirs_14 rfl ?_
      refine k_getr (t := 2) d_K_heirs_15 f_K_18 (by decide) rfl (by decide) (by decide) rfl ?_
      refine k_iload_n d_K_heirs_18 rfl ?_
      refine k_iload_n d_K_heirs_19 rfl ?_
      refine k_stat2s d_K_heirs_20 l_K_139 g_K_slotOf c_K_slotOf (Nat.le_of_ble_eq_true rfl) ?_
      rw [(sl_eq (cIsSpace_in h4) (cIsPage_in h11)).1]
      refine k_virt1s d_K_heirs_23 l_K_143 g_P_holds (c_P_holds (sl_eq (cIsSpace_in h4) (cIsPage_in h11)).2) rcvP (Nat.le_of_ble_eq_true rfl) ?_
      refine k_if_neB d_K_heirs_26 (fun h26 => ?_) (fun h26 => ?_)
      · refine k_aload_n d_K_heirs_31 rfl ?_
        refine k_getr (t := 2) d_K_heirs_32 f_K_18 (by decide) rfl (by decide) (by decide) rfl ?_
        refine k_iload_n d_K_heirs_35 rfl ?_
        refine k_iload_n d_K_heirs_36 rfl ?_
        refine k_stat2s d_K_heirs_37 l_K_139 g_K_slotOf c_K_slotOf (Nat.le_of_ble_eq_true rfl) ?_
        rw [(sl_eq (cIsSpace_in h4) (cIsPage_in h11)).1]
        refine k_virt1s d_K_heirs_40 l_K_176 g_P_countDescendants (c_P_countDescendants hI.par hI.dep) rcvP (Nat.le_of_ble_eq_true rfl) ?_
        exact k_iret d_K_heirs_43 rfl (by first | rfl | (simp [cHeirs] <;> done) | (simp [cHeirs, *] <;> done)) (by first | rfl | (simp [cHeirs] <;> done) | (simp [cHeirs, *] <;> done))
      · refine k_iconst (v := (-1)) d_K_heirs_29 (by decide) ?_
        exact k_iret d_K_heirs_30 rfl (by first | rfl | (simp [cHeirs] <;> done) | (simp [cHeirs, *] <;> done)) (by first | rfl | (simp [cHeirs] <;> done) | (simp [cHeirs, *] <;> done))

theorem c_K_leastFreeNumber_loop {l : Launch} {D : va_G} {cI cB cT : ClassId} {ad : Nat → Nat} {d : Nat} {u : kSt} : ∀ (m k : Nat), k + m = 8 → KAt (kWl lyC l D cI cB cT ad) m_K_leastFreeNumber d 2 [some (.ref 0), some (.int (nI k))] [] u (some (.int (cFree u k m))) u := by
  intro m
  induction m with
  | zero =>
    intro k hk
    obtain rfl : k = 8 := by omega
    refine k_iload_n d_K_leastFreeNumber_2 rfl ?_
    refine k_bipush (v := 8) d_K_leastFreeNumber_3 (by decide) ?_
    refine k_icmp_ge d_K_leastFreeNumber_5 (fun h5 => ?_) (fun h5 => absurd h5 (fun z => z (by decide)))
    refine k_iconst (v := (-1)) d_K_leastFreeNumber_29 (by decide) ?_
    exact k_iret d_K_leastFreeNumber_30 rfl (by first | rfl | (simp [cFree] <;> done) | (simp [cFree, *] <;> done)) (by first | rfl | (simp [cFree] <;> done) | (simp [cFree, *] <;> done))
  | succ m ih =>
    intro k hk
    have h0 : ¬ (8 : Int32) ≤ nI k := nI_ge (a := k) (b := 8) (by omega) (by decide)
    refine k_iload_n d_K_leastFreeNumber_2 rfl ?_
    refine k_bipush (v := 8) d_K_leastFreeNumber_3 (by decide) ?_
    refine k_icmp_ge d_K_leastFreeNumber_5 (fun h5 => absurd h5 h0) (fun h5 => ?_)
    refine k_aload_n d_K_leastFreeNumber_8 rfl ?_
    refine k_getr (t := 1) d_K_leastFreeNumber_9 f_K_11 (by decide) rfl (by decide) (by decide) rfl ?_
    refine k_iload_n d_K_leastFreeNumber_12 rfl ?_
    refine cA_aldN d_K_leastFreeNumber_13 (by first | assumption | omega) ?_
    refine cT_get d_K_leastFreeNumber_14 f_K_51 (by first | assumption | omega) (by decide) (by decide) ?_
    refine k_iconst (v := (-1)) d_K_leastFreeNumber_17 (by decide) ?_
    refine k_icmp_ne d_K_leastFreeNumber_18 (fun h18 => ?_) (fun h18 => ?_)
    · refine k_incN d_K_leastFreeNumber_23 rfl (by decide) ?_
      refine k_goto d_K_leastFreeNumber_26 ?_
      exact (ih (k + 1) (by omega)).to (by simp [cFree, *]) rfl
    · refine k_iload_n d_K_leastFreeNumber_21 rfl ?_
      exact k_iret d_K_leastFreeNumber_22 rfl (by first | rfl | (simp [cFree] <;> done) | (simp [cFree, *] <;> done)) (by first | rfl | (simp [cFree] <;> done) | (simp [cFree, *] <;> done))

set_option maxRecDepth 4000 in
theorem c_K_leastFreeNumber {l : Launch} {D : va_G} {cI cB cT : ClassId} {ad : Nat → Nat} {d : Nat} {u : kSt}  : KSp (kWl lyC l D cI cB cT ad) y_K_leastFreeNumber m_K_leastFreeNumber d [.ref 0] u (some (.int (cFree u 0 8))) u := by
  refine KSp.of (by decide) rfl (Nat.le_of_ble_eq_true rfl) rfl ?_
  show KAt (kWl lyC l D cI cB cT ad) m_K_leastFreeNumber d 0 [some (.ref 0), none] [] u (some (.int (cFree u 0 8))) u
  refine k_iconst (v := 0) d_K_leastFreeNumber_0 (by decide) ?_
  refine k_istore_n d_K_leastFreeNumber_1 (by decide) ?_
  exact c_K_leastFreeNumber_loop 8 0 rfl

set_option maxRecDepth 4000 in
theorem c_K_spawn {l : Launch} {D : va_G} {cI cB cT : ClassId} {ad : Nat → Nat} {d : Nat} {u : kSt} {a b : Int32} : KSp (kWl lyC l D cI cB cT ad) y_K_spawn m_K_spawn (d + 1) [.ref 0, .int a, .int b] u (some (.int (cSpawn u a b).1)) (cSpawn u a b).2 := by
  refine KSp.of (by decide) rfl (Nat.le_of_ble_eq_true rfl) rfl ?_
  show KAt (kWl lyC l D cI cB cT ad) m_K_spawn (d + 1) 0 [some (.ref 0), some (.int a), some (.int b), none] [] u (some (.int (cSpawn u a b).1)) (cSpawn u a b).2
  refine k_iload_n d_K_spawn_0 rfl ?_
  refine k_stat1s d_K_spawn_1 l_K_40 g_K_isSpace c_K_isSpace (Nat.le_of_ble_eq_true rfl) ?_
  refine k_if_eqB d_K_spawn_4 (fun h4 => ?_) (fun h4 => ?_)
  · refine k_iconst (v := (-1)) d_K_spawn_20 (by decide) ?_
    exact k_iret d_K_spawn_21 rfl (by simp [cSpawn, *]) (by simp [cSpawn, *])
  · refine k_iload_n d_K_spawn_7 rfl ?_
    refine k_iconst (v := (-1)) d_K_spawn_8 (by decide) ?_
    refine k_icmp_eq d_K_spawn_9 (fun h9 => ?_) (fun h9 => ?_)
    · refine k_aload_n d_K_spawn_22 rfl ?_
      refine k_virt0s d_K_spawn_23 l_K_47 g_K_leastFreeNumber c_K_leastFreeNumber rcvK (Nat.le_of_ble_eq_true rfl) ?_
      refine k_istore_n d_K_spawn_26 (by decide) ?_
      refine k_iload_n d_K_spawn_27 rfl ?_
      refine k_iconst (v := (-1)) d_K_spawn_28 (by decide) ?_
      refine k_icmp_ne d_K_spawn_29 (fun h29 => ?_) (fun h29 => ?_)
      · refine k_aload_n d_K_spawn_34 rfl ?_
        refine k_getr (t := 1) d_K_spawn_35 f_K_11 (by decide) rfl (by decide) (by decide) rfl ?_
        refine k_iload_n d_K_spawn_38 rfl ?_
        refine cA_ald d_K_spawn_39 (cFree_in 8 0 rfl h29) (fun hi39 => ?_)
        refine k_iload_n d_K_spawn_40 rfl ?_
        refine k_iload_n d_K_spawn_41 rfl ?_
        refine k_virt2v d_K_spawn_42 l_K_36 g_H_begin (c_H_begin hi39) (rcvT (by first | assumption | omega)) (Nat.le_of_ble_eq_true rfl) ?_
        refine k_iload_n d_K_spawn_45 rfl ?_
        exact k_iret d_K_spawn_46 rfl (by simp [cSpawn, *]) (by simp [cSpawn, *])
      · refine k_iconst (v := (-1)) d_K_spawn_32 (by decide) ?_
        exact k_iret d_K_spawn_33 rfl (by simp [cSpawn, *]) (by simp [cSpawn, *])
    · refine k_aload_n d_K_spawn_12 rfl ?_
      refine k_iload_n d_K_spawn_13 rfl ?_
      refine k_virt1s d_K_spawn_14 l_K_44 g_K_isThread c_K_isThread rcvK (Nat.le_of_ble_eq_true rfl) ?_
      refine k_if_neB d_K_spawn_17 (fun h17 => ?_) (fun h17 => ?_)
      · refine k_aload_n d_K_spawn_22 rfl ?_
        refine k_virt0s d_K_spawn_23 l_K_47 g_K_leastFreeNumber c_K_leastFreeNumber rcvK (Nat.le_of_ble_eq_true rfl) ?_
        refine k_istore_n d_K_spawn_26 (by decide) ?_
        refine k_iload_n d_K_spawn_27 rfl ?_
        refine k_iconst (v := (-1)) d_K_spawn_28 (by decide) ?_
        refine k_icmp_ne d_K_spawn_29 (fun h29 => ?_) (fun h29 => ?_)
        · refine k_aload_n d_K_spawn_34 rfl ?_
          refine k_getr (t := 1) d_K_spawn_35 f_K_11 (by decide) rfl (by decide) (by decide) rfl ?_
          refine k_iload_n d_K_spawn_38 rfl ?_
          refine cA_ald d_K_spawn_39 (cFree_in 8 0 rfl h29) (fun hi39 => ?_)
          refine k_iload_n d_K_spawn_40 rfl ?_
          refine k_iload_n d_K_spawn_41 rfl ?_
          refine k_virt2v d_K_spawn_42 l_K_36 g_H_begin (c_H_begin hi39) (rcvT (by first | assumption | omega)) (Nat.le_of_ble_eq_true rfl) ?_
          refine k_iload_n d_K_spawn_45 rfl ?_
          exact k_iret d_K_spawn_46 rfl (by simp [cSpawn, *]) (by simp [cSpawn, *])
        · refine k_iconst (v := (-1)) d_K_spawn_32 (by decide) ?_
          exact k_iret d_K_spawn_33 rfl (by simp [cSpawn, *]) (by simp [cSpawn, *])
      · refine k_iconst (v := (-1)) d_K_spawn_20 (by decide) ?_
        exact k_iret d_K_spawn_21 rfl (by simp [cSpawn, *]) (by simp [cSpawn, *])

theorem c_K_delete_loop {l : Launch} {D : va_G} {cI cB cT : ClassId} {ad : Nat → Nat} {d : Nat} {u : kSt} {t : Int32} (N : Nat) (hN : N = 8) : ∀ (n k : Nat) (y : kSt), k + n = N → y = cOutAll u t k → KAt (kWl lyC l D cI cB cT ad) m_K_delete (d + 2) 35 [some (.ref 0), some (.int t), some (.ref 1), some (.int 8), some (.int (nI k)), none] [] y (some (.int 1)) (cOutAll u t N) := by
  intro n
  induction n with
  | zero =>
    intro k y hk hy
    subst hy
    obtain rfl : k = N := by omega
    have h0 : ¬ ¬ (8 : Int32) ≤ nI k := by rw [hN]; decide
    refine k_iload d_K_delete_35 rfl ?_
    refine k_iload_n d_K_delete_37 rfl ?_
    refine k_icmp_ge d_K_delete_38 (fun h38 => ?_) (fun h38 => absurd h38 h0)
    refine k_iconst (v := 1) d_K_delete_59 (by decide) ?_
    exact k_zret d_K_delete_60 rfl (by first | rfl | exact nb_bI _) (by first | rfl | (simp [bI] <;> done) | (simp [bI, *] <;> done)) (by first | rfl | (simp [bI] <;> done) | (simp [bI, *] <;> done))
  | succ n ih =>
    intro k y hk hy
    subst hy
    have hk2 : k < 8 := by omega
    have h0 : ¬ (8 : Int32) ≤ nI k := nI_ge (a := k) (b := 8) hk2 (by decide)
    refine k_iload d_K_delete_35 rfl ?_
    refine k_iload_n d_K_delete_37 rfl ?_
    refine k_icmp_ge d_K_delete_38 (fun h38 => absurd h38 h0) (fun h38 => ?_)
    refine k_aload_n d_K_delete_41 rfl ?_
    refine k_iload d_K_delete_42 rfl ?_
    refine cA_aldN d_K_delete_44 (by first | assumption | omega) ?_
    refine k_astore d_K_delete_45 (by decide) ?_
    refine k_aload d_K_delete_47 rfl ?_
    refine k_iload_n d_K_delete_49 rfl ?_
    refine k_virt1v d_K_delete_50 l_K_54 g_H_outlive (c_H_outlive hk2) (rcvT (by first | assumption | omega)) (Nat.le_of_ble_eq_true rfl) ?_
    refine k_incN d_K_delete_53 rfl (by decide) ?_
    refine k_goto d_K_delete_56 ?_
    refine k_forget 5 ?_
    exact ih (k + 1) _ (by omega) rfl

set_option maxRecDepth 4000 in
theorem c_K_delete {l : Launch} {D : va_G} {cI cB cT : ClassId} {ad : Nat → Nat} {d : Nat} {u : kSt} {t : Int32} : KSp (kWl lyC l D cI cB cT ad) y_K_delete m_K_delete (d + 2) [.ref 0, .int t] u (some (.int (cDelete u t).1)) (cDelete u t).2 := by
  refine KSp.of (by decide) rfl (Nat.le_of_ble_eq_true rfl) rfl ?_
  show KAt (kWl lyC l D cI cB cT ad) m_K_delete (d + 2) 0 [some (.ref 0), some (.int t), none, none, none, none] [] u (some (.int (cDelete u t).1)) (cDelete u t).2
  refine k_iload_n d_K_delete_0 rfl ?_
  refine k_if_eq d_K_delete_1 (fun h1 => ?_) (fun h1 => ?_)
  · refine k_iconst (v := 0) d_K_delete_12 (by decide) ?_
    exact k_zret d_K_delete_13 rfl (by first | rfl | exact nb_bI _) (by simp [cDelete, *]) (by simp [cDelete, *])
  · refine k_aload_n d_K_delete_4 rfl ?_
    refine k_iload_n d_K_delete_5 rfl ?_
    refine k_virt1s d_K_delete_6 l_K_44 g_K_isThread c_K_isThread rcvK (Nat.le_of_ble_eq_true rfl) ?_
    refine k_if_neB d_K_delete_9 (fun h9 => ?_) (fun h9 => ?_)
    · refine k_aload_n d_K_delete_14 rfl ?_
      refine k_getr (t := 1) d_K_delete_15 f_K_11 (by decide) rfl (by decide) (by decide) rfl ?_
      refine k_iload_n d_K_delete_18 rfl ?_
      refine cA_ald d_K_delete_19 (cIsThread_in h9) (fun hi19 => ?_)
      refine k_iconst (v := (-1)) d_K_delete_20 (by decide) ?_
      refine cT_put d_K_delete_21 p_K_51 (by first | assumption | omega) (by decide) (by decide) rfl rfl ?_
      refine k_aload_n d_K_delete_24 rfl ?_
      refine k_getr (t := 1) d_K_delete_25 f_K_11 (by decide) rfl (by decide) (by decide) rfl ?_
      refine k_astore_n d_K_delete_28 (by decide) ?_
      refine k_aload_n d_K_delete_29 rfl ?_
      refine k_alen (v := 8) d_K_delete_30 (by decide) rfl (by decide) ?_
      refine k_istore_n d_K_delete_31 (by decide) ?_
      refine k_iconst (v := 0) d_K_delete_32 (by decide) ?_
      refine k_istore d_K_delete_33 (by decide) ?_
      exact (c_K_delete_loop 8 rfl 8 0 _ rfl rfl).to (by simp [cDelete, *]) (by simp [cDelete, *]; rfl)
    · refine k_iconst (v := 0) d_K_delete_12 (by decide) ?_
      exact k_zret d_K_delete_13 rfl (by first | rfl | exact nb_bI _) (by simp [cDelete, *]) (by simp [cDelete, *])

theorem c_K_tick_loop {l : Launch} {D : va_G} {cI cB cT : ClassId} {ad : Nat → Nat} {d : Nat} {u : kSt} (N : Nat) (hN : N = 8) : ∀ (n k : Nat) (a : Int32) (y : kSt), k + n = N → a = cTickN u k → y = cTickS u k → KAt (kWl lyC l D cI cB cT ad) m_K_tick (d + 1) 23 [some (.ref 0), some (.int a), some (.ref 1), some (.int 8), some (.int (nI k)), none] [] y (some (.int (cTickN u N))) (cTickS u N) := by
  intro n
  induction n with
  | zero =>
    intro k a y hk ha hy
    subst ha
    subst hy
    obtain rfl : k = N := by omega
    have h0 : ¬ ¬ (8 : Int32) ≤ nI k := by rw [hN]; decide
    refine k_iload d_K_tick_23 rfl ?_
    refine k_iload_n d_K_tick_25 rfl ?_
    refine k_icmp_ge d_K_tick_26 (fun h26 => ?_) (fun h26 => absurd h26 h0)
    refine k_iload_n d_K_tick_70 rfl ?_
    exact k_iret d_K_tick_71 rfl (by first | rfl | (simp [bI] <;> done) | (simp [bI, *] <;> done)) (by first | rfl | (simp [bI] <;> done) | (simp [bI, *] <;> done))
  | succ n ih =>
    intro k a y hk ha hy
    subst ha
    subst hy
    have hk2 : k < 8 := by omega
    have h0 : ¬ (8 : Int32) ≤ nI k := nI_ge (a := k) (b := 8) hk2 (by decide)
    refine k_iload d_K_tick_23 rfl ?_
    refine k_iload_n d_K_tick_25 rfl ?_
    refine k_icmp_ge d_K_tick_26 (fun h26 => absurd h26 h0) (fun h26 => ?_)
    refine k_aload_n d_K_tick_29 rfl ?_
    refine k_iload d_K_tick_30 rfl ?_
    refine cA_aldN d_K_tick_32 (by first | assumption | omega) ?_
    refine k_astore d_K_tick_33 (by decide) ?_
    refine k_aload d_K_tick_35 rfl ?_
    refine k_virt0s d_K_tick_37 l_K_152 g_H_waitsForThread (c_H_waitsForThread hk2) (rcvT (by first | assumption | omega)) (Nat.le_of_ble_eq_true rfl) ?_
    refine k_if_eqB d_K_tick_40 (fun h40 => ?_) (fun h40 => ?_)
    · refine k_incN d_K_tick_64 rfl (by decide) ?_
      refine k_goto d_K_tick_67 ?_
      refine k_forget 5 ?_
      exact ih (k + 1) _ _ (by omega) (by simp [cTickN, *]) (by simp [cTickS, *])
    · refine k_aload d_K_tick_43 rfl ?_
      refine cT_get d_K_tick_45 f_K_156 (by first | assumption | omega) (by decide) (by decide) ?_
      refine k_aload_n d_K_tick_48 rfl ?_
      refine k_getf d_K_tick_49 f_K_26 (by decide) rfl (by decide) (by decide) rfl ?_
      refine k_icmp_ne d_K_tick_52 (fun h52 => ?_) (fun h52 => ?_)
      · refine k_incN d_K_tick_64 rfl (by decide) ?_
        refine k_goto d_K_tick_67 ?_
        refine k_forget 5 ?_
        exact ih (k + 1) _ _ (by omega) (by simp [cTickN, *]) (by simp [cTickS, *])
      · refine k_aload d_K_tick_55 rfl ?_
        refine k_iconst (v := 1) d_K_tick_57 (by decide) ?_
        refine k_virt1v d_K_tick_58 l_K_158 g_H_run (c_H_run hk2) (rcvT (by first | assumption | omega)) (Nat.le_of_ble_eq_true rfl) ?_
        refine k_inc1 d_K_tick_61 rfl (by decide) ?_
        refine k_incN d_K_tick_64 rfl (by decide) ?_
        refine k_goto d_K_tick_67 ?_
        refine k_forget 5 ?_
        exact ih (k + 1) _ _ (by omega) (by simp [cTickN, *]) (by simp [cTickS, *])

set_option maxRecDepth 4000 in
theorem c_K_tick {l : Launch} {D : va_G} {cI cB cT : ClassId} {ad : Nat → Nat} {d : Nat} {u : kSt}  : KSp (kWl lyC l D cI cB cT ad) y_K_tick m_K_tick (d + 1) [.ref 0] u (some (.int (cTick u).1)) (cTick u).2 := by
  refine KSp.of (by decide) rfl (Nat.le_of_ble_eq_true rfl) rfl ?_
  show KAt (kWl lyC l D cI cB cT ad) m_K_tick (d + 1) 0 [some (.ref 0), none, none, none, none, none] [] u (some (.int (cTick u).1)) (cTick u).2
  refine k_aload_n d_K_tick_0 rfl ?_
  refine k_dup d_K_tick_1 rfl ?_
  refine k_getf d_K_tick_2 f_K_26 (by decide) rfl (by decide) (by decide) rfl ?_
  refine k_iconst (v := 1) d_K_tick_5 (by decide) ?_
  refine k_iadd d_K_tick_6 ?_
  refine k_putf d_K_tick_7 p_K_26 (by decide) rfl (by decide) (by decide) rfl rfl rfl ?_
  refine k_iconst (v := 0) d_K_tick_10 (by decide) ?_
  refine k_istore_n d_K_tick_11 (by decide) ?_
  refine k_aload_n d_K_tick_12 rfl ?_
  refine k_getr (t := 1) d_K_tick_13 f_K_11 (by decide) rfl (by decide) (by decide) rfl ?_
  refine k_astore_n d_K_tick_16 (by decide) ?_
  refine k_aload_n d_K_tick_17 rfl ?_
  refine k_alen (v := 8) d_K_tick_18 (by decide) rfl (by decide) ?_
  refine k_istore_n d_K_tick_19 (by decide) ?_
  refine k_iconst (v := 0) d_K_tick_20 (by decide) ?_
  refine k_istore d_K_tick_21 (by decide) ?_
  exact (c_K_tick_loop (u := kup u 0 3 (u 0 3 + 1)) 8 rfl 8 0 _ _ rfl rfl rfl).to (by simp only [cTick]) (by simp only [cTick])

theorem c_K_waiting_loop {l : Launch} {D : va_G} {cI cB cT : ClassId} {ad : Nat → Nat} {d : Nat} {u : kSt} {t : Int32} (N : Nat) (hN : N = 8) : ∀ (n k : Nat) (a : Int32), k + n = N → a = cWaitCount u t k → KAt (kWl lyC l D cI cB cT ad) m_K_waiting (d + 1) 24 [some (.ref 0), some (.int t), some (.int a), some (.ref 1), some (.int 8), some (.int (nI k)), none] [] u (some (.int (cWaitCount u t N))) u := by
  intro n
  induction n with
  | zero =>
    intro k a hk ha
    subst ha
    obtain rfl : k = N := by omega
    have h0 : ¬ ¬ (8 : Int32) ≤ nI k := by rw [hN]; decide
    refine k_iload d_K_waiting_24 rfl ?_
    refine k_iload d_K_waiting_26 rfl ?_
    refine k_icmp_ge d_K_waiting_28 (fun h28 => ?_) (fun h28 => absurd h28 h0)
    refine k_iload_n d_K_waiting_55 rfl ?_
    exact k_iret d_K_waiting_56 rfl (by first | rfl | (simp [bI] <;> done) | (simp [bI, *] <;> done)) (by first | rfl | (simp [bI] <;> done) | (simp [bI, *] <;> done))
  | succ n ih =>
    intro k a hk ha
    subst ha
    have hk2 : k < 8 := by omega
    have h0 : ¬ (8 : Int32) ≤ nI k := nI_ge (a := k) (b := 8) hk2 (by decide)
    refine k_iload d_K_waiting_24 rfl ?_
    refine k_iload d_K_waiting_26 rfl ?_
    refine k_icmp_ge d_K_waiting_28 (fun h28 => absurd h28 h0) (fun h28 => ?_)
    refine k_aload_n d_K_waiting_31 rfl ?_
    refine k_iload d_K_waiting_32 rfl ?_
    refine cA_aldN d_K_waiting_34 (by first | assumption | omega) ?_
    refine k_astore d_K_waiting_35 (by decide) ?_
    refine k_aload d_K_waiting_37 rfl ?_
    refine k_iload_n d_K_waiting_39 rfl ?_
    refine k_virt1s d_K_waiting_40 l_K_179 g_H_waitsToSendTo (c_H_waitsToSendTo hk2) (rcvT (by first | assumption | omega)) (Nat.le_of_ble_eq_true rfl) ?_
    refine k_if_eqB d_K_waiting_43 (fun h43 => ?_) (fun h43 => ?_)
    · refine k_incN d_K_waiting_49 rfl (by decide) ?_
      refine k_goto d_K_waiting_52 ?_
      refine k_forget 6 ?_
      exact ih (k + 1) _ (by omega) (by simp [cWaitCount, *])
    · refine k_inc1 d_K_waiting_46 rfl (by decide) ?_
      refine k_incN d_K_waiting_49 rfl (by decide) ?_
      refine k_goto d_K_waiting_52 ?_
      refine k_forget 6 ?_
      exact ih (k + 1) _ (by omega) (by simp [cWaitCount, *])

set_option maxRecDepth 4000 in
theorem c_K_waiting {l : Launch} {D : va_G} {cI cB cT : ClassId} {ad : Nat → Nat} {d : Nat} {u : kSt} {t : Int32} : KSp (kWl lyC l D cI cB cT ad) y_K_waiting m_K_waiting (d + 1) [.ref 0, .int t] u (some (.int (cWaiting u t))) u := by
  refine KSp.of (by decide) rfl (Nat.le_of_ble_eq_true rfl) rfl ?_
  show KAt (kWl lyC l D cI cB cT ad) m_K_waiting (d + 1) 0 [some (.ref 0), some (.int t), none, none, none, none, none] [] u (some (.int (cWaiting u t))) u
  refine k_aload_n d_K_waiting_0 rfl ?_
  refine k_iload_n d_K_waiting_1 rfl ?_
  refine k_virt1s d_K_waiting_2 l_K_44 g_K_isThread c_K_isThread rcvK (Nat.le_of_ble_eq_true rfl) ?_
  refine k_if_neB d_K_waiting_5 (fun h5 => ?_) (fun h5 => ?_)
  · refine k_iconst (v := 0) d_K_waiting_10 (by decide) ?_
    refine k_istore_n d_K_waiting_11 (by decide) ?_
    refine k_aload_n d_K_waiting_12 rfl ?_
    refine k_getr (t := 1) d_K_waiting_13 f_K_11 (by decide) rfl (by decide) (by decide) rfl ?_
    refine k_astore_n d_K_waiting_16 (by decide) ?_
    refine k_aload_n d_K_waiting_17 rfl ?_
    refine k_alen (v := 8) d_K_waiting_18 (by decide) rfl (by decide) ?_
    refine k_istore d_K_waiting_19 (by decide) ?_
    refine k_iconst (v := 0) d_K_waiting_21 (by decide) ?_
    refine k_istore d_K_waiting_22 (by decide) ?_
    exact (c_K_waiting_loop 8 rfl 8 0 _ rfl rfl).to (by simp [cWaiting, *]) rfl
  · refine k_iconst (v := (-1)) d_K_waiting_8 (by decide) ?_
    exact k_iret d_K_waiting_9 rfl (by simp [cWaiting, *]) rfl

end KCK
