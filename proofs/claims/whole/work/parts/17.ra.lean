section KRA
set_option maxRecDepth 4000 in
theorem c_R_thread {l : Launch} {D : va_G} {cI cB cT : ClassId} {ad : Nat → Nat} {d : Nat} {u : kSt} {t : Int32} : KSp (kWl lyR l D cI cB cT ad) y_R_thread m_R_thread d [.ref 0, .int t] u (some (.int (bI (rThread u t)))) u := by
  refine KSp.of (by decide) rfl (Nat.le_of_ble_eq_true rfl) rfl ?_
  show KAt (kWl lyR l D cI cB cT ad) m_R_thread d 0 [some (.ref 0), some (.int t)] [] u (some (.int (bI (rThread u t)))) u
  refine k_iload_n d_R_thread_0 rfl ?_
  refine k_if_lt d_R_thread_1 (fun h1 => ?_) (fun h1 => ?_)
  · refine k_iconst (v := 0) d_R_thread_23 (by decide) ?_
    exact k_zret d_R_thread_24 rfl (by first | rfl | exact nb_bI _) (by first | rfl | (simp [rThread, bI] <;> done) | (simp [rThread, bI, *] <;> done)) (by first | rfl | (simp [rThread, bI] <;> done) | (simp [rThread, bI, *] <;> done))
  · refine k_iload_n d_R_thread_4 rfl ?_
    refine k_bipush (v := 8) d_R_thread_5 (by decide) ?_
    refine k_icmp_ge d_R_thread_7 (fun h7 => ?_) (fun h7 => ?_)
    · refine k_iconst (v := 0) d_R_thread_23 (by decide) ?_
      exact k_zret d_R_thread_24 rfl (by first | rfl | exact nb_bI _) (by first | rfl | (simp [rThread, bI] <;> done) | (simp [rThread, bI, *] <;> done)) (by first | rfl | (simp [rThread, bI] <;> done) | (simp [rThread, bI, *] <;> done))
    · refine k_aload_n d_R_thread_10 rfl ?_
      refine k_getr (t := 1) d_R_thread_11 f_R_7 (by decide) rfl (by decide) (by decide) rfl ?_
      refine k_iload_n d_R_thread_14 rfl ?_
      refine k_bald d_R_thread_15 (by decide) rfl (by first | assumption | (unfold vp_in; decide) | exact vin (by assumption) (by assumption) | exact vin_n (by assumption) | exact vin_n (by omega)) ?_
      refine k_if_eq d_R_thread_16 (fun h16 => ?_) (fun h16 => ?_)
      · refine k_iconst (v := 0) d_R_thread_23 (by decide) ?_
        exact k_zret d_R_thread_24 rfl (by first | rfl | exact nb_bI _) (by first | rfl | (simp [rThread, bI] <;> done) | (simp [rThread, bI, *] <;> done)) (by first | rfl | (simp [rThread, bI] <;> done) | (simp [rThread, bI, *] <;> done))
      · refine k_iconst (v := 1) d_R_thread_19 (by decide) ?_
        refine k_goto d_R_thread_20 ?_
        exact k_zret d_R_thread_24 rfl (by first | rfl | exact nb_bI _) (by first | rfl | (simp [rThread, bI] <;> done) | (simp [rThread, bI, *] <;> done)) (by first | rfl | (simp [rThread, bI] <;> done) | (simp [rThread, bI, *] <;> done))

set_option maxRecDepth 4000 in
theorem c_R_running {l : Launch} {D : va_G} {cI cB cT : ClassId} {ad : Nat → Nat} {d : Nat} {u : kSt} {t : Int32} : KSp (kWl lyR l D cI cB cT ad) y_R_running m_R_running (d + 1) [.ref 0, .int t] u (some (.int (bI (rRunning u t)))) u := by
  refine KSp.of (by decide) rfl (Nat.le_of_ble_eq_true rfl) rfl ?_
  show KAt (kWl lyR l D cI cB cT ad) m_R_running (d + 1) 0 [some (.ref 0), some (.int t)] [] u (some (.int (bI (rRunning u t)))) u
  refine k_aload_n d_R_running_0 rfl ?_
  refine k_iload_n d_R_running_1 rfl ?_
  refine k_virt1s d_R_running_2 l_R_87 g_R_thread c_R_thread rcvR (Nat.le_of_ble_eq_true rfl) ?_
  refine k_if_eqB d_R_running_5 (fun h5 => ?_) (fun h5 => ?_)
  · refine k_iconst (v := 0) d_R_running_21 (by decide) ?_
    exact k_zret d_R_running_22 rfl (by first | rfl | exact nb_bI _) (by first | rfl | (simp [rRunning, bI] <;> done) | (simp [rRunning, bI, *] <;> done)) (by first | rfl | (simp [rRunning, bI] <;> done) | (simp [rRunning, bI, *] <;> done))
  · refine k_aload_n d_R_running_8 rfl ?_
    refine k_getr (t := 13) d_R_running_9 f_R_47 (by decide) rfl (by decide) (by decide) rfl ?_
    refine k_iload_n d_R_running_12 rfl ?_
    refine k_iald d_R_running_13 (by decide) rfl (rThread_in h5) ?_
    refine k_if_ne d_R_running_14 (fun h14 => ?_) (fun h14 => ?_)
    · refine k_iconst (v := 0) d_R_running_21 (by decide) ?_
      exact k_zret d_R_running_22 rfl (by first | rfl | exact nb_bI _) (by first | rfl | (simp [rRunning, bI] <;> done) | (simp [rRunning, bI, *] <;> done)) (by first | rfl | (simp [rRunning, bI] <;> done) | (simp [rRunning, bI, *] <;> done))
    · refine k_iconst (v := 1) d_R_running_17 (by decide) ?_
      refine k_goto d_R_running_18 ?_
      exact k_zret d_R_running_22 rfl (by first | rfl | exact nb_bI _) (by first | rfl | (simp [rRunning, bI] <;> done) | (simp [rRunning, bI, *] <;> done)) (by first | rfl | (simp [rRunning, bI] <;> done) | (simp [rRunning, bI, *] <;> done))

set_option maxRecDepth 4000 in
theorem c_R_run {l : Launch} {D : va_G} {cI cB cT : ClassId} {ad : Nat → Nat} {d : Nat} {u : kSt} {i : Nat} {o : Int32} (hi : i < 8) : KSp (kWl lyR l D cI cB cT ad) y_R_run m_R_run d [.ref 0, .int (nI i), .int o] u none (rRun u i o) := by
  refine KSp.of (by decide) rfl (Nat.le_of_ble_eq_true rfl) rfl ?_
  show KAt (kWl lyR l D cI cB cT ad) m_R_run d 0 [some (.ref 0), some (.int (nI i)), some (.int o)] [] u none (rRun u i o)
  refine k_aload_n d_R_run_0 rfl ?_
  refine k_getr (t := 13) d_R_run_1 f_R_47 (by decide) rfl (by decide) (by decide) rfl ?_
  refine k_iload_n d_R_run_4 rfl ?_
  refine k_iconst (v := 0) d_R_run_5 (by decide) ?_
  refine k_iastN (n := 8) d_R_run_6 (by decide) rfl rfl (by first | assumption | omega) (by decide) ?_
  refine k_aload_n d_R_run_7 rfl ?_
  refine k_getr (t := 9) d_R_run_8 f_R_35 (by decide) rfl (by decide) (by decide) rfl ?_
  refine k_iload_n d_R_run_11 rfl ?_
  refine k_iload_n d_R_run_12 rfl ?_
  refine k_iastN (n := 8) d_R_run_13 (by decide) rfl rfl (by first | assumption | omega) (by decide) ?_
  exact k_vret d_R_run_14 rfl rfl (by first | rfl | (simp [rRun] <;> done) | (simp [rRun, *] <;> done))

set_option maxRecDepth 4000 in
theorem c_R_linger {l : Launch} {D : va_G} {cI cB cT : ClassId} {ad : Nat → Nat} {d : Nat} {u : kSt} {i : Nat} {a b c : Int32} (hi : i < 8) : KSp (kWl lyR l D cI cB cT ad) y_R_linger m_R_linger d [.ref 0, .int (nI i), .int a, .int b, .int c] u none (rLinger u i a b c) := by
  refine KSp.of (by decide) rfl (Nat.le_of_ble_eq_true rfl) rfl ?_
  show KAt (kWl lyR l D cI cB cT ad) m_R_linger d 0 [some (.ref 0), some (.int (nI i)), some (.int a), some (.int b), some (.int c)] [] u none (rLinger u i a b c)
  refine k_aload_n d_R_linger_0 rfl ?_
  refine k_getr (t := 13) d_R_linger_1 f_R_47 (by decide) rfl (by decide) (by decide) rfl ?_
  refine k_iload_n d_R_linger_4 rfl ?_
  refine k_iload_n d_R_linger_5 rfl ?_
  refine k_iastN (n := 8) d_R_linger_6 (by decide) rfl rfl (by first | assumption | omega) (by decide) ?_
  refine k_aload_n d_R_linger_7 rfl ?_
  refine k_getr (t := 14) d_R_linger_8 f_R_50 (by decide) rfl (by decide) (by decide) rfl ?_
  refine k_iload_n d_R_linger_11 rfl ?_
  refine k_iload_n d_R_linger_12 rfl ?_
  refine k_iastN (n := 8) d_R_linger_13 (by decide) rfl rfl (by first | assumption | omega) (by decide) ?_
  refine k_aload_n d_R_linger_14 rfl ?_
  refine k_getr (t := 15) d_R_linger_15 f_R_53 (by decide) rfl (by decide) (by decide) rfl ?_
  refine k_iload_n d_R_linger_18 rfl ?_
  refine k_iload d_R_linger_19 rfl ?_
  refine k_if_ge d_R_linger_21 (fun h21 => ?_) (fun h21 => ?_)
  · refine k_aload_n d_R_linger_28 rfl ?_
    refine k_getf d_R_linger_29 f_R_91 (by decide) rfl (by decide) (by decide) rfl ?_
    refine k_iload d_R_linger_32 rfl ?_
    refine k_iadd d_R_linger_34 ?_
    refine k_iastN (n := 8) d_R_linger_35 (by decide) rfl rfl (by first | assumption | omega) (by decide) ?_
    refine k_aload_n d_R_linger_36 rfl ?_
    refine k_getr (t := 16) d_R_linger_37 f_R_56 (by decide) rfl (by decide) (by decide) rfl ?_
    refine k_iload_n d_R_linger_40 rfl ?_
    refine k_aload_n d_R_linger_41 rfl ?_
    refine k_getf d_R_linger_42 f_R_95 (by decide) rfl (by decide) (by decide) rfl ?_
    refine k_iastN (n := 8) d_R_linger_45 (by decide) rfl rfl (by first | assumption | omega) (by decide) ?_
    refine k_aload_n d_R_linger_46 rfl ?_
    refine k_dup d_R_linger_47 rfl ?_
    refine k_getf d_R_linger_48 f_R_95 (by decide) rfl (by decide) (by decide) rfl ?_
    refine k_iconst (v := 1) d_R_linger_51 (by decide) ?_
    refine k_iadd d_R_linger_52 ?_
    refine k_putf d_R_linger_53 p_R_95 (by decide) rfl (by decide) (by decide) rfl rfl rfl ?_
    exact k_vret d_R_linger_56 rfl rfl (by simp [rLinger, kup_o, *])
  · refine k_iconst (v := (-1)) d_R_linger_24 (by decide) ?_
    refine k_goto d_R_linger_25 ?_
    refine k_iastN (n := 8) d_R_linger_35 (by decide) rfl rfl (by first | assumption | omega) (by decide) ?_
    refine k_aload_n d_R_linger_36 rfl ?_
    refine k_getr (t := 16) d_R_linger_37 f_R_56 (by decide) rfl (by decide) (by decide) rfl ?_
    refine k_iload_n d_R_linger_40 rfl ?_
    refine k_aload_n d_R_linger_41 rfl ?_
    refine k_getf d_R_linger_42 f_R_95 (by decide) rfl (by decide) (by decide) rfl ?_
    refine k_iastN (n := 8) d_R_linger_45 (by decide) rfl rfl (by first | assumption | omega) (by decide) ?_
    refine k_aload_n d_R_linger_46 rfl ?_
    refine k_dup d_R_linger_47 rfl ?_
    refine k_getf d_R_linger_48 f_R_95 (by decide) rfl (by decide) (by decide) rfl ?_
    refine k_iconst (v := 1) d_R_linger_51 (by decide) ?_
    refine k_iadd d_R_linger_52 ?_
    refine k_putf d_R_linger_53 p_R_95 (by decide) rfl (by decide) (by decide) rfl rfl rfl ?_
    exact k_vret d_R_linger_56 rfl rfl (by simp [rLinger, kup_o, *])

theorem c_R_begin_loop {l : Launch} {D : va_G} {cI cB cT : ClassId} {ad : Nat → Nat} {d : Nat} {u : kSt} {i : Nat} {a b : Int32} (hi : i < 8) : ∀ (n k : Nat) (y : kSt), k + n = 4 → y = rClear (kup (kup (kup u 1 i 1) 2 i a) 3 i b) i k → KAt (kWl lyR l D cI cB cT ad) m_R_begin d 24 [some (.ref 0), some (.int (nI i)), some (.int a), some (.int b), some (.int (nI k))] [] y none (rBegin u i a b) := by
  intro n
  induction n with
  | zero =>
    intro k y hk hy
    subst hy
    obtain rfl : k = 4 := by omega
    refine k_iload d_R_begin_24 rfl ?_
    refine k_iconst (v := 4) d_R_begin_26 (by decide) ?_
    refine k_icmp_ge d_R_begin_27 (fun h27 => ?_) (fun h27 => absurd h27 (fun z => z (by decide)))
    refine k_aload_n d_R_begin_48 rfl ?_
    refine k_getr (t := 5) d_R_begin_49 f_R_23 (by decide) rfl (by decide) (by decide) rfl ?_
    refine k_iload_n d_R_begin_52 rfl ?_
    refine k_iconst (v := (-1)) d_R_begin_53 (by decide) ?_
    refine k_iastN (n := 8) d_R_begin_54 (by decide) rfl rfl (by first | assumption | omega) (by decide) ?_
    refine k_aload_n d_R_begin_55 rfl ?_
    refine k_getr (t := 8) d_R_begin_56 f_R_32 (by decide) rfl (by decide) (by decide) rfl ?_
    refine k_iload_n d_R_begin_59 rfl ?_
    refine k_iconst (v := (-1)) d_R_begin_60 (by decide) ?_
    refine k_iastN (n := 8) d_R_begin_61 (by decide) rfl rfl (by first | assumption | omega) (by decide) ?_
    refine k_aload_n d_R_begin_62 rfl ?_
    refine k_getr (t := 9) d_R_begin_63 f_R_35 (by decide) rfl (by decide) (by decide) rfl ?_
    refine k_iload_n d_R_begin_66 rfl ?_
    refine k_iconst (v := 0) d_R_begin_67 (by decide) ?_
    refine k_iastN (n := 8) d_R_begin_68 (by decide) rfl rfl (by first | assumption | omega) (by decide) ?_
    refine k_aload_n d_R_begin_69 rfl ?_
    refine k_getr (t := 10) d_R_begin_70 f_R_38 (by decide) rfl (by decide) (by decide) rfl ?_
    refine k_iload_n d_R_begin_73 rfl ?_
    refine k_iconst (v := (-1)) d_R_begin_74 (by decide) ?_
    refine k_iastN (n := 8) d_R_begin_75 (by decide) rfl rfl (by first | assumption | omega) (by decide) ?_
    refine k_aload_n d_R_begin_76 rfl ?_
    refine k_getr (t := 11) d_R_begin_77 f_R_41 (by decide) rfl (by decide) (by decide) rfl ?_
    refine k_iload_n d_R_begin_80 rfl ?_
    refine k_iconst (v := 0) d_R_begin_81 (by decide) ?_
    refine k_iastN (n := 8) d_R_begin_82 (by decide) rfl rfl (by first | assumption | omega) (by decide) ?_
    refine k_aload_n d_R_begin_83 rfl ?_
    refine k_getr (t := 12) d_R_begin_84 f_R_44 (by decide) rfl (by decide) (by decide) rfl ?_
    refine k_iload_n d_R_begin_87 rfl ?_
    refine k_iconst (v := 0) d_R_begin_88 (by decide) ?_
    refine k_iastN (n := 8) d_R_begin_89 (by decide) rfl rfl (by first | assumption | omega) (by decide) ?_
    refine k_aload_n d_R_begin_90 rfl ?_
    refine k_getr (t := 13) d_R_begin_91 f_R_47 (by decide) rfl (by decide) (by decide) rfl ?_
    refine k_iload_n d_R_begin_94 rfl ?_
    refine k_iconst (v := 0) d_R_begin_95 (by decide) ?_
    refine k_iastN (n := 8) d_R_begin_96 (by decide) rfl rfl (by first | assumption | omega) (by decide) ?_
    exact k_vret d_R_begin_97 rfl rfl (by simp only [rBegin])
  | succ n ih =>
    intro k y hk hy
    subst hy
    refine k_iload d_R_begin_24 rfl ?_
    refine k_iconst (v := 4) d_R_begin_26 (by decide) ?_
    refine k_icmp_ge d_R_begin_27 (fun h27 => absurd h27 (nI_ge (a := k) (b := 4) (by omega) (by decide))) (fun h27 => ?_)
    refine k_aload_n d_R_begin_30 rfl ?_
    refine k_getr (t := 4) d_R_begin_31 f_R_20 (by decide) rfl (by decide) (by decide) rfl ?_
    refine k_iconst (v := 4) d_R_begin_34 (by decide) ?_
    refine k_iload_n d_R_begin_35 rfl ?_
    refine k_imul d_R_begin_36 ?_
    refine k_iload d_R_begin_37 rfl ?_
    refine k_iadd d_R_begin_39 ?_
    rw [rg_eq hi (by omega)]
    refine k_iconst (v := 0) d_R_begin_40 (by decide) ?_
    refine k_iastN (n := 32) d_R_begin_41 (by decide) rfl rfl (by first | assumption | omega) (by decide) ?_
    refine k_incN d_R_begin_42 rfl (by decide) ?_
    refine k_goto d_R_begin_45 ?_
    exact ih (k + 1) _ (by omega) rfl

set_option maxRecDepth 4000 in
theorem c_R_begin {l : Launch} {D : va_G} {cI cB cT : ClassId} {ad : Nat → Nat} {d : Nat} {u : kSt} {i : Nat} {a b : Int32} (hi : i < 8) : KSp (kWl lyR l D cI cB cT ad) y_R_begin m_R_begin d [.ref 0, .int (nI i), .int a, .int b] u none (rBegin u i a b) := by
  refine KSp.of (by decide) rfl (Nat.le_of_ble_eq_true rfl) rfl ?_
  show KAt (kWl lyR l D cI cB cT ad) m_R_begin d 0 [some (.ref 0), some (.int (nI i)), some (.int a), some (.int b), none] [] u none (rBegin u i a b)
  refine k_aload_n d_R_begin_0 rfl ?_
  refine k_getr (t := 1) d_R_begin_1 f_R_7 (by decide) rfl (by decide) (by decide) rfl ?_
  refine k_iload_n d_R_begin_4 rfl ?_
  refine k_iconst (v := 1) d_R_begin_5 (by decide) ?_
  refine k_bastN (n := 8) d_R_begin_6 (by decide) rfl rfl (by first | assumption | omega) (by decide) rfl ?_
  refine k_aload_n d_R_begin_7 rfl ?_
  refine k_getr (t := 2) d_R_begin_8 f_R_13 (by decide) rfl (by decide) (by decide) rfl ?_
  refine k_iload_n d_R_begin_11 rfl ?_
  refine k_iload_n d_R_begin_12 rfl ?_
  refine k_iastN (n := 8) d_R_begin_13 (by decide) rfl rfl (by first | assumption | omega) (by decide) ?_
  refine k_aload_n d_R_begin_14 rfl ?_
  refine k_getr (t := 3) d_R_begin_15 f_R_17 (by decide) rfl (by decide) (by decide) rfl ?_
  refine k_iload_n d_R_begin_18 rfl ?_
  refine k_iload_n d_R_begin_19 rfl ?_
  refine k_iastN (n := 8) d_R_begin_20 (by decide) rfl rfl (by first | assumption | omega) (by decide) ?_
  refine k_iconst (v := 0) d_R_begin_21 (by decide) ?_
  refine k_istore d_R_begin_22 (by decide) ?_
  exact c_R_begin_loop hi 4 0 _ rfl rfl

theorem c_R_spawn_2 {l : Launch} {D : va_G} {cI cB cT : ClassId} {ad : Nat → Nat} {d : Nat} {u : kSt} {a b e : Int32} (he : e = -1 ∨ vp_in e 8) : KAt (kWl lyR l D cI cB cT ad) m_R_spawn (d + 1) 34 [some (.ref 0), some (.int a), some (.int b), some (.int e), none] [] u (some (.int (rSp2 u a b e).1)) (rSp2 u a b e).2 := by
  refine k_iload_n d_R_spawn_34 rfl ?_
  refine k_if_lt d_R_spawn_35 (fun h35 => ?_) (fun h35 => ?_)
  · refine k_iconst (v := (-1)) d_R_spawn_60 (by decide) ?_
    exact k_iret d_R_spawn_61 rfl (by simp [rSp2, *]) (by simp [rSp2, *])
  · refine k_iload_n d_R_spawn_38 rfl ?_
    refine k_iconst (v := 5) d_R_spawn_39 (by decide) ?_
    refine k_icmp_gt d_R_spawn_40 (fun h40 => ?_) (fun h40 => ?_)
    · refine k_iconst (v := (-1)) d_R_spawn_60 (by decide) ?_
      exact k_iret d_R_spawn_61 rfl (by simp [rSp2, *]) (by simp [rSp2, *])
    · refine k_iload_n d_R_spawn_43 rfl ?_
      refine k_iconst (v := (-1)) d_R_spawn_44 (by decide) ?_
      refine k_icmp_eq d_R_spawn_45 (fun h45 => ?_) (fun h45 => ?_)
      · refine k_iload_n d_R_spawn_56 rfl ?_
        refine k_if_ge d_R_spawn_57 (fun h57 => ?_) (fun h57 => ?_)
        · obtain ⟨j, hj, rfl⟩ := vp_in_of (or_ge' he h57) (by decide)
          have hx := ix_nI (n := j) (by omega)
          refine k_aload_n d_R_spawn_62 rfl ?_
          refine k_iload_n d_R_spawn_63 rfl ?_
          refine k_iload_n d_R_spawn_64 rfl ?_
          refine k_iload_n d_R_spawn_65 rfl ?_
          refine k_virt3v d_R_spawn_66 l_R_83 g_R_begin (c_R_begin hj) rcvR (Nat.le_of_ble_eq_true rfl) ?_
          refine k_iload_n d_R_spawn_69 rfl ?_
          exact k_iret d_R_spawn_70 rfl (by simp [rSp2, *]) (by simp [rSp2, *])
        · refine k_iconst (v := (-1)) d_R_spawn_60 (by decide) ?_
          exact k_iret d_R_spawn_61 rfl (by simp [rSp2, *]) (by simp [rSp2, *])
      · refine k_aload_n d_R_spawn_48 rfl ?_
        refine k_iload_n d_R_spawn_49 rfl ?_
        refine k_virt1s d_R_spawn_50 l_R_87 g_R_thread c_R_thread rcvR (Nat.le_of_ble_eq_true rfl) ?_
        refine k_if_eqB d_R_spawn_53 (fun h53 => ?_) (fun h53 => ?_)
        · refine k_iconst (v := (-1)) d_R_spawn_60 (by decide) ?_
          exact k_iret d_R_spawn_61 rfl (by simp [rSp2, *]) (by simp [rSp2, *])
        · refine k_iload_n d_R_spawn_56 rfl ?_
          refine k_if_ge d_R_spawn_57 (fun h57 => ?_) (fun h57 => ?_)
          · obtain ⟨j, hj, rfl⟩ := vp_in_of (or_ge' he h57) (by decide)
            have hx := ix_nI (n := j) (by omega)
            refine k_aload_n d_R_spawn_62 rfl ?_
            refine k_iload_n d_R_spawn_63 rfl ?_
            refine k_iload_n d_R_spawn_64 rfl ?_
            refine k_iload_n d_R_spawn_65 rfl ?_
            refine k_virt3v d_R_spawn_66 l_R_83 g_R_begin (c_R_begin hj) rcvR (Nat.le_of_ble_eq_true rfl) ?_
            refine k_iload_n d_R_spawn_69 rfl ?_
            exact k_iret d_R_spawn_70 rfl (by simp [rSp2, *]) (by simp [rSp2, *])
          · refine k_iconst (v := (-1)) d_R_spawn_60 (by decide) ?_
            exact k_iret d_R_spawn_61 rfl (by simp [rSp2, *]) (by simp [rSp2, *])
theorem c_R_spawn_loop {l : Launch} {D : va_G} {cI cB cT : ClassId} {ad : Nat → Nat} {d : Nat} {u : kSt} {a b : Int32} {R : Option Value} {X : kSt} (N : Nat) (hN : N = 8) (hE : KAt (kWl lyR l D cI cB cT ad) m_R_spawn (d + 1) 34 [some (.ref 0), some (.int a), some (.int b), some (.int (rFree u N)), none] [] u R X) : ∀ (m j : Nat) (f : Int32), m + j = N → f = rFree u j → KAt (kWl lyR l D cI cB cT ad) m_R_spawn (d + 1) 6 [some (.ref 0), some (.int a), some (.int b), some (.int f), some (.int (nI m + (-1)))] [] u R X := by
  intro m
  induction m with
  | zero =>
    intro j f hj hf
    subst hf
    obtain rfl : j = N := by omega
    refine k_iload d_R_spawn_6 rfl ?_
    refine k_if_lt d_R_spawn_8 (fun h8 => ?_) (fun h8 => absurd h8 (fun z => z (by decide)))
    refine k_forget 4 ?_
    exact hE
  | succ m ih =>
    intro j f hj hf
    subst hf
    have hm : 7 - j = m := by omega
    have h0 := nI_pos (n := m) (by omega)
    rw [pk_m1]
    refine k_iload d_R_spawn_6 rfl ?_
    refine k_if_lt d_R_spawn_8 (fun h8 => absurd h8 h0) (fun h8 => ?_)
    refine k_aload_n d_R_spawn_11 rfl ?_
    refine k_getr (t := 1) d_R_spawn_12 f_R_7 (by decide) rfl (by decide) (by decide) rfl ?_
    refine k_iload d_R_spawn_15 rfl ?_
    refine k_baldN (n := 8) d_R_spawn_17 (by decide) rfl rfl (by first | assumption | omega) (by decide) ?_
    refine k_if_eq d_R_spawn_18 (fun h18 => ?_) (fun h18 => ?_)
    · refine k_iload d_R_spawn_25 rfl ?_
      refine k_istore_n d_R_spawn_27 (by decide) ?_
      refine k_dec1 d_R_spawn_28 rfl (by decide) ?_
      refine k_goto d_R_spawn_31 ?_
      exact ih (j + 1) _ (by omega) (by simp [rFree, *])
    · refine k_iload_n d_R_spawn_21 rfl ?_
      refine k_goto d_R_spawn_22 ?_
      refine k_istore_n d_R_spawn_27 (by decide) ?_
      refine k_dec1 d_R_spawn_28 rfl (by decide) ?_
      refine k_goto d_R_spawn_31 ?_
      exact ih (j + 1) _ (by omega) (by simp [rFree, *])

set_option maxRecDepth 4000 in
theorem c_R_spawn {l : Launch} {D : va_G} {cI cB cT : ClassId} {ad : Nat → Nat} {d : Nat} {u : kSt} {a b : Int32} : KSp (kWl lyR l D cI cB cT ad) y_R_spawn m_R_spawn (d + 1) [.ref 0, .int a, .int b] u (some (.int (rSpawn u a b).1)) (rSpawn u a b).2 := by
  refine KSp.of (by decide) rfl (Nat.le_of_ble_eq_true rfl) rfl ?_
  show KAt (kWl lyR l D cI cB cT ad) m_R_spawn (d + 1) 0 [some (.ref 0), some (.int a), some (.int b), none, none] [] u (some (.int (rSpawn u a b).1)) (rSpawn u a b).2
  refine k_iconst (v := (-1)) d_R_spawn_0 (by decide) ?_
  refine k_istore_n d_R_spawn_1 (by decide) ?_
  refine k_bipush (v := 7) d_R_spawn_2 (by decide) ?_
  refine k_istore d_R_spawn_4 (by decide) ?_
  exact c_R_spawn_loop (a := a) (b := b) 8 rfl (c_R_spawn_2 (rFree_in 8)) 8 0 _ rfl rfl

theorem c_R_delete_2 {l : Launch} {D : va_G} {cI cB cT : ClassId} {ad : Nat → Nat} {d : Nat} {u : kSt} {i : Nat} {t : Int32} {R : Option Value} {X : kSt} (hi : i < 8) (hE : KAt (kWl lyR l D cI cB cT ad) m_R_delete (d + 1) 148 [some (.ref 0), some (.int t), some (.int (nI i)), none] [] (rOut2 u i t) R X) : KAt (kWl lyR l D cI cB cT ad) m_R_delete (d + 1) 94 [some (.ref 0), some (.int t), some (.int (nI i)), none] [] u R X := by
  refine k_aload_n d_R_delete_94 rfl ?_
  refine k_getr (t := 3) d_R_delete_95 f_R_17 (by decide) rfl (by decide) (by decide) rfl ?_
  refine k_iload_n d_R_delete_98 rfl ?_
  refine k_ialdN (n := 8) d_R_delete_99 (by decide) rfl rfl (by first | assumption | omega) (by decide) ?_
  refine k_iload_n d_R_delete_100 rfl ?_
  refine k_icmp_ne d_R_delete_101 (fun h101 => ?_) (fun h101 => ?_)
  · refine cast (congrArg (fun z => KAt (kWl lyR l D cI cB cT ad) m_R_delete (d + 1) 148 _ _ z R X) ?_) hE
    simp [rOut2, kup_o, *] at *
    try simp [*]
  · refine k_aload_n d_R_delete_104 rfl ?_
    refine k_getr (t := 3) d_R_delete_105 f_R_17 (by decide) rfl (by decide) (by decide) rfl ?_
    refine k_iload_n d_R_delete_108 rfl ?_
    refine k_iconst (v := (-1)) d_R_delete_109 (by decide) ?_
    refine k_iastN (n := 8) d_R_delete_110 (by decide) rfl rfl (by first | assumption | omega) (by decide) ?_
    refine k_aload_n d_R_delete_111 rfl ?_
    refine k_getr (t := 13) d_R_delete_112 f_R_47 (by decide) rfl (by decide) (by decide) rfl ?_
    refine k_iload_n d_R_delete_115 rfl ?_
    refine k_aload_n d_R_delete_116 rfl ?_
    refine k_getr (t := 13) d_R_delete_117 f_R_47 (by decide) rfl (by decide) (by decide) rfl ?_
    refine k_iload_n d_R_delete_120 rfl ?_
    refine k_ialdN (n := 8) d_R_delete_121 (by decide) rfl rfl (by first | assumption | omega) (by decide) ?_
    refine k_iconst (v := 4) d_R_delete_122 (by decide) ?_
    refine k_icmp_eq d_R_delete_123 (fun h123 => ?_) (fun h123 => ?_)
    · refine k_bipush (v := 6) d_R_delete_136 (by decide) ?_
      refine k_goto d_R_delete_138 ?_
      refine k_iastN (n := 8) d_R_delete_147 (by decide) rfl rfl (by first | assumption | omega) (by decide) ?_
      refine cast (congrArg (fun z => KAt (kWl lyR l D cI cB cT ad) m_R_delete (d + 1) 148 _ _ z R X) ?_) hE
      simp [rOut2, kup_o, *] at *
      try simp [*]
    · refine k_aload_n d_R_delete_126 rfl ?_
      refine k_getr (t := 13) d_R_delete_127 f_R_47 (by decide) rfl (by decide) (by decide) rfl ?_
      refine k_iload_n d_R_delete_130 rfl ?_
      refine k_ialdN (n := 8) d_R_delete_131 (by decide) rfl rfl (by first | assumption | omega) (by decide) ?_
      refine k_iconst (v := 5) d_R_delete_132 (by decide) ?_
      refine k_icmp_ne d_R_delete_133 (fun h133 => ?_) (fun h133 => ?_)
      · refine k_aload_n d_R_delete_141 rfl ?_
        refine k_getr (t := 13) d_R_delete_142 f_R_47 (by decide) rfl (by decide) (by decide) rfl ?_
        refine k_iload_n d_R_delete_145 rfl ?_
        refine k_ialdN (n := 8) d_R_delete_146 (by decide) rfl rfl (by first | assumption | omega) (by decide) ?_
        refine k_iastN (n := 8) d_R_delete_147 (by decide) rfl rfl (by first | assumption | omega) (by decide) ?_
        refine cast (congrArg (fun z => KAt (kWl lyR l D cI cB cT ad) m_R_delete (d + 1) 148 _ _ z R X) ?_) hE
        simp [rOut2, kup_o, *] at *
        try simp [*]
      · refine k_bipush (v := 6) d_R_delete_136 (by decide) ?_
        refine k_goto d_R_delete_138 ?_
        refine k_iastN (n := 8) d_R_delete_147 (by decide) rfl rfl (by first | assumption | omega) (by decide) ?_
        refine cast (congrArg (fun z => KAt (kWl lyR l D cI cB cT ad) m_R_delete (d + 1) 148 _ _ z R X) ?_) hE
        simp [rOut2, kup_o, *] at *
        try simp [*]

theorem c_R_delete_loop {l : Launch} {D : va_G} {cI cB cT : ClassId} {ad : Nat → Nat} {d : Nat} {u : kSt} {t : Int32} (N : Nat) (hN : N = 8) : ∀ (n k : Nat) (y : kSt), k + n = N → y = rOutAll u t k → KAt (kWl lyR l D cI cB cT ad) m_R_delete (d + 1) 23 [some (.ref 0), some (.int t), some (.int (nI k)), none] [] y (some (.int 1)) (rOutAll u t N) := by
  intro n
  induction n with
  | zero =>
    intro k y hk hy
    subst hy
    obtain rfl : k = N := by omega
    have h0 : ¬ ¬ (8 : Int32) ≤ nI k := by rw [hN]; decide
    refine k_iload_n d_R_delete_23 rfl ?_
    refine k_bipush (v := 8) d_R_delete_24 (by decide) ?_
    refine k_icmp_ge d_R_delete_26 (fun h26 => ?_) (fun h26 => absurd h26 h0)
    refine k_iconst (v := 1) d_R_delete_154 (by decide) ?_
    exact k_zret d_R_delete_155 rfl (by first | rfl | exact nb_bI _) (by first | rfl | (simp [bI] <;> done) | (simp [bI, *] <;> done)) (by first | rfl | (simp [bI] <;> done) | (simp [bI, *] <;> done))
  | succ n ih =>
    intro k y hk hy
    subst hy
    have hk2 : k < 8 := by omega
    have h0 : ¬ (8 : Int32) ≤ nI k := nI_ge (a := k) (b := 8) hk2 (by decide)
    have hE : ∀ y, y = rOutAll u t (k + 1) → KAt (kWl lyR l D cI cB cT ad) m_R_delete (d + 1) 148 [some (.ref 0), some (.int t), some (.int (nI k)), none] [] y (some (.int 1)) (rOutAll u t N) := by
      intro y hy
      refine k_incN d_R_delete_148 rfl (by decide) ?_
      refine k_goto d_R_delete_151 ?_
      exact ih (k + 1) _ (by omega) hy
    refine k_iload_n d_R_delete_23 rfl ?_
    refine k_bipush (v := 8) d_R_delete_24 (by decide) ?_
    refine k_icmp_ge d_R_delete_26 (fun h26 => absurd h26 h0) (fun h26 => ?_)
    refine k_aload_n d_R_delete_29 rfl ?_
    refine k_getr (t := 1) d_R_delete_30 f_R_7 (by decide) rfl (by decide) (by decide) rfl ?_
    refine k_iload_n d_R_delete_33 rfl ?_
    refine k_baldN (n := 8) d_R_delete_34 (by decide) rfl rfl (by first | assumption | omega) (by decide) ?_
    refine k_if_eq d_R_delete_35 (fun h35 => ?_) (fun h35 => ?_)
    · exact hE _ (by simp [rOutAll, rOutlive, *])
    · refine k_aload_n d_R_delete_38 rfl ?_
      refine k_getr (t := 13) d_R_delete_39 f_R_47 (by decide) rfl (by decide) (by decide) rfl ?_
      refine k_iload_n d_R_delete_42 rfl ?_
      refine k_ialdN (n := 8) d_R_delete_43 (by decide) rfl rfl (by first | assumption | omega) (by decide) ?_
      refine k_iconst (v := 1) d_R_delete_44 (by decide) ?_
      refine k_icmp_eq d_R_delete_45 (fun h45 => ?_) (fun h45 => ?_)
      · refine k_aload_n d_R_delete_68 rfl ?_
        refine k_getr (t := 14) d_R_delete_69 f_R_50 (by decide) rfl (by decide) (by decide) rfl ?_
        refine k_iload_n d_R_delete_72 rfl ?_
        refine k_ialdN (n := 8) d_R_delete_73 (by decide) rfl rfl (by first | assumption | omega) (by decide) ?_
        refine k_iload_n d_R_delete_74 rfl ?_
        refine k_icmp_ne d_R_delete_75 (fun h75 => ?_) (fun h75 => ?_)
        · refine k_iconst (v := 0) d_R_delete_82 (by decide) ?_
          refine k_istore_n d_R_delete_83 (by decide) ?_
          refine k_iload_n d_R_delete_84 rfl ?_
          refine k_if_eq d_R_delete_85 (fun _ => ?_) (fun h => absurd h (by decide))
          refine k_forget 3 ?_
          exact c_R_delete_2 hk2 (hE _ (by simp [rOutAll, rOutlive, rOut1, rMeets, *]))
        · refine k_iconst (v := 1) d_R_delete_78 (by decide) ?_
          refine k_goto d_R_delete_79 ?_
          refine k_istore_n d_R_delete_83 (by decide) ?_
          refine k_iload_n d_R_delete_84 rfl ?_
          refine k_if_eq d_R_delete_85 (fun h => absurd h (by decide)) (fun _ => ?_)
          refine k_aload_n d_R_delete_88 rfl ?_
          refine k_iload_n d_R_delete_89 rfl ?_
          refine k_iconst (v := 2) d_R_delete_90 (by decide) ?_
          refine k_virt2v d_R_delete_91 l_R_98 g_R_run (c_R_run hk2) rcvR (Nat.le_of_ble_eq_true rfl) ?_
          refine k_forget 3 ?_
          exact c_R_delete_2 hk2 (hE _ (by simp [rOutAll, rOutlive, rOut1, rMeets, *]))
      · refine k_aload_n d_R_delete_48 rfl ?_
        refine k_getr (t := 13) d_R_delete_49 f_R_47 (by decide) rfl (by decide) (by decide) rfl ?_
        refine k_iload_n d_R_delete_52 rfl ?_
        refine k_ialdN (n := 8) d_R_delete_53 (by decide) rfl rfl (by first | assumption | omega) (by decide) ?_
        refine k_iconst (v := 3) d_R_delete_54 (by decide) ?_
        refine k_icmp_eq d_R_delete_55 (fun h55 => ?_) (fun h55 => ?_)
        · refine k_aload_n d_R_delete_68 rfl ?_
          refine k_getr (t := 14) d_R_delete_69 f_R_50 (by decide) rfl (by decide) (by decide) rfl ?_
          refine k_iload_n d_R_delete_72 rfl ?_
          refine k_ialdN (n := 8) d_R_delete_73 (by decide) rfl rfl (by first | assumption | omega) (by decide) ?_
          refine k_iload_n d_R_delete_74 rfl ?_
          refine k_icmp_ne d_R_delete_75 (fun h75 => ?_) (fun h75 => ?_)
          · refine k_iconst (v := 0) d_R_delete_82 (by decide) ?_
            refine k_istore_n d_R_delete_83 (by decide) ?_
            refine k_iload_n d_R_delete_84 rfl ?_
            refine k_if_eq d_R_delete_85 (fun _ => ?_) (fun h => absurd h (by decide))
            refine k_forget 3 ?_
            exact c_R_delete_2 hk2 (hE _ (by simp [rOutAll, rOutlive, rOut1, rMeets, *]))
          · refine k_iconst (v := 1) d_R_delete_78 (by decide) ?_
            refine k_goto d_R_delete_79 ?_
            refine k_istore_n d_R_delete_83 (by decide) ?_
            refine k_iload_n d_R_delete_84 rfl ?_
            refine k_if_eq d_R_delete_85 (fun h => absurd h (by decide)) (fun _ => ?_)
            refine k_aload_n d_R_delete_88 rfl ?_
            refine k_iload_n d_R_delete_89 rfl ?_
            refine k_iconst (v := 2) d_R_delete_90 (by decide) ?_
            refine k_virt2v d_R_delete_91 l_R_98 g_R_run (c_R_run hk2) rcvR (Nat.le_of_ble_eq_true rfl) ?_
            refine k_forget 3 ?_
            exact c_R_delete_2 hk2 (hE _ (by simp [rOutAll, rOutlive, rOut1, rMeets, *]))
        · refine k_aload_n d_R_delete_58 rfl ?_
          refine k_getr (t := 13) d_R_delete_59 f_R_47 (by decide) rfl (by decide) (by decide) rfl ?_
          refine k_iload_n d_R_delete_62 rfl ?_
          refine k_ialdN (n := 8) d_R_delete_63 (by decide) rfl rfl (by first | assumption | omega) (by decide) ?_
          refine k_iconst (v := 2) d_R_delete_64 (by decide) ?_
          refine k_icmp_ne d_R_delete_65 (fun h65 => ?_) (fun h65 => ?_)
          · refine k_iconst (v := 0) d_R_delete_82 (by decide) ?_
            refine k_istore_n d_R_delete_83 (by decide) ?_
            refine k_iload_n d_R_delete_84 rfl ?_
            refine k_if_eq d_R_delete_85 (fun _ => ?_) (fun h => absurd h (by decide))
            refine k_forget 3 ?_
            exact c_R_delete_2 hk2 (hE _ (by simp [rOutAll, rOutlive, rOut1, rMeets, *]))
          · refine k_aload_n d_R_delete_68 rfl ?_
            refine k_getr (t := 14) d_R_delete_69 f_R_50 (by decide) rfl (by decide) (by decide) rfl ?_
            refine k_iload_n d_R_delete_72 rfl ?_
            refine k_ialdN (n := 8) d_R_delete_73 (by decide) rfl rfl (by first | assumption | omega) (by decide) ?_
            refine k_iload_n d_R_delete_74 rfl ?_
            refine k_icmp_ne d_R_delete_75 (fun h75 => ?_) (fun h75 => ?_)
            · refine k_iconst (v := 0) d_R_delete_82 (by decide) ?_
              refine k_istore_n d_R_delete_83 (by decide) ?_
              refine k_iload_n d_R_delete_84 rfl ?_
              refine k_if_eq d_R_delete_85 (fun _ => ?_) (fun h => absurd h (by decide))
              refine k_forget 3 ?_
              exact c_R_delete_2 hk2 (hE _ (by simp [rOutAll, rOutlive, rOut1, rMeets, *]))
            · refine k_iconst (v := 1) d_R_delete_78 (by decide) ?_
              refine k_goto d_R_delete_79 ?_
              refine k_istore_n d_R_delete_83 (by decide) ?_
              refine k_iload_n d_R_delete_84 rfl ?_
              refine k_if_eq d_R_delete_85 (fun h => absurd h (by decide)) (fun _ => ?_)
              refine k_aload_n d_R_delete_88 rfl ?_
              refine k_iload_n d_R_delete_89 rfl ?_
              refine k_iconst (v := 2) d_R_delete_90 (by decide) ?_
              refine k_virt2v d_R_delete_91 l_R_98 g_R_run (c_R_run hk2) rcvR (Nat.le_of_ble_eq_true rfl) ?_
              refine k_forget 3 ?_
              exact c_R_delete_2 hk2 (hE _ (by simp [rOutAll, rOutlive, rOut1, rMeets, *]))

set_option maxRecDepth 4000 in
theorem c_R_delete {l : Launch} {D : va_G} {cI cB cT : ClassId} {ad : Nat → Nat} {d : Nat} {u : kSt} {t : Int32} : KSp (kWl lyR l D cI cB cT ad) y_R_delete m_R_delete (d + 1) [.ref 0, .int t] u (some (.int (rDelete u t).1)) (rDelete u t).2 := by
  refine KSp.of (by decide) rfl (Nat.le_of_ble_eq_true rfl) rfl ?_
  show KAt (kWl lyR l D cI cB cT ad) m_R_delete (d + 1) 0 [some (.ref 0), some (.int t), none, none] [] u (some (.int (rDelete u t).1)) (rDelete u t).2
  refine k_aload_n d_R_delete_0 rfl ?_
  refine k_iload_n d_R_delete_1 rfl ?_
  refine k_virt1s d_R_delete_2 l_R_87 g_R_thread c_R_thread rcvR (Nat.le_of_ble_eq_true rfl) ?_
  refine k_if_eqB d_R_delete_5 (fun h5 => ?_) (fun h5 => ?_)
  · refine k_iconst (v := 0) d_R_delete_12 (by decide) ?_
    exact k_zret d_R_delete_13 rfl (by first | rfl | exact nb_bI _) (by simp [rDelete, *]) (by simp [rDelete, *])
  · refine k_iload_n d_R_delete_8 rfl ?_
    refine k_if_ne d_R_delete_9 (fun h9 => ?_) (fun h9 => ?_)
    · refine k_aload_n d_R_delete_14 rfl ?_
      refine k_getr (t := 1) d_R_delete_15 f_R_7 (by decide) rfl (by decide) (by decide) rfl ?_
      refine k_iload_n d_R_delete_18 rfl ?_
      refine k_iconst (v := 0) d_R_delete_19 (by decide) ?_
      refine k_bast d_R_delete_20 (by decide) rfl (rThread_in h5) rfl ?_
      refine k_iconst (v := 0) d_R_delete_21 (by decide) ?_
      refine k_istore_n d_R_delete_22 (by decide) ?_
      exact (c_R_delete_loop 8 rfl 8 0 _ rfl rfl).to (by simp [rDelete, *]) (by simp [rDelete, *]; rfl)
    · refine k_iconst (v := 0) d_R_delete_12 (by decide) ?_
      exact k_zret d_R_delete_13 rfl (by first | rfl | exact nb_bI _) (by simp [rDelete, *]) (by simp [rDelete, *])

set_option maxRecDepth 4000 in
theorem c_R_load {l : Launch} {D : va_G} {cI cB cT : ClassId} {ad : Nat → Nat} {d : Nat} {u : kSt} {t k a : Int32} : KSp (kWl lyR l D cI cB cT ad) y_R_load m_R_load (d + 2) [.ref 0, .int t, .int k, .int a] u (some (.int (rLoad u t k a).1)) (rLoad u t k a).2 := by
  refine KSp.of (by decide) rfl (Nat.le_of_ble_eq_true rfl) rfl ?_
  show KAt (kWl lyR l D cI cB cT ad) m_R_load (d + 2) 0 [some (.ref 0), some (.int t), some (.int k), some (.int a)] [] u (some (.int (rLoad u t k a).1)) (rLoad u t k a).2
  refine k_aload_n d_R_load_0 rfl ?_
  refine k_iload_n d_R_load_1 rfl ?_
  refine k_virt1s d_R_load_2 l_R_102 g_R_running c_R_running rcvR (Nat.le_of_ble_eq_true rfl) ?_
  refine k_if_eqB d_R_load_5 (fun h5 => ?_) (fun h5 => ?_)
  · refine k_iconst (v := 0) d_R_load_17 (by decide) ?_
    exact k_zret d_R_load_18 rfl (by first | rfl | exact nb_bI _) (by first | rfl | (simp [rLoad] <;> done) | (simp [rLoad, *] <;> done)) (by first | rfl | (simp [rLoad] <;> done) | (simp [rLoad, *] <;> done))
  · refine k_iload_n d_R_load_8 rfl ?_
    refine k_if_lt d_R_load_9 (fun h9 => ?_) (fun h9 => ?_)
    · refine k_iconst (v := 0) d_R_load_17 (by decide) ?_
      exact k_zret d_R_load_18 rfl (by first | rfl | exact nb_bI _) (by first | rfl | (simp [rLoad] <;> done) | (simp [rLoad, *] <;> done)) (by first | rfl | (simp [rLoad] <;> done) | (simp [rLoad, *] <;> done))
    · refine k_iload_n d_R_load_12 rfl ?_
      refine k_iconst (v := 3) d_R_load_13 (by decide) ?_
      refine k_icmp_le d_R_load_14 (fun h14 => ?_) (fun h14 => ?_)
      · refine k_aload_n d_R_load_19 rfl ?_
        refine k_getr (t := 4) d_R_load_20 f_R_20 (by decide) rfl (by decide) (by decide) rfl ?_
        refine k_iconst (v := 4) d_R_load_23 (by decide) ?_
        refine k_iload_n d_R_load_24 rfl ?_
        refine k_imul d_R_load_25 ?_
        refine k_iload_n d_R_load_26 rfl ?_
        refine k_iadd d_R_load_27 ?_
        refine k_iload_n d_R_load_28 rfl ?_
        refine k_iast d_R_load_29 (by decide) rfl (rg_in (rRunning_in h5) (vin_le (m := 3) h9 (Int32.not_lt.mpr h14))) ?_
        refine k_iconst (v := 1) d_R_load_30 (by decide) ?_
        exact k_zret d_R_load_31 rfl (by first | rfl | exact nb_bI _) (by first | rfl | (simp [rLoad] <;> done) | (simp [rLoad, *] <;> done)) (by first | rfl | (simp [rLoad] <;> done) | (simp [rLoad, *] <;> done))
      · refine k_iconst (v := 0) d_R_load_17 (by decide) ?_
        exact k_zret d_R_load_18 rfl (by first | rfl | exact nb_bI _) (by first | rfl | (simp [rLoad] <;> done) | (simp [rLoad, *] <;> done)) (by first | rfl | (simp [rLoad] <;> done) | (simp [rLoad, *] <;> done))

set_option maxRecDepth 4000 in
theorem c_R_offer {l : Launch} {D : va_G} {cI cB cT : ClassId} {ad : Nat → Nat} {d : Nat} {u : kSt} {t p m g : Int32} (hg : g = 0 ∨ g = 1) : KSp (kWl lyR l D cI cB cT ad) y_R_offer m_R_offer (d + 2) [.ref 0, .int t, .int p, .int m, .int g] u (some (.int (rOfferCall u t p m g).1)) (rOfferCall u t p m g).2 := by
  refine KSp.of (by decide) rfl (Nat.le_of_ble_eq_true rfl) rfl ?_
  show KAt (kWl lyR l D cI cB cT ad) m_R_offer (d + 2) 0 [some (.ref 0), some (.int t), some (.int p), some (.int m), some (.int g)] [] u (some (.int (rOfferCall u t p m g).1)) (rOfferCall u t p m g).2
  refine k_aload_n d_R_offer_0 rfl ?_
  refine k_iload_n d_R_offer_1 rfl ?_
  refine k_virt1s d_R_offer_2 l_R_102 g_R_running c_R_running rcvR (Nat.le_of_ble_eq_true rfl) ?_
  refine k_if_eqB d_R_offer_5 (fun h5 => ?_) (fun h5 => ?_)
  · refine k_iconst (v := 0) d_R_offer_33 (by decide) ?_
    exact k_zret d_R_offer_34 rfl (by first | rfl | exact nb_bI _) (by first | rfl | (simp [rOfferCall] <;> done) | (simp [rOfferCall, *] <;> done)) (by first | rfl | (simp [rOfferCall] <;> done) | (simp [rOfferCall, *] <;> done))
  · refine k_iload_n d_R_offer_8 rfl ?_
    refine k_iconst (v := (-1)) d_R_offer_9 (by decide) ?_
    refine k_icmp_lt d_R_offer_10 (fun h10 => ?_) (fun h10 => ?_)
    · refine k_iconst (v := 0) d_R_offer_33 (by decide) ?_
      exact k_zret d_R_offer_34 rfl (by first | rfl | exact nb_bI _) (by first | rfl | (simp [rOfferCall] <;> done) | (simp [rOfferCall, *] <;> done)) (by first | rfl | (simp [rOfferCall] <;> done) | (simp [rOfferCall, *] <;> done))
    · refine k_iload_n d_R_offer_13 rfl ?_
      refine k_bipush (v := 15) d_R_offer_14 (by decide) ?_
      refine k_icmp_gt d_R_offer_16 (fun h16 => ?_) (fun h16 => ?_)
      · refine k_iconst (v := 0) d_R_offer_33 (by decide) ?_
        exact k_zret d_R_offer_34 rfl (by first | rfl | exact nb_bI _) (by first | rfl | (simp [rOfferCall] <;> done) | (simp [rOfferCall, *] <;> done)) (by first | rfl | (simp [rOfferCall] <;> done) | (simp [rOfferCall, *] <;> done))
      · refine k_iload_n d_R_offer_19 rfl ?_
        refine k_if_lt d_R_offer_20 (fun h20 => ?_) (fun h20 => ?_)
        · refine k_aload_n d_R_offer_35 rfl ?_
          refine k_getr (t := 5) d_R_offer_36 f_R_23 (by decide) rfl (by decide) (by decide) rfl ?_
          refine k_iload_n d_R_offer_39 rfl ?_
          refine k_iload_n d_R_offer_40 rfl ?_
          refine k_iast d_R_offer_41 (by decide) rfl (rRunning_in h5) ?_
          refine k_aload_n d_R_offer_42 rfl ?_
          refine k_getr (t := 6) d_R_offer_43 f_R_26 (by decide) rfl (by decide) (by decide) rfl ?_
          refine k_iload_n d_R_offer_46 rfl ?_
          refine k_iload_n d_R_offer_47 rfl ?_
          refine k_iast d_R_offer_48 (by decide) rfl (rRunning_in h5) ?_
          refine k_aload_n d_R_offer_49 rfl ?_
          refine k_getr (t := 7) d_R_offer_50 f_R_29 (by decide) rfl (by decide) (by decide) rfl ?_
          refine k_iload_n d_R_offer_53 rfl ?_
          refine k_iload d_R_offer_54 rfl ?_
          refine k_bast d_R_offer_56 (by decide) rfl (rRunning_in h5) (by rcases hg with rfl | rfl <;> rfl) ?_
          refine k_iconst (v := 1) d_R_offer_57 (by decide) ?_
          exact k_zret d_R_offer_58 rfl (by first | rfl | exact nb_bI _) (by first | rfl | (simp [rOfferCall] <;> done) | (simp [rOfferCall, *] <;> done)) (by first | rfl | (simp [rOfferCall] <;> done) | (simp [rOfferCall, *] <;> done))
        · refine k_iload_n d_R_offer_23 rfl ?_
          refine k_iconst (v := 1) d_R_offer_24 (by decide) ?_
          refine k_icmp_eq d_R_offer_25 (fun h25 => ?_) (fun h25 => ?_)
          · refine k_aload_n d_R_offer_35 rfl ?_
            refine k_getr (t := 5) d_R_offer_36 f_R_23 (by decide) rfl (by decide) (by decide) rfl ?_
            refine k_iload_n d_R_offer_39 rfl ?_
            refine k_iload_n d_R_offer_40 rfl ?_
            refine k_iast d_R_offer_41 (by decide) rfl (rRunning_in h5) ?_
            refine k_aload_n d_R_offer_42 rfl ?_
            refine k_getr (t := 6) d_R_offer_43 f_R_26 (by decide) rfl (by decide) (by decide) rfl ?_
            refine k_iload_n d_R_offer_46 rfl ?_
            refine k_iload_n d_R_offer_47 rfl ?_
            refine k_iast d_R_offer_48 (by decide) rfl (rRunning_in h5) ?_
            refine k_aload_n d_R_offer_49 rfl ?_
            refine k_getr (t := 7) d_R_offer_50 f_R_29 (by decide) rfl (by decide) (by decide) rfl ?_
            refine k_iload_n d_R_offer_53 rfl ?_
            refine k_iload d_R_offer_54 rfl ?_
            refine k_bast d_R_offer_56 (by decide) rfl (rRunning_in h5) (by rcases hg with rfl | rfl <;> rfl) ?_
            refine k_iconst (v := 1) d_R_offer_57 (by decide) ?_
            exact k_zret d_R_offer_58 rfl (by first | rfl | exact nb_bI _) (by first | rfl | (simp [rOfferCall] <;> done) | (simp [rOfferCall, *] <;> done)) (by first | rfl | (simp [rOfferCall] <;> done) | (simp [rOfferCall, *] <;> done))
          · refine k_iload_n d_R_offer_28 rfl ?_
            refine k_iconst (v := 2) d_R_offer_29 (by decide) ?_
            refine k_icmp_eq d_R_offer_30 (fun h30 => ?_) (fun h30 => ?_)
            · refine k_aload_n d_R_offer_35 rfl ?_
              refine k_getr (t := 5) d_R_offer_36 f_R_23 (by decide) rfl (by decide) (by decide) rfl ?_
              refine k_iload_n d_R_offer_39 rfl ?_
              refine k_iload_n d_R_offer_40 rfl ?_
              refine k_iast d_R_offer_41 (by decide) rfl (rRunning_in h5) ?_
              refine k_aload_n d_R_offer_42 rfl ?_
              refine k_getr (t := 6) d_R_offer_43 f_R_26 (by decide) rfl (by decide) (by decide) rfl ?_
              refine k_iload_n d_R_offer_46 rfl ?_
              refine k_iload_n d_R_offer_47 rfl ?_
              refine k_iast d_R_offer_48 (by decide) rfl (rRunning_in h5) ?_
              refine k_aload_n d_R_offer_49 rfl ?_
              refine k_getr (t := 7) d_R_offer_50 f_R_29 (by decide) rfl (by decide) (by decide) rfl ?_
              refine k_iload_n d_R_offer_53 rfl ?_
              refine k_iload d_R_offer_54 rfl ?_
              refine k_bast d_R_offer_56 (by decide) rfl (rRunning_in h5) (by rcases hg with rfl | rfl <;> rfl) ?_
              refine k_iconst (v := 1) d_R_offer_57 (by decide) ?_
              exact k_zret d_R_offer_58 rfl (by first | rfl | exact nb_bI _) (by first | rfl | (simp [rOfferCall] <;> done) | (simp [rOfferCall, *] <;> done)) (by first | rfl | (simp [rOfferCall] <;> done) | (simp [rOfferCall, *] <;> done))
            · refine k_iconst (v := 0) d_R_offer_33 (by decide) ?_
              exact k_zret d_R_offer_34 rfl (by first | rfl | exact nb_bI _) (by first | rfl | (simp [rOfferCall] <;> done) | (simp [rOfferCall, *] <;> done)) (by first | rfl | (simp [rOfferCall] <;> done) | (simp [rOfferCall, *] <;> done))

set_option maxRecDepth 4000 in
theorem c_R_window {l : Launch} {D : va_G} {cI cB cT : ClassId} {ad : Nat → Nat} {d : Nat} {u : kSt} {t p : Int32} : KSp (kWl lyR l D cI cB cT ad) y_R_window m_R_window (d + 2) [.ref 0, .int t, .int p] u (some (.int (rWindow u t p).1)) (rWindow u t p).2 := by
  refine KSp.of (by decide) rfl (Nat.le_of_ble_eq_true rfl) rfl ?_
  show KAt (kWl lyR l D cI cB cT ad) m_R_window (d + 2) 0 [some (.ref 0), some (.int t), some (.int p)] [] u (some (.int (rWindow u t p).1)) (rWindow u t p).2
  refine k_aload_n d_R_window_0 rfl ?_
  refine k_iload_n d_R_window_1 rfl ?_
  refine k_virt1s d_R_window_2 l_R_102 g_R_running c_R_running rcvR (Nat.le_of_ble_eq_true rfl) ?_
  refine k_if_eqB d_R_window_5 (fun h5 => ?_) (fun h5 => ?_)
  · refine k_iconst (v := 0) d_R_window_19 (by decide) ?_
    exact k_zret d_R_window_20 rfl (by first | rfl | exact nb_bI _) (by first | rfl | (simp [rWindow] <;> done) | (simp [rWindow, *] <;> done)) (by first | rfl | (simp [rWindow] <;> done) | (simp [rWindow, *] <;> done))
  · refine k_iload_n d_R_window_8 rfl ?_
    refine k_iconst (v := (-1)) d_R_window_9 (by decide) ?_
    refine k_icmp_lt d_R_window_10 (fun h10 => ?_) (fun h10 => ?_)
    · refine k_iconst (v := 0) d_R_window_19 (by decide) ?_
      exact k_zret d_R_window_20 rfl (by first | rfl | exact nb_bI _) (by first | rfl | (simp [rWindow] <;> done) | (simp [rWindow, *] <;> done)) (by first | rfl | (simp [rWindow] <;> done) | (simp [rWindow, *] <;> done))
    · refine k_iload_n d_R_window_13 rfl ?_
      refine k_bipush (v := 15) d_R_window_14 (by decide) ?_
      refine k_icmp_le d_R_window_16 (fun h16 => ?_) (fun h16 => ?_)
      · refine k_aload_n d_R_window_21 rfl ?_
        refine k_getr (t := 8) d_R_window_22 f_R_32 (by decide) rfl (by decide) (by decide) rfl ?_
        refine k_iload_n d_R_window_25 rfl ?_
        refine k_iload_n d_R_window_26 rfl ?_
        refine k_iast d_R_window_27 (by decide) rfl (rRunning_in h5) ?_
        refine k_iconst (v := 1) d_R_window_28 (by decide) ?_
        exact k_zret d_R_window_29 rfl (by first | rfl | exact nb_bI _) (by first | rfl | (simp [rWindow] <;> done) | (simp [rWindow, *] <;> done)) (by first | rfl | (simp [rWindow] <;> done) | (simp [rWindow, *] <;> done))
      · refine k_iconst (v := 0) d_R_window_19 (by decide) ?_
        exact k_zret d_R_window_20 rfl (by first | rfl | exact nb_bI _) (by first | rfl | (simp [rWindow] <;> done) | (simp [rWindow, *] <;> done)) (by first | rfl | (simp [rWindow] <;> done) | (simp [rWindow, *] <;> done))

theorem c_R_descends_loop {l : Launch} {D : va_G} {cI cB cT : ClassId} {ad : Nat → Nat} {d : Nat} {u : kSt} {k : Nat} {z : Int32} (hI : rInv u) : ∀ (n p : Nat), n < 100 → p < 96 → KAt (kWl lyR l D cI cB cT ad) m_R_descends d 23 [some (.ref 0), some (.int (nI k)), some (.int z), some (.int (nI p)), some (.int (nI n))] [] u (some (.int (bI (rUp u z n (nI p))))) u := by
  intro n
  induction n with
  | zero =>
    intro p hn hp
    refine k_iload d_R_descends_23 rfl ?_
    refine k_if_le d_R_descends_25 (fun h25 => ?_) (fun h25 => absurd h25 (fun z => z (by decide)))
    refine k_iconst (v := 0) d_R_descends_48 (by decide) ?_
    exact k_zret d_R_descends_49 rfl (by first | rfl | exact nb_bI _) (by first | rfl | (simp [rUp, bI] <;> done) | (simp [rUp, bI, *] <;> done)) (by first | rfl | (simp [rUp, bI] <;> done) | (simp [rUp, bI, *] <;> done))
  | succ n ih =>
    intro p hn hp
    have h0 := nI_nle (n := n + 1) (by omega) (by omega)
    have h2 := ix_nI (n := p) (by omega)
    obtain ⟨w, hw, hw2⟩ := vp_in_of (hI.parent hp) (by decide)
    refine k_iload d_R_descends_23 rfl ?_
    refine k_if_le d_R_descends_25 (fun h25 => absurd h25 h0) (fun h25 => ?_)
    refine k_aload_n d_R_descends_28 rfl ?_
    refine k_getr (t := 23) d_R_descends_29 f_R_77 (by decide) rfl (by decide) (by decide) rfl ?_
    refine k_iload_n d_R_descends_32 rfl ?_
    refine k_ialdN (n := 96) d_R_descends_33 (by decide) rfl rfl (by first | assumption | omega) (by decide) ?_
    refine k_istore_n d_R_descends_34 (by decide) ?_
    refine k_iload_n d_R_descends_35 rfl ?_
    refine k_iload_n d_R_descends_36 rfl ?_
    refine k_icmp_ne d_R_descends_37 (fun h37 => ?_) (fun h37 => ?_)
    · rw [hw2]
      refine k_decN d_R_descends_42 rfl (by decide) ?_
      refine k_goto d_R_descends_45 ?_
      exact (ih w (by omega) hw).to (by simp [rUp, *] at *; simp [*]) rfl
    · refine k_iconst (v := 1) d_R_descends_40 (by decide) ?_
      exact k_zret d_R_descends_41 rfl (by first | rfl | exact nb_bI _) (by simp [rUp, bI, h2, h37]) rfl

set_option maxRecDepth 4000 in
theorem c_R_descends {l : Launch} {D : va_G} {cI cB cT : ClassId} {ad : Nat → Nat} {d : Nat} {u : kSt} {k : Nat} {z : Int32} (hk : k < 96) (hI : rInv u) : KSp (kWl lyR l D cI cB cT ad) y_R_descends m_R_descends d [.ref 0, .int (nI k), .int z] u (some (.int (bI (rDesc u k z)))) u := by
  refine KSp.of (by decide) rfl (Nat.le_of_ble_eq_true rfl) rfl ?_
  show KAt (kWl lyR l D cI cB cT ad) m_R_descends d 0 [some (.ref 0), some (.int (nI k)), some (.int z), none, none] [] u (some (.int (bI (rDesc u k z)))) u
  refine k_iload_n d_R_descends_0 rfl ?_
  refine k_istore_n d_R_descends_1 (by decide) ?_
  refine k_aload_n d_R_descends_2 rfl ?_
  refine k_getr (t := 20) d_R_descends_3 f_R_68 (by decide) rfl (by decide) (by decide) rfl ?_
  refine k_iload_n d_R_descends_6 rfl ?_
  refine k_ialdN (n := 96) d_R_descends_7 (by decide) rfl rfl (by first | assumption | omega) (by decide) ?_
  refine k_if_ge d_R_descends_8 (fun h8 => ?_) (fun h8 => ?_)
  · refine k_aload_n d_R_descends_15 rfl ?_
    refine k_getr (t := 22) d_R_descends_16 f_R_74 (by decide) rfl (by decide) (by decide) rfl ?_
    refine k_iload_n d_R_descends_19 rfl ?_
    refine k_ialdN (n := 96) d_R_descends_20 (by decide) rfl rfl (by first | assumption | omega) (by decide) ?_
    refine k_istore d_R_descends_21 (by decide) ?_
    obtain ⟨e, he, he2⟩ := vp_in_of (hI.depth hk) (by decide)
    have h2 := ix_nI (n := e) (by omega)
    first
      | (rw [he2]; exact (c_R_descends_loop hI e k (by omega) hk).to (by simp [rDesc, *]) rfl)
      | exact (c_R_descends_loop hI 0 k (by omega) hk).to (by simp [rDesc, ix0, *]) rfl
  · refine k_iconst (v := 0) d_R_descends_11 (by decide) ?_
    refine k_goto d_R_descends_12 ?_
    refine k_istore d_R_descends_21 (by decide) ?_
    obtain ⟨e, he, he2⟩ := vp_in_of (hI.depth hk) (by decide)
    have h2 := ix_nI (n := e) (by omega)
    first
      | (rw [he2]; exact (c_R_descends_loop hI e k (by omega) hk).to (by simp [rDesc, *]) rfl)
      | exact (c_R_descends_loop hI 0 k (by omega) hk).to (by simp [rDesc, ix0, *]) rfl

theorem c_R_descendants_loop {l : Launch} {D : va_G} {cI cB cT : ClassId} {ad : Nat → Nat} {d : Nat} {u : kSt} {z : Int32} (hI : rInv u) (N : Nat) (hN : N = 96) : ∀ (n k : Nat) (a : Int32), k + n = N → a = rCount u z k → KAt (kWl lyR l D cI cB cT ad) m_R_descendants (d + 1) 4 [some (.ref 0), some (.int z), some (.int a), some (.int (nI k))] [] u (some (.int (rCount u z N))) u := by
  intro n
  induction n with
  | zero =>
    intro k a hk ha
    subst ha
    obtain rfl : k = N := by omega
    have h0 : ¬ ¬ (96 : Int32) ≤ nI k := by rw [hN]; decide
    refine k_iload_n d_R_descendants_4 rfl ?_
    refine k_bipush (v := 96) d_R_descendants_5 (by decide) ?_
    refine k_icmp_ge d_R_descendants_7 (fun h7 => ?_) (fun h7 => absurd h7 h0)
    refine k_iload_n d_R_descendants_33 rfl ?_
    exact k_iret d_R_descendants_34 rfl (by first | rfl | (simp [bI] <;> done) | (simp [bI, *] <;> done)) (by first | rfl | (simp [bI] <;> done) | (simp [bI, *] <;> done))
  | succ n ih =>
    intro k a hk ha
    subst ha
    have hk2 : k < 96 := by omega
    have h0 : ¬ (96 : Int32) ≤ nI k := nI_ge (a := k) (b := 96) hk2 (by decide)
    refine k_iload_n d_R_descendants_4 rfl ?_
    refine k_bipush (v := 96) d_R_descendants_5 (by decide) ?_
    refine k_icmp_ge d_R_descendants_7 (fun h7 => absurd h7 h0) (fun h7 => ?_)
    refine k_iload_n d_R_descendants_10 rfl ?_
    refine k_aload_n d_R_descendants_11 rfl ?_
    refine k_iload_n d_R_descendants_12 rfl ?_
    refine k_iload_n d_R_descendants_13 rfl ?_
    refine k_virt2s d_R_descendants_14 l_R_105 g_R_descends (c_R_descends hk2 hI) rcvR (Nat.le_of_ble_eq_true rfl) ?_
    refine k_if_eqB d_R_descendants_17 (fun h17 => ?_) (fun h17 => ?_)
    · refine k_iconst (v := 0) d_R_descendants_24 (by decide) ?_
      refine k_iadd d_R_descendants_25 ?_
      refine k_istore_n d_R_descendants_26 (by decide) ?_
      refine k_incN d_R_descendants_27 rfl (by decide) ?_
      refine k_goto d_R_descendants_30 ?_
      exact ih (k + 1) _ (by omega) (by simp [rCount, *])
    · refine k_iconst (v := 1) d_R_descendants_20 (by decide) ?_
      refine k_goto d_R_descendants_21 ?_
      refine k_iadd d_R_descendants_25 ?_
      refine k_istore_n d_R_descendants_26 (by decide) ?_
      refine k_incN d_R_descendants_27 rfl (by decide) ?_
      refine k_goto d_R_descendants_30 ?_
      exact ih (k + 1) _ (by omega) (by simp [rCount, *])

set_option maxRecDepth 4000 in
theorem c_R_descendants {l : Launch} {D : va_G} {cI cB cT : ClassId} {ad : Nat → Nat} {d : Nat} {u : kSt} {z : Int32} (hI : rInv u) : KSp (kWl lyR l D cI cB cT ad) y_R_descendants m_R_descendants (d + 1) [.ref 0, .int z] u (some (.int (rCount u z 96))) u := by
  refine KSp.of (by decide) rfl (Nat.le_of_ble_eq_true rfl) rfl ?_
  show KAt (kWl lyR l D cI cB cT ad) m_R_descendants (d + 1) 0 [some (.ref 0), some (.int z), none, none] [] u (some (.int (rCount u z 96))) u
  refine k_iconst (v := 0) d_R_descendants_0 (by decide) ?_
  refine k_istore_n d_R_descendants_1 (by decide) ?_
  refine k_iconst (v := 0) d_R_descendants_2 (by decide) ?_
  refine k_istore_n d_R_descendants_3 (by decide) ?_
  exact c_R_descendants_loop hI 96 rfl 96 0 _ rfl rfl

theorem c_R_removeBelow_in {l : Launch} {D : va_G} {cI cB cT : ClassId} {ad : Nat → Nat} {d : Nat} {u : kSt} {z a0 : Int32} {e : Nat} {R : Option Value} {X : kSt} (hI : rInv u) (N : Nat) (hN : N = 96) (hE : KAt (kWl lyR l D cI cB cT ad) m_R_removeBelow (d + 1) 67 [some (.ref 0), some (.int z), some (.int (rRem1N u z (nI e) a0 N)), some (.int (nI e)), none] [] (rRem1 u z (nI e) N) R X) : ∀ (n k : Nat) (a : Int32) (y : kSt), k + n = N → a = rRem1N u z (nI e) a0 k → y = rRem1 u z (nI e) k → KAt (kWl lyR l D cI cB cT ad) m_R_removeBelow (d + 1) 12 [some (.ref 0), some (.int z), some (.int a), some (.int (nI e)), some (.int (nI k))] [] y R X := by
  intro n
  induction n with
  | zero =>
    intro k a y hk ha hy
    subst ha
    subst hy
    obtain rfl : k = N := by omega
    have h0 : ¬ ¬ (96 : Int32) ≤ nI k := by rw [hN]; decide
    refine k_iload d_R_removeBelow_12 rfl ?_
    refine k_bipush (v := 96) d_R_removeBelow_14 (by decide) ?_
    refine k_icmp_ge d_R_removeBelow_16 (fun h16 => ?_) (fun h16 => absurd h16 h0)
    refine k_forget 4 ?_
    exact hE
  | succ n ih =>
    intro k a y hk ha hy
    subst ha
    subst hy
    have hk2 : k < 96 := by omega
    have h0 : ¬ (96 : Int32) ≤ nI k := nI_ge (a := k) (b := 96) hk2 (by decide)
    refine k_iload d_R_removeBelow_12 rfl ?_
    refine k_bipush (v := 96) d_R_removeBelow_14 (by decide) ?_
    refine k_icmp_ge d_R_removeBelow_16 (fun h16 => absurd h16 h0) (fun h16 => ?_)
    refine k_aload_n d_R_removeBelow_19 rfl ?_
    refine k_getr (t := 20) d_R_removeBelow_20 f_R_68 (by decide) rfl (by decide) (by decide) rfl ?_
    refine k_iload d_R_removeBelow_23 rfl ?_
    refine k_ialdN (n := 96) d_R_removeBelow_25 (by decide) rfl rfl (by first | assumption | omega) (by decide) ?_
    refine k_if_lt d_R_removeBelow_26 (fun h26 => ?_) (fun h26 => ?_)
    · refine k_incN d_R_removeBelow_61 rfl (by decide) ?_
      refine k_goto d_R_removeBelow_64 ?_
      exact ih (k + 1) _ _ (by omega) (by simp [rRem1N, rHit, *]) (by simp [rRem1, rHit, *])
    · refine k_aload_n d_R_removeBelow_29 rfl ?_
      refine k_getr (t := 22) d_R_removeBelow_30 f_R_74 (by decide) rfl (by decide) (by decide) rfl ?_
      refine k_iload d_R_removeBelow_33 rfl ?_
      refine k_ialdN (n := 96) d_R_removeBelow_35 (by decide) rfl rfl (by first | assumption | omega) (by decide) ?_
      refine k_iload_n d_R_removeBelow_36 rfl ?_
      refine k_icmp_ne d_R_removeBelow_37 (fun h37 => ?_) (fun h37 => ?_)
      · refine k_incN d_R_removeBelow_61 rfl (by decide) ?_
        refine k_goto d_R_removeBelow_64 ?_
        exact ih (k + 1) _ _ (by omega) (by simp [rRem1N, rHit, *]) (by simp [rRem1, rHit, *])
      · refine k_aload_n d_R_removeBelow_40 rfl ?_
        refine k_iload d_R_removeBelow_41 rfl ?_
        refine k_iload_n d_R_removeBelow_43 rfl ?_
        refine k_virt2s d_R_removeBelow_44 l_R_105 g_R_descends (c_R_descends hk2 (hI.rem1 k)) rcvR (Nat.le_of_ble_eq_true rfl) ?_
        refine k_if_eqB d_R_removeBelow_47 (fun h47 => ?_) (fun h47 => ?_)
        · refine k_incN d_R_removeBelow_61 rfl (by decide) ?_
          refine k_goto d_R_removeBelow_64 ?_
          exact ih (k + 1) _ _ (by omega) (by simp [rRem1N, rHit, *]) (by simp [rRem1, rHit, *])
        · refine k_aload_n d_R_removeBelow_50 rfl ?_
          refine k_getr (t := 20) d_R_removeBelow_51 f_R_68 (by decide) rfl (by decide) (by decide) rfl ?_
          refine k_iload d_R_removeBelow_54 rfl ?_
          refine k_iconst (v := (-1)) d_R_removeBelow_56 (by decide) ?_
          refine k_iastN (n := 96) d_R_removeBelow_57 (by decide) rfl rfl (by first | assumption | omega) (by decide) ?_
          refine k_inc1 d_R_removeBelow_58 rfl (by decide) ?_
          refine k_incN d_R_removeBelow_61 rfl (by decide) ?_
          refine k_goto d_R_removeBelow_64 ?_
          exact ih (k + 1) _ _ (by omega) (by simp [rRem1N, rHit, *]) (by simp [rRem1, rHit, *])
theorem c_R_removeBelow_out {l : Launch} {D : va_G} {cI cB cT : ClassId} {ad : Nat → Nat} {d : Nat} {u : kSt} {z : Int32} : ∀ (e : Nat) (a : Int32) (y : kSt), e < 100 → rInv y → KAt (kWl lyR l D cI cB cT ad) m_R_removeBelow (d + 1) 5 [some (.ref 0), some (.int z), some (.int a), some (.int (nI e)), none] [] y (some (.int (rRemN y z a 96 e))) (rRem y z 96 e) := by
  intro e
  induction e with
  | zero =>
    intro a y he hI
    refine k_iload_n d_R_removeBelow_5 rfl ?_
    refine k_if_le d_R_removeBelow_6 (fun h6 => ?_) (fun h6 => absurd h6 (fun z => z (by decide)))
    refine k_iload_n d_R_removeBelow_73 rfl ?_
    exact k_iret d_R_removeBelow_74 rfl (by simp only [rRemN]) (by simp only [rRem])
  | succ e ih =>
    intro a y he hI
    have h0 := nI_nle (n := e + 1) (by omega) (by omega)
    have hE : KAt (kWl lyR l D cI cB cT ad) m_R_removeBelow (d + 1) 67 [some (.ref 0), some (.int z), some (.int (rRem1N y z (nI (e + 1)) a 96)), some (.int (nI (e + 1))), none] [] (rRem1 y z (nI (e + 1)) 96) (some (.int (rRemN y z a 96 (e + 1)))) (rRem y z 96 (e + 1)) := by
      refine k_decN d_R_removeBelow_67 rfl (by decide) ?_
      refine k_goto d_R_removeBelow_70 ?_
      exact (ih _ _ (by omega) (hI.rem1 96)).to (by simp only [rRemN]) (by simp only [rRem])
    refine k_iload_n d_R_removeBelow_5 rfl ?_
    refine k_if_le d_R_removeBelow_6 (fun h6 => absurd h6 h0) (fun h6 => ?_)
    refine k_iconst (v := 0) d_R_removeBelow_9 (by decide) ?_
    refine k_istore d_R_removeBelow_10 (by decide) ?_
    exact c_R_removeBelow_in hI 96 rfl hE 96 0 _ _ rfl rfl rfl

set_option maxRecDepth 4000 in
theorem c_R_removeBelow {l : Launch} {D : va_G} {cI cB cT : ClassId} {ad : Nat → Nat} {d : Nat} {u : kSt} {z : Int32} (hI : rInv u) : KSp (kWl lyR l D cI cB cT ad) y_R_removeBelow m_R_removeBelow (d + 1) [.ref 0, .int z] u (some (.int (rRemN u z 0 96 12))) (rRem u z 96 12) := by
  refine KSp.of (by decide) rfl (Nat.le_of_ble_eq_true rfl) rfl ?_
  show KAt (kWl lyR l D cI cB cT ad) m_R_removeBelow (d + 1) 0 [some (.ref 0), some (.int z), none, none, none] [] u (some (.int (rRemN u z 0 96 12))) (rRem u z 96 12)
  refine k_iconst (v := 0) d_R_removeBelow_0 (by decide) ?_
  refine k_istore_n d_R_removeBelow_1 (by decide) ?_
  refine k_bipush (v := 12) d_R_removeBelow_2 (by decide) ?_
  refine k_istore_n d_R_removeBelow_4 (by decide) ?_
  exact c_R_removeBelow_out (u := u) 12 0 u (by decide) hI

theorem c_R_move_loop {l : Launch} {D : va_G} {cI cB cT : ClassId} {ad : Nat → Nat} {d : Nat} {u : kSt} {s t : Nat} (hs : s < 96) (ht : t < 96) (N : Nat) (hN : N = 96) : ∀ (n k : Nat) (y : kSt), k + n = N → y = rAdopt u (nI s) (nI t) k → KAt (kWl lyR l D cI cB cT ad) m_R_move d 57 [some (.ref 0), some (.int (nI s)), some (.int (nI t)), some (.int (nI k))] [] y none (rAdopt u (nI s) (nI t) N) := by
  intro n
  induction n with
  | zero =>
    intro k y hk hy
    subst hy
    obtain rfl : k = N := by omega
    have h0 : ¬ ¬ (96 : Int32) ≤ nI k := by rw [hN]; decide
    refine k_iload_n d_R_move_57 rfl ?_
    refine k_bipush (v := 96) d_R_move_58 (by decide) ?_
    refine k_icmp_ge d_R_move_60 (fun h60 => ?_) (fun h60 => absurd h60 h0)
    exact k_vret d_R_move_104 rfl rfl (by first | rfl | (simp [bI] <;> done) | (simp [bI, *] <;> done))
  | succ n ih =>
    intro k y hk hy
    subst hy
    have hk2 : k < 96 := by omega
    have h0 : ¬ (96 : Int32) ≤ nI k := nI_ge (a := k) (b := 96) hk2 (by decide)
    refine k_iload_n d_R_move_57 rfl ?_
    refine k_bipush (v := 96) d_R_move_58 (by decide) ?_
    refine k_icmp_ge d_R_move_60 (fun h60 => absurd h60 h0) (fun h60 => ?_)
    refine k_aload_n d_R_move_63 rfl ?_
    refine k_getr (t := 20) d_R_move_64 f_R_68 (by decide) rfl (by decide) (by decide) rfl ?_
    refine k_iload_n d_R_move_67 rfl ?_
    refine k_ialdN (n := 96) d_R_move_68 (by decide) rfl rfl (by first | assumption | omega) (by decide) ?_
    refine k_if_lt d_R_move_69 (fun h69 => ?_) (fun h69 => ?_)
    · refine k_incN d_R_move_98 rfl (by decide) ?_
      refine k_goto d_R_move_101 ?_
      exact ih (k + 1) _ (by omega) (by simp [rAdopt, rBelow, *])
    · refine k_aload_n d_R_move_72 rfl ?_
      refine k_getr (t := 22) d_R_move_73 f_R_74 (by decide) rfl (by decide) (by decide) rfl ?_
      refine k_iload_n d_R_move_76 rfl ?_
      refine k_ialdN (n := 96) d_R_move_77 (by decide) rfl rfl (by first | assumption | omega) (by decide) ?_
      refine k_if_le d_R_move_78 (fun h78 => ?_) (fun h78 => ?_)
      · refine k_incN d_R_move_98 rfl (by decide) ?_
        refine k_goto d_R_move_101 ?_
        exact ih (k + 1) _ (by omega) (by simp [rAdopt, rBelow, *])
      · refine k_aload_n d_R_move_81 rfl ?_
        refine k_getr (t := 23) d_R_move_82 f_R_77 (by decide) rfl (by decide) (by decide) rfl ?_
        refine k_iload_n d_R_move_85 rfl ?_
        refine k_ialdN (n := 96) d_R_move_86 (by decide) rfl rfl (by first | assumption | omega) (by decide) ?_
        refine k_iload_n d_R_move_87 rfl ?_
        refine k_icmp_ne d_R_move_88 (fun h88 => ?_) (fun h88 => ?_)
        · refine k_incN d_R_move_98 rfl (by decide) ?_
          refine k_goto d_R_move_101 ?_
          exact ih (k + 1) _ (by omega) (by simp [rAdopt, rBelow, *])
        · refine k_aload_n d_R_move_91 rfl ?_
          refine k_getr (t := 23) d_R_move_92 f_R_77 (by decide) rfl (by decide) (by decide) rfl ?_
          refine k_iload_n d_R_move_95 rfl ?_
          refine k_iload_n d_R_move_96 rfl ?_
          refine k_iastN (n := 96) d_R_move_97 (by decide) rfl rfl (by first | assumption | omega) (by decide) ?_
          refine k_incN d_R_move_98 rfl (by decide) ?_
          refine k_goto d_R_move_101 ?_
          exact ih (k + 1) _ (by omega) (by simp [rAdopt, rBelow, *])

set_option maxRecDepth 4000 in
theorem c_R_move {l : Launch} {D : va_G} {cI cB cT : ClassId} {ad : Nat → Nat} {d : Nat} {u : kSt} {s t : Nat} (hs : s < 96) (ht : t < 96) : KSp (kWl lyR l D cI cB cT ad) y_R_move m_R_move d [.ref 0, .int (nI s), .int (nI t)] u none (rMove u s t) := by
  refine KSp.of (by decide) rfl (Nat.le_of_ble_eq_true rfl) rfl ?_
  show KAt (kWl lyR l D cI cB cT ad) m_R_move d 0 [some (.ref 0), some (.int (nI s)), some (.int (nI t)), none] [] u none (rMove u s t)
  refine k_aload_n d_R_move_0 rfl ?_
  refine k_getr (t := 20) d_R_move_1 f_R_68 (by decide) rfl (by decide) (by decide) rfl ?_
  refine k_iload_n d_R_move_4 rfl ?_
  refine k_aload_n d_R_move_5 rfl ?_
  refine k_getr (t := 20) d_R_move_6 f_R_68 (by decide) rfl (by decide) (by decide) rfl ?_
  refine k_iload_n d_R_move_9 rfl ?_
  refine k_ialdN (n := 96) d_R_move_10 (by decide) rfl rfl (by first | assumption | omega) (by decide) ?_
  refine k_iastN (n := 96) d_R_move_11 (by decide) rfl rfl (by first | assumption | omega) (by decide) ?_
  refine k_aload_n d_R_move_12 rfl ?_
  refine k_getr (t := 21) d_R_move_13 f_R_71 (by decide) rfl (by decide) (by decide) rfl ?_
  refine k_iload_n d_R_move_16 rfl ?_
  refine k_aload_n d_R_move_17 rfl ?_
  refine k_getr (t := 21) d_R_move_18 f_R_71 (by decide) rfl (by decide) (by decide) rfl ?_
  refine k_iload_n d_R_move_21 rfl ?_
  refine k_ialdN (n := 96) d_R_move_22 (by decide) rfl rfl (by first | assumption | omega) (by decide) ?_
  refine k_iastN (n := 96) d_R_move_23 (by decide) rfl rfl (by first | assumption | omega) (by decide) ?_
  refine k_aload_n d_R_move_24 rfl ?_
  refine k_getr (t := 22) d_R_move_25 f_R_74 (by decide) rfl (by decide) (by decide) rfl ?_
  refine k_iload_n d_R_move_28 rfl ?_
  refine k_aload_n d_R_move_29 rfl ?_
  refine k_getr (t := 22) d_R_move_30 f_R_74 (by decide) rfl (by decide) (by decide) rfl ?_
  refine k_iload_n d_R_move_33 rfl ?_
  refine k_ialdN (n := 96) d_R_move_34 (by decide) rfl rfl (by first | assumption | omega) (by decide) ?_
  refine k_iastN (n := 96) d_R_move_35 (by decide) rfl rfl (by first | assumption | omega) (by decide) ?_
  refine k_aload_n d_R_move_36 rfl ?_
  refine k_getr (t := 23) d_R_move_37 f_R_77 (by decide) rfl (by decide) (by decide) rfl ?_
  refine k_iload_n d_R_move_40 rfl ?_
  refine k_aload_n d_R_move_41 rfl ?_
  refine k_getr (t := 23) d_R_move_42 f_R_77 (by decide) rfl (by decide) (by decide) rfl ?_
  refine k_iload_n d_R_move_45 rfl ?_
  refine k_ialdN (n := 96) d_R_move_46 (by decide) rfl rfl (by first | assumption | omega) (by decide) ?_
  refine k_iastN (n := 96) d_R_move_47 (by decide) rfl rfl (by first | assumption | omega) (by decide) ?_
  refine k_aload_n d_R_move_48 rfl ?_
  refine k_getr (t := 20) d_R_move_49 f_R_68 (by decide) rfl (by decide) (by decide) rfl ?_
  refine k_iload_n d_R_move_52 rfl ?_
  refine k_iconst (v := (-1)) d_R_move_53 (by decide) ?_
  refine k_iastN (n := 96) d_R_move_54 (by decide) rfl rfl (by first | assumption | omega) (by decide) ?_
  refine k_iconst (v := 0) d_R_move_55 (by decide) ?_
  refine k_istore_n d_R_move_56 (by decide) ?_
  exact (c_R_move_loop (u := kup (kup (kup (kup (kup u 20 t (u 20 s)) 21 t (u 21 s)) 22 t (u 22 s)) 23 t (u 23 s)) 20 s (-1)) hs ht 96 rfl 96 0 _ rfl (by simp [rAdopt, kup_o])).to rfl (by simp only [rMove])

theorem c_R_handOn_2 {l : Launch} {D : va_G} {cI cB cT : ClassId} {ad : Nat → Nat} {d : Nat} {u : kSt} {i s t : Nat} (hi : i < 8) (hs : s < 96) (ht : t < 96) : KAt (kWl lyR l D cI cB cT ad) m_R_handOn (d + 2) 37 [some (.ref 0), some (.int (nI i)), some (.int (nI s)), some (.int (nI t))] [] u none (rHand2 u i s t) := by
  refine k_aload_n d_R_handOn_37 rfl ?_
  refine k_getr (t := 20) d_R_handOn_38 f_R_68 (by decide) rfl (by decide) (by decide) rfl ?_
  refine k_iload_n d_R_handOn_41 rfl ?_
  refine k_ialdN (n := 96) d_R_handOn_42 (by decide) rfl rfl (by first | assumption | omega) (by decide) ?_
  refine k_if_ge d_R_handOn_43 (fun h43 => ?_) (fun h43 => ?_)
  · refine k_aload_n d_R_handOn_47 rfl ?_
    refine k_getr (t := 7) d_R_handOn_48 f_R_29 (by decide) rfl (by decide) (by decide) rfl ?_
    refine k_iload_n d_R_handOn_51 rfl ?_
    refine k_baldN (n := 8) d_R_handOn_52 (by decide) rfl rfl (by first | assumption | omega) (by decide) ?_
    refine k_if_eq d_R_handOn_53 (fun h53 => ?_) (fun h53 => ?_)
    · refine k_aload_n d_R_handOn_65 rfl ?_
      refine k_getr (t := 22) d_R_handOn_66 f_R_74 (by decide) rfl (by decide) (by decide) rfl ?_
      refine k_iload_n d_R_handOn_69 rfl ?_
      refine k_ialdN (n := 96) d_R_handOn_70 (by decide) rfl rfl (by first | assumption | omega) (by decide) ?_
      refine k_bipush (v := 12) d_R_handOn_71 (by decide) ?_
      refine k_icmp_ge d_R_handOn_73 (fun h73 => ?_) (fun h73 => ?_)
      · exact k_vret d_R_handOn_145 rfl rfl (by first | (rw [rHand2, if_pos h43, if_neg h53]) | (rw [rHand2, if_pos h43, if_pos h53, if_pos h73]) | (rw [rHand2, if_pos h43, if_pos h53, if_neg h73, rDerive]; have h := h105; simp only [kup_o (show (21 : Nat) ≠ 20 by decide), kup_o (show (6 : Nat) ≠ 20 by decide)] at h; first | rw [if_pos h] | rw [if_neg h]) <;> simp [kup_o])
      · refine k_aload_n d_R_handOn_76 rfl ?_
        refine k_getr (t := 20) d_R_handOn_77 f_R_68 (by decide) rfl (by decide) (by decide) rfl ?_
        refine k_iload_n d_R_handOn_80 rfl ?_
        refine k_aload_n d_R_handOn_81 rfl ?_
        refine k_getr (t := 20) d_R_handOn_82 f_R_68 (by decide) rfl (by decide) (by decide) rfl ?_
        refine k_iload_n d_R_handOn_85 rfl ?_
        refine k_ialdN (n := 96) d_R_handOn_86 (by decide) rfl rfl (by first | assumption | omega) (by decide) ?_
        refine k_iastN (n := 96) d_R_handOn_87 (by decide) rfl rfl (by first | assumption | omega) (by decide) ?_
        refine k_aload_n d_R_handOn_88 rfl ?_
        refine k_getr (t := 21) d_R_handOn_89 f_R_71 (by decide) rfl (by decide) (by decide) rfl ?_
        refine k_iload_n d_R_handOn_92 rfl ?_
        refine k_aload_n d_R_handOn_93 rfl ?_
        refine k_getr (t := 6) d_R_handOn_94 f_R_26 (by decide) rfl (by decide) (by decide) rfl ?_
        refine k_iload_n d_R_handOn_97 rfl ?_
        refine k_ialdN (n := 8) d_R_handOn_98 (by decide) rfl rfl (by first | assumption | omega) (by decide) ?_
        refine k_aload_n d_R_handOn_99 rfl ?_
        refine k_getr (t := 21) d_R_handOn_100 f_R_71 (by decide) rfl (by decide) (by decide) rfl ?_
        refine k_iload_n d_R_handOn_103 rfl ?_
        refine k_ialdN (n := 96) d_R_handOn_104 (by decide) rfl rfl (by first | assumption | omega) (by decide) ?_
        refine k_icmp_ge d_R_handOn_105 (fun h105 => ?_) (fun h105 => ?_)
        · refine k_aload_n d_R_handOn_117 rfl ?_
          refine k_getr (t := 21) d_R_handOn_118 f_R_71 (by decide) rfl (by decide) (by decide) rfl ?_
          refine k_iload_n d_R_handOn_121 rfl ?_
          refine k_ialdN (n := 96) d_R_handOn_122 (by decide) rfl rfl (by first | assumption | omega) (by decide) ?_
          refine k_iastN (n := 96) d_R_handOn_123 (by decide) rfl rfl (by first | assumption | omega) (by decide) ?_
          refine k_aload_n d_R_handOn_124 rfl ?_
          refine k_getr (t := 22) d_R_handOn_125 f_R_74 (by decide) rfl (by decide) (by decide) rfl ?_
          refine k_iload_n d_R_handOn_128 rfl ?_
          refine k_aload_n d_R_handOn_129 rfl ?_
          refine k_getr (t := 22) d_R_handOn_130 f_R_74 (by decide) rfl (by decide) (by decide) rfl ?_
          refine k_iload_n d_R_handOn_133 rfl ?_
          refine k_ialdN (n := 96) d_R_handOn_134 (by decide) rfl rfl (by first | assumption | omega) (by decide) ?_
          refine k_iconst (v := 1) d_R_handOn_135 (by decide) ?_
          refine k_iadd d_R_handOn_136 ?_
          refine k_iastN (n := 96) d_R_handOn_137 (by decide) rfl rfl (by first | assumption | omega) (by decide) ?_
          refine k_aload_n d_R_handOn_138 rfl ?_
          refine k_getr (t := 23) d_R_handOn_139 f_R_77 (by decide) rfl (by decide) (by decide) rfl ?_
          refine k_iload_n d_R_handOn_142 rfl ?_
          refine k_iload_n d_R_handOn_143 rfl ?_
          refine k_iastN (n := 96) d_R_handOn_144 (by decide) rfl rfl (by first | assumption | omega) (by decide) ?_
          exact k_vret d_R_handOn_145 rfl rfl (by first | (rw [rHand2, if_pos h43, if_neg h53]) | (rw [rHand2, if_pos h43, if_pos h53, if_pos h73]) | (rw [rHand2, if_pos h43, if_pos h53, if_neg h73, rDerive]; have h := h105; simp only [kup_o (show (21 : Nat) ≠ 20 by decide), kup_o (show (6 : Nat) ≠ 20 by decide)] at h; first | rw [if_pos h] | rw [if_neg h]) <;> simp [kup_o])
        · refine k_aload_n d_R_handOn_108 rfl ?_
          refine k_getr (t := 6) d_R_handOn_109 f_R_26 (by decide) rfl (by decide) (by decide) rfl ?_
          refine k_iload_n d_R_handOn_112 rfl ?_
          refine k_ialdN (n := 8) d_R_handOn_113 (by decide) rfl rfl (by first | assumption | omega) (by decide) ?_
          refine k_goto d_R_handOn_114 ?_
          refine k_iastN (n := 96) d_R_handOn_123 (by decide) rfl rfl (by first | assumption | omega) (by decide) ?_
          refine k_aload_n d_R_handOn_124 rfl ?_
          refine k_getr (t := 22) d_R_handOn_125 f_R_74 (by decide) rfl (by decide) (by decide) rfl ?_
          refine k_iload_n d_R_handOn_128 rfl ?_
          refine k_aload_n d_R_handOn_129 rfl ?_
          refine k_getr (t := 22) d_R_handOn_130 f_R_74 (by decide) rfl (by decide) (by decide) rfl ?_
          refine k_iload_n d_R_handOn_133 rfl ?_
          refine k_ialdN (n := 96) d_R_handOn_134 (by decide) rfl rfl (by first | assumption | omega) (by decide) ?_
          refine k_iconst (v := 1) d_R_handOn_135 (by decide) ?_
          refine k_iadd d_R_handOn_136 ?_
          refine k_iastN (n := 96) d_R_handOn_137 (by decide) rfl rfl (by first | assumption | omega) (by decide) ?_
          refine k_aload_n d_R_handOn_138 rfl ?_
          refine k_getr (t := 23) d_R_handOn_139 f_R_77 (by decide) rfl (by decide) (by decide) rfl ?_
          refine k_iload_n d_R_handOn_142 rfl ?_
          refine k_iload_n d_R_handOn_143 rfl ?_
          refine k_iastN (n := 96) d_R_handOn_144 (by decide) rfl rfl (by first | assumption | omega) (by decide) ?_
          exact k_vret d_R_handOn_145 rfl rfl (by first | (rw [rHand2, if_pos h43, if_neg h53]) | (rw [rHand2, if_pos h43, if_pos h53, if_pos h73]) | (rw [rHand2, if_pos h43, if_pos h53, if_neg h73, rDerive]; have h := h105; simp only [kup_o (show (21 : Nat) ≠ 20 by decide), kup_o (show (6 : Nat) ≠ 20 by decide)] at h; first | rw [if_pos h] | rw [if_neg h]) <;> simp [kup_o])
    · refine k_aload_n d_R_handOn_56 rfl ?_
      refine k_iload_n d_R_handOn_57 rfl ?_
      refine k_iload_n d_R_handOn_58 rfl ?_
      refine k_virt2v d_R_handOn_59 l_R_113 g_R_move (c_R_move hs ht) rcvR (Nat.le_of_ble_eq_true rfl) ?_
      refine k_goto d_R_handOn_62 ?_
      exact k_vret d_R_handOn_145 rfl rfl (by first | (rw [rHand2, if_pos h43, if_neg h53]) | (rw [rHand2, if_pos h43, if_pos h53, if_pos h73]) | (rw [rHand2, if_pos h43, if_pos h53, if_neg h73, rDerive]; have h := h105; simp only [kup_o (show (21 : Nat) ≠ 20 by decide), kup_o (show (6 : Nat) ≠ 20 by decide)] at h; first | rw [if_pos h] | rw [if_neg h]) <;> simp [kup_o])
  · exact k_vret d_R_handOn_46 rfl rfl (by simp [rHand2, *])

set_option maxRecDepth 4000 in
theorem c_R_handOn {l : Launch} {D : va_G} {cI cB cT : ClassId} {ad : Nat → Nat} {d : Nat} {u : kSt} {i s t : Nat} (hi : i < 8) (hs : s < 96) (ht : t < 96) (hI : rInv u) : KSp (kWl lyR l D cI cB cT ad) y_R_handOn m_R_handOn (d + 2) [.ref 0, .int (nI i), .int (nI s), .int (nI t)] u none (rHandOn u i s t) := by
  refine KSp.of (by decide) rfl (Nat.le_of_ble_eq_true rfl) rfl ?_
  show KAt (kWl lyR l D cI cB cT ad) m_R_handOn (d + 2) 0 [some (.ref 0), some (.int (nI i)), some (.int (nI s)), some (.int (nI t))] [] u none (rHandOn u i s t)
  refine k_iload_n d_R_handOn_0 rfl ?_
  refine k_iload_n d_R_handOn_1 rfl ?_
  refine k_icmp_eq d_R_handOn_2 (fun h2 => ?_) (fun h2 => ?_)
  · have hst := (nI_eq (a := s) (b := t) (by omega) (by omega)).symm
    exact k_vret d_R_handOn_14 rfl rfl (by simp [rHandOn, *])
  · have hst := (nI_eq (a := s) (b := t) (by omega) (by omega)).symm
    refine k_aload_n d_R_handOn_5 rfl ?_
    refine k_getr (t := 20) d_R_handOn_6 f_R_68 (by decide) rfl (by decide) (by decide) rfl ?_
    refine k_iload_n d_R_handOn_9 rfl ?_
    refine k_ialdN (n := 96) d_R_handOn_10 (by decide) rfl rfl (by first | assumption | omega) (by decide) ?_
    refine k_if_ge d_R_handOn_11 (fun h11 => ?_) (fun h11 => ?_)
    · refine k_aload_n d_R_handOn_15 rfl ?_
      refine k_getr (t := 20) d_R_handOn_16 f_R_68 (by decide) rfl (by decide) (by decide) rfl ?_
      refine k_iload_n d_R_handOn_19 rfl ?_
      refine k_ialdN (n := 96) d_R_handOn_20 (by decide) rfl rfl (by first | assumption | omega) (by decide) ?_
      refine k_if_lt d_R_handOn_21 (fun h21 => ?_) (fun h21 => ?_)
      · exact (c_R_handOn_2 hi hs ht).to rfl (by simp [rHandOn, rClean, *])
      · refine k_aload_n d_R_handOn_24 rfl ?_
        refine k_iload_n d_R_handOn_25 rfl ?_
        refine k_virt1s d_R_handOn_26 l_R_109 g_R_removeBelow (c_R_removeBelow hI) rcvR (Nat.le_of_ble_eq_true rfl) ?_
        refine k_pop d_R_handOn_29 rfl ?_
        refine k_aload_n d_R_handOn_30 rfl ?_
        refine k_getr (t := 20) d_R_handOn_31 f_R_68 (by decide) rfl (by decide) (by decide) rfl ?_
        refine k_iload_n d_R_handOn_34 rfl ?_
        refine k_iconst (v := (-1)) d_R_handOn_35 (by decide) ?_
        refine k_iastN (n := 96) d_R_handOn_36 (by decide) rfl rfl (by first | assumption | omega) (by decide) ?_
        exact (c_R_handOn_2 hi hs ht).to rfl (by simp [rHandOn, rClean, *])
    · have hst := (nI_eq (a := s) (b := t) (by omega) (by omega)).symm
      exact k_vret d_R_handOn_14 rfl rfl (by simp [rHandOn, *])

set_option maxRecDepth 4000 in
theorem c_R_take {l : Launch} {D : va_G} {cI cB cT : ClassId} {ad : Nat → Nat} {d : Nat} {u : kSt} {i : Nat} {s a b c e : Int32} (hi : i < 8) : KSp (kWl lyR l D cI cB cT ad) y_R_take m_R_take d [.ref 0, .int (nI i), .int s, .int a, .int b, .int c, .int e] u none (rTake u i s a b c e) := by
  refine KSp.of (by decide) rfl (Nat.le_of_ble_eq_true rfl) rfl ?_
  show KAt (kWl lyR l D cI cB cT ad) m_R_take d 0 [some (.ref 0), some (.int (nI i)), some (.int s), some (.int a), some (.int b), some (.int c), some (.int e)] [] u none (rTake u i s a b c e)
  refine k_aload_n d_R_take_0 rfl ?_
  refine k_getr (t := 4) d_R_take_1 f_R_20 (by decide) rfl (by decide) (by decide) rfl ?_
  refine k_iconst (v := 4) d_R_take_4 (by decide) ?_
  refine k_iload_n d_R_take_5 rfl ?_
  refine k_imul d_R_take_6 ?_
  rw [rg_eq0]
  refine k_iload_n d_R_take_7 rfl ?_
  refine k_iastN (n := 32) d_R_take_8 (by decide) rfl rfl (by first | assumption | omega) (by decide) ?_
  refine k_aload_n d_R_take_9 rfl ?_
  refine k_getr (t := 4) d_R_take_10 f_R_20 (by decide) rfl (by decide) (by decide) rfl ?_
  refine k_iconst (v := 4) d_R_take_13 (by decide) ?_
  refine k_iload_n d_R_take_14 rfl ?_
  refine k_imul d_R_take_15 ?_
  refine k_iconst (v := 1) d_R_take_16 (by decide) ?_
  refine k_iadd d_R_take_17 ?_
  rw [show (1 : Int32) = nI 1 from rfl, rg_eq hi (by decide)]
  refine k_iload d_R_take_18 rfl ?_
  refine k_iastN (n := 32) d_R_take_20 (by decide) rfl rfl (by first | assumption | omega) (by decide) ?_
  refine k_aload_n d_R_take_21 rfl ?_
  refine k_getr (t := 4) d_R_take_22 f_R_20 (by decide) rfl (by decide) (by decide) rfl ?_
  refine k_iconst (v := 4) d_R_take_25 (by decide) ?_
  refine k_iload_n d_R_take_26 rfl ?_
  refine k_imul d_R_take_27 ?_
  refine k_iconst (v := 2) d_R_take_28 (by decide) ?_
  refine k_iadd d_R_take_29 ?_
  rw [show (2 : Int32) = nI 2 from rfl, rg_eq hi (by decide)]
  refine k_iload d_R_take_30 rfl ?_
  refine k_iastN (n := 32) d_R_take_32 (by decide) rfl rfl (by first | assumption | omega) (by decide) ?_
  refine k_aload_n d_R_take_33 rfl ?_
  refine k_getr (t := 4) d_R_take_34 f_R_20 (by decide) rfl (by decide) (by decide) rfl ?_
  refine k_iconst (v := 4) d_R_take_37 (by decide) ?_
  refine k_iload_n d_R_take_38 rfl ?_
  refine k_imul d_R_take_39 ?_
  refine k_iconst (v := 3) d_R_take_40 (by decide) ?_
  refine k_iadd d_R_take_41 ?_
  rw [show (3 : Int32) = nI 3 from rfl, rg_eq hi (by decide)]
  refine k_iload d_R_take_42 rfl ?_
  refine k_iastN (n := 32) d_R_take_44 (by decide) rfl rfl (by first | assumption | omega) (by decide) ?_
  refine k_aload_n d_R_take_45 rfl ?_
  refine k_getr (t := 10) d_R_take_46 f_R_38 (by decide) rfl (by decide) (by decide) rfl ?_
  refine k_iload_n d_R_take_49 rfl ?_
  refine k_iload_n d_R_take_50 rfl ?_
  refine k_iastN (n := 8) d_R_take_51 (by decide) rfl rfl (by first | assumption | omega) (by decide) ?_
  refine k_aload_n d_R_take_52 rfl ?_
  refine k_getr (t := 12) d_R_take_53 f_R_44 (by decide) rfl (by decide) (by decide) rfl ?_
  refine k_iload_n d_R_take_56 rfl ?_
  refine k_dup2 d_R_take_57 rfl rfl ?_
  refine k_ialdN (n := 8) d_R_take_58 (by decide) rfl rfl (by first | assumption | omega) (by decide) ?_
  refine k_iconst (v := 1) d_R_take_59 (by decide) ?_
  refine k_iadd d_R_take_60 ?_
  refine k_iastN (n := 8) d_R_take_61 (by decide) rfl rfl (by first | assumption | omega) (by decide) ?_
  exact k_vret d_R_take_62 rfl rfl (by simp [rTake, kup_o])

end KRA
