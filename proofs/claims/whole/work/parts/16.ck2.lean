section KCL
set_option maxRecDepth 4000 in
theorem c_K_giveUp {l : Launch} {D : va_G} {cI cB cT : ClassId} {ad : Nat → Nat} {d : Nat} {u : kSt} {i : Nat} (hi : i < 8) : KSp (kWl lyC l D cI cB cT ad) y_K_giveUp m_K_giveUp (d + 1) [.ref (8 + i)] u (some (.int 2)) (cRun u i 1) := by
  refine KSp.of (by decide) rfl (Nat.le_of_ble_eq_true rfl) rfl ?_
  show KAt (kWl lyC l D cI cB cT ad) m_K_giveUp (d + 1) 0 [some (.ref (8 + i))] [] u (some (.int 2)) (cRun u i 1)
  refine k_aload_n d_K_giveUp_0 rfl ?_
  refine k_iconst (v := 1) d_K_giveUp_1 (by decide) ?_
  refine k_virt1v d_K_giveUp_2 l_K_158 g_H_run (c_H_run hi) (rcvT (by first | assumption | omega)) (Nat.le_of_ble_eq_true rfl) ?_
  refine k_iconst (v := 2) d_K_giveUp_5 (by decide) ?_
  exact k_iret d_K_giveUp_6 rfl (by first | rfl | (simp [bI] <;> done) | (simp [bI, *] <;> done)) (by first | rfl | (simp [bI] <;> done) | (simp [bI, *] <;> done))

set_option maxRecDepth 4000 in
theorem c_K_joinLine {l : Launch} {D : va_G} {cI cB cT : ClassId} {ad : Nat → Nat} {d : Nat} {u : kSt} {i : Nat} {a b c : Int32} (hi : i < 8) : KSp (kWl lyC l D cI cB cT ad) y_K_joinLine m_K_joinLine (d + 1) [.ref 0, .ref (8 + i), .int a, .int b, .int c] u none (cJoin u i a b c) := by
  refine KSp.of (by decide) rfl (Nat.le_of_ble_eq_true rfl) rfl ?_
  show KAt (kWl lyC l D cI cB cT ad) m_K_joinLine (d + 1) 0 [some (.ref 0), some (.ref (8 + i)), some (.int a), some (.int b), some (.int c)] [] u none (cJoin u i a b c)
  refine k_aload_n d_K_joinLine_0 rfl ?_
  refine k_aload_n d_K_joinLine_1 rfl ?_
  refine k_getf d_K_joinLine_2 f_K_30 (by decide) rfl (by decide) (by decide) rfl ?_
  refine cT_put d_K_joinLine_5 p_K_185 (by first | assumption | omega) (by decide) (by decide) rfl rfl ?_
  refine k_aload_n d_K_joinLine_8 rfl ?_
  refine k_dup d_K_joinLine_9 rfl ?_
  refine k_getf d_K_joinLine_10 f_K_30 (by decide) rfl (by decide) (by decide) rfl ?_
  refine k_iconst (v := 1) d_K_joinLine_13 (by decide) ?_
  refine k_iadd d_K_joinLine_14 ?_
  refine k_putf d_K_joinLine_15 p_K_30 (by decide) rfl (by decide) (by decide) rfl rfl rfl ?_
  refine k_aload_n d_K_joinLine_18 rfl ?_
  refine k_iload_n d_K_joinLine_19 rfl ?_
  refine k_iload_n d_K_joinLine_20 rfl ?_
  refine k_iload d_K_joinLine_21 rfl ?_
  refine k_virt3v d_K_joinLine_23 l_K_116 g_H_waitFor (c_H_waitFor hi) (rcvT (by first | assumption | omega)) (Nat.le_of_ble_eq_true rfl) ?_
  exact k_vret d_K_joinLine_26 rfl rfl (by rw [cJoin, kup_o (show (0 : Nat) ≠ 8 + i by omega)])

set_option maxRecDepth 4000 in
theorem c_K_waitToSend {l : Launch} {D : va_G} {cI cB cT : ClassId} {ad : Nat → Nat} {d : Nat} {u : kSt} {i : Nat} {a b c : Int32} (hi : i < 8) : KSp (kWl lyC l D cI cB cT ad) y_K_waitToSend m_K_waitToSend (d + 2) [.ref 0, .ref (8 + i), .int a, .int b, .int c] u (some (.int (cWaitSendN c))) (cWaitSend u i a b c) := by
  refine KSp.of (by decide) rfl (Nat.le_of_ble_eq_true rfl) rfl ?_
  show KAt (kWl lyC l D cI cB cT ad) m_K_waitToSend (d + 2) 0 [some (.ref 0), some (.ref (8 + i)), some (.int a), some (.int b), some (.int c)] [] u (some (.int (cWaitSendN c))) (cWaitSend u i a b c)
  refine k_iload d_K_waitToSend_0 rfl ?_
  refine k_if_ne d_K_waitToSend_2 (fun h2 => ?_) (fun h2 => ?_)
  · refine k_aload_n d_K_waitToSend_10 rfl ?_
    refine k_aload_n d_K_waitToSend_11 rfl ?_
    refine k_iload_n d_K_waitToSend_12 rfl ?_
    refine k_iload_n d_K_waitToSend_13 rfl ?_
    refine k_aload_n d_K_waitToSend_14 rfl ?_
    refine k_iload d_K_waitToSend_15 rfl ?_
    refine k_virt1s d_K_waitToSend_17 l_K_112 g_K_deadline c_K_deadline rcvK (Nat.le_of_ble_eq_true rfl) ?_
    refine k_virt4v d_K_waitToSend_20 l_K_188 g_K_joinLine (c_K_joinLine hi) rcvK (Nat.le_of_ble_eq_true rfl) ?_
    refine k_iconst (v := 1) d_K_waitToSend_23 (by decide) ?_
    exact k_iret d_K_waitToSend_24 rfl (by simp [cWaitSendN, *]) (by simp [cWaitSend, *])
  · refine k_aload_n d_K_waitToSend_5 rfl ?_
    refine k_stat1s d_K_waitToSend_6 l_K_108 g_K_giveUp (c_K_giveUp hi) (Nat.le_of_ble_eq_true rfl) ?_
    exact k_iret d_K_waitToSend_9 rfl (by simp [cWaitSendN, *]) (by simp [cWaitSend, *])

set_option maxRecDepth 4000 in
theorem c_K_passFault {l : Launch} {D : va_G} {cI cB cT : ClassId} {ad : Nat → Nat} {d : Nat} {u : kSt} {f g : Nat} (hf : f < 8) (hg : g < 8) (hI : cInv u) : KSp (kWl lyC l D cI cB cT ad) y_K_passFault m_K_passFault (d + 1) [.ref 0, .ref (8 + f), .ref (8 + g)] u none (cPassFault u f g) := by
  refine KSp.of (by decide) rfl (Nat.le_of_ble_eq_true rfl) rfl ?_
  show KAt (kWl lyC l D cI cB cT ad) m_K_passFault (d + 1) 0 [some (.ref 0), some (.ref (8 + f)), some (.ref (8 + g))] [] u none (cPassFault u f g)
  refine k_aload_n d_K_passFault_0 rfl ?_
  refine k_aload_n d_K_passFault_1 rfl ?_
  refine cT_num d_K_passFault_2 f_K_182 (by first | assumption | omega) (hI.num hf) ?_
  refine k_aload_n d_K_passFault_5 rfl ?_
  refine cT_get d_K_passFault_6 f_K_123 (by first | assumption | omega) (by decide) (by decide) ?_
  refine k_aload_n d_K_passFault_9 rfl ?_
  refine cT_get d_K_passFault_10 f_K_126 (by first | assumption | omega) (by decide) (by decide) ?_
  refine k_iconst (v := 0) d_K_passFault_13 (by decide) ?_
  refine k_iconst (v := 0) d_K_passFault_14 (by decide) ?_
  refine k_virt5v d_K_passFault_15 l_K_195 g_H_take (c_H_take hg) (rcvT (by first | assumption | omega)) (Nat.le_of_ble_eq_true rfl) ?_
  refine k_aload_n d_K_passFault_18 rfl ?_
  refine k_iconst (v := 5) d_K_passFault_19 (by decide) ?_
  refine k_aload_n d_K_passFault_20 rfl ?_
  refine cT_num d_K_passFault_21 f_K_182 (by first | assumption | omega) (hI.take.num hg) ?_
  refine k_iconst (v := (-1)) d_K_passFault_24 (by decide) ?_
  refine k_virt3v d_K_passFault_25 l_K_116 g_H_waitFor (c_H_waitFor hf) (rcvT (by first | assumption | omega)) (Nat.le_of_ble_eq_true rfl) ?_
  refine k_aload_n d_K_passFault_28 rfl ?_
  refine k_iconst (v := 0) d_K_passFault_29 (by decide) ?_
  refine k_virt1v d_K_passFault_30 l_K_158 g_H_run (c_H_run hg) (rcvT (by first | assumption | omega)) (Nat.le_of_ble_eq_true rfl) ?_
  exact k_vret d_K_passFault_33 rfl rfl (by first | rfl | (simp [cPassFault] <;> done) | (simp [cPassFault, *] <;> done))

set_option maxRecDepth 4000 in
theorem c_K_fault {l : Launch} {D : va_G} {cI cB cT : ClassId} {ad : Nat → Nat} {d : Nat} {u : kSt} {f g : Nat} (hf : f < 8) (hg : g < 8) (hI : cInv u) : KSp (kWl lyC l D cI cB cT ad) y_K_fault m_K_fault (d + 2) [.ref 0, .ref (8 + f), .ref (8 + g)] u none (cFault u f g) := by
  refine KSp.of (by decide) rfl (Nat.le_of_ble_eq_true rfl) rfl ?_
  show KAt (kWl lyC l D cI cB cT ad) m_K_fault (d + 2) 0 [some (.ref 0), some (.ref (8 + f)), some (.ref (8 + g))] [] u none (cFault u f g)
  refine k_aload_n d_K_fault_0 rfl ?_
  refine k_aload_n d_K_fault_1 rfl ?_
  refine k_iconst (v := 4) d_K_fault_2 (by decide) ?_
  refine k_aload_n d_K_fault_3 rfl ?_
  refine cT_num d_K_fault_4 f_K_182 (by first | assumption | omega) (hI.num hg) ?_
  refine k_iconst (v := (-1)) d_K_fault_7 (by decide) ?_
  refine k_virt4v d_K_fault_8 l_K_188 g_K_joinLine (c_K_joinLine hf) rcvK (Nat.le_of_ble_eq_true rfl) ?_
  refine k_aload_n d_K_fault_11 rfl ?_
  refine k_aload_n d_K_fault_12 rfl ?_
  refine cT_num d_K_fault_13 f_K_182 (by first | assumption | omega) (hI.join.num hf) ?_
  refine k_virt1s d_K_fault_16 l_K_222 g_H_receivesFrom (c_H_receivesFrom hg) (rcvT (by first | assumption | omega)) (Nat.le_of_ble_eq_true rfl) ?_
  refine k_if_eqB d_K_fault_19 (fun h19 => ?_) (fun h19 => ?_)
  · exact k_vret d_K_fault_28 rfl rfl (by first | rfl | (simp [cFault] <;> done) | (simp [cFault, *] <;> done))
  · refine k_aload_n d_K_fault_22 rfl ?_
    refine k_aload_n d_K_fault_23 rfl ?_
    refine k_aload_n d_K_fault_24 rfl ?_
    refine k_virt2v d_K_fault_25 l_K_192 g_K_passFault (c_K_passFault hf hg hI.join) rcvK (Nat.le_of_ble_eq_true rfl) ?_
    exact k_vret d_K_fault_28 rfl rfl (by first | rfl | (simp [cFault] <;> done) | (simp [cFault, *] <;> done))

set_option maxRecDepth 4000 in
theorem c_K_doAccess {l : Launch} {D : va_G} {cI cB cT : ClassId} {ad : Nat → Nat} {d : Nat} {u : kSt} {i e : Nat} (hi : i < 8) (he : e < 16) : KSp (kWl lyC l D cI cB cT ad) y_K_doAccess m_K_doAccess (d + 1) [.ref 0, .ref (8 + i), .int (nI e)] u none (cDoAccess u i e) := by
  refine KSp.of (by decide) rfl (Nat.le_of_ble_eq_true rfl) rfl ?_
  show KAt (kWl lyC l D cI cB cT ad) m_K_doAccess (d + 1) 0 [some (.ref 0), some (.ref (8 + i)), some (.int (nI e))] [] u none (cDoAccess u i e)
  refine k_aload_n d_K_doAccess_0 rfl ?_
  refine cT_get d_K_doAccess_1 f_K_126 (by first | assumption | omega) (by decide) (by decide) ?_
  refine k_iconst (v := 2) d_K_doAccess_4 (by decide) ?_
  refine k_icmp_ne d_K_doAccess_5 (fun h5 => ?_) (fun h5 => ?_)
  · refine k_aload_n d_K_doAccess_21 rfl ?_
    refine k_aload_n d_K_doAccess_22 rfl ?_
    refine k_getr (t := 3) d_K_doAccess_23 f_K_22 (by decide) rfl (by decide) (by decide) rfl ?_
    refine k_iload_n d_K_doAccess_26 rfl ?_
    refine k_ialdN (n := 16) d_K_doAccess_27 (by decide) rfl rfl (by first | assumption | omega) (by decide) ?_
    refine cT_put d_K_doAccess_28 p_K_167 (by first | assumption | omega) (by decide) (by decide) rfl rfl ?_
    refine k_aload_n d_K_doAccess_31 rfl ?_
    refine k_iconst (v := 0) d_K_doAccess_32 (by decide) ?_
    refine k_virt1v d_K_doAccess_33 l_K_158 g_H_run (c_H_run hi) (rcvT (by first | assumption | omega)) (Nat.le_of_ble_eq_true rfl) ?_
    exact k_vret d_K_doAccess_36 rfl rfl (by first | rfl | (simp [cDoAccess] <;> done) | (simp [cDoAccess, *] <;> done))
  · refine k_aload_n d_K_doAccess_8 rfl ?_
    refine k_getr (t := 3) d_K_doAccess_9 f_K_22 (by decide) rfl (by decide) (by decide) rfl ?_
    refine k_iload_n d_K_doAccess_12 rfl ?_
    refine k_aload_n d_K_doAccess_13 rfl ?_
    refine cT_get d_K_doAccess_14 f_K_129 (by first | assumption | omega) (by decide) (by decide) ?_
    refine k_iastN (n := 16) d_K_doAccess_17 (by decide) rfl rfl (by first | assumption | omega) (by decide) ?_
    refine k_goto d_K_doAccess_18 ?_
    refine k_aload_n d_K_doAccess_31 rfl ?_
    refine k_iconst (v := 0) d_K_doAccess_32 (by decide) ?_
    refine k_virt1v d_K_doAccess_33 l_K_158 g_H_run (c_H_run hi) (rcvT (by first | assumption | omega)) (Nat.le_of_ble_eq_true rfl) ?_
    exact k_vret d_K_doAccess_36 rfl rfl (by first | rfl | (simp [cDoAccess] <;> done) | (simp [cDoAccess, *] <;> done))

set_option maxRecDepth 4000 in
theorem c_K_tryAccess {l : Launch} {D : va_G} {cI cB cT : ClassId} {ad : Nat → Nat} {d : Nat} {u : kSt} {i : Nat} (hi : i < 8) (hI : cInv u) : KSp (kWl lyC l D cI cB cT ad) y_K_tryAccess m_K_tryAccess (d + 3) [.ref 0, .ref (8 + i)] u none (cTry u i) := by
  refine KSp.of (by decide) rfl (Nat.le_of_ble_eq_true rfl) rfl ?_
  show KAt (kWl lyC l D cI cB cT ad) m_K_tryAccess (d + 3) 0 [some (.ref 0), some (.ref (8 + i)), none] [] u none (cTry u i)
  refine k_aload_n d_K_tryAccess_0 rfl ?_
  refine cT_get d_K_tryAccess_1 f_K_136 (by first | assumption | omega) (by decide) (by decide) ?_
  refine k_aload_n d_K_tryAccess_4 rfl ?_
  refine cT_get d_K_tryAccess_5 f_K_123 (by first | assumption | omega) (by decide) (by decide) ?_
  refine k_stat2s d_K_tryAccess_8 l_K_139 g_K_slotOf c_K_slotOf (Nat.le_of_ble_eq_true rfl) ?_
  have hs := (sl_eq (hI.space hi) (hI.wanted hi)).2
  rw [(sl_eq (hI.space hi) (hI.wanted hi)).1]
  refine k_istore_n d_K_tryAccess_11 (by decide) ?_
  refine k_aload_n d_K_tryAccess_12 rfl ?_
  refine k_getr (t := 2) d_K_tryAccess_13 f_K_18 (by decide) rfl (by decide) (by decide) rfl ?_
  refine k_getr (t := 4) d_K_tryAccess_16 f_K_206 (by decide) rfl (by decide) (by decide) rfl ?_
  refine k_iload_n d_K_tryAccess_19 rfl ?_
  refine k_ialdN (n := 96) d_K_tryAccess_20 (by decide) rfl rfl (by first | assumption | omega) (by decide) ?_
  refine k_aload_n d_K_tryAccess_21 rfl ?_
  refine cT_get d_K_tryAccess_22 f_K_126 (by first | assumption | omega) (by decide) (by decide) ?_
  refine k_icmp_lt d_K_tryAccess_25 (fun h25 => ?_) (fun h25 => ?_)
  · refine k_aload_n d_K_tryAccess_45 rfl ?_
    refine cT_get d_K_tryAccess_46 f_K_216 (by first | assumption | omega) (by decide) (by decide) ?_
    refine k_iconst (v := (-1)) d_K_tryAccess_49 (by decide) ?_
    refine k_icmp_ne d_K_tryAccess_50 (fun h50 => ?_) (fun h50 => ?_)
    · refine k_aload_n d_K_tryAccess_62 rfl ?_
      refine k_aload_n d_K_tryAccess_63 rfl ?_
      refine k_aload_n d_K_tryAccess_64 rfl ?_
      refine k_getr (t := 1) d_K_tryAccess_65 f_K_11 (by decide) rfl (by decide) (by decide) rfl ?_
      refine k_aload_n d_K_tryAccess_68 rfl ?_
      refine cT_get d_K_tryAccess_69 f_K_216 (by first | assumption | omega) (by decide) (by decide) ?_
      refine cA_ald d_K_tryAccess_72 (or_in (hI.pager hi) h50) (fun hi72 => ?_)
      refine k_virt2v d_K_tryAccess_73 l_K_219 g_K_fault (c_K_fault hi hi72 hI) rcvK (Nat.le_of_ble_eq_true rfl) ?_
      exact k_vret d_K_tryAccess_76 rfl rfl (by first | rfl | (simp [cTry] <;> done) | (simp [cTry, *] <;> done))
    · refine k_aload_n d_K_tryAccess_53 rfl ?_
      refine k_bipush (v := 6) d_K_tryAccess_54 (by decide) ?_
      refine cT_put d_K_tryAccess_56 p_K_51 (by first | assumption | omega) (by decide) (by decide) rfl rfl ?_
      refine k_goto d_K_tryAccess_59 ?_
      exact k_vret d_K_tryAccess_76 rfl rfl (by first | rfl | (simp [cTry] <;> done) | (simp [cTry, *] <;> done))
  · refine k_aload_n d_K_tryAccess_28 rfl ?_
    refine k_aload_n d_K_tryAccess_29 rfl ?_
    refine k_aload_n d_K_tryAccess_30 rfl ?_
    refine k_getr (t := 2) d_K_tryAccess_31 f_K_18 (by decide) rfl (by decide) (by decide) rfl ?_
    refine k_getr (t := 5) d_K_tryAccess_34 f_K_209 (by decide) rfl (by decide) (by decide) rfl ?_
    refine k_iload_n d_K_tryAccess_37 rfl ?_
    refine k_ialdN (n := 96) d_K_tryAccess_38 (by decide) rfl rfl (by first | assumption | omega) (by decide) ?_
    have he := hI.frame hs
    rw [vin_eq he]
    refine k_virt2v d_K_tryAccess_39 l_K_212 g_K_doAccess (c_K_doAccess hi (vin_lt he)) rcvK (Nat.le_of_ble_eq_true rfl) ?_
    refine k_goto d_K_tryAccess_42 ?_
    exact k_vret d_K_tryAccess_76 rfl rfl (by first | rfl | (simp [cTry] <;> done) | (simp [cTry, *] <;> done))

theorem c_K_passOffer_2 {l : Launch} {D : va_G} {cI cB cT : ClassId} {ad : Nat → Nat} {d : Nat} {u : kSt} {f g : Nat} (hf : f < 8) (hg : g < 8) {pg : Int32} (hI : cInv u) (hp : pg = -1 ∨ vp_in pg 16) : KAt (kWl lyC l D cI cB cT ad) m_K_passOffer (d + 3) 20 [some (.ref 0), some (.ref (8 + f)), some (.ref (8 + g)), some (.int pg), none] [] u none (kup (if u (8 + f) 5 = -1 then u else if pg = -1 then u else cHandOn u (sl (u (8 + f) 3) (u (8 + f) 5)) (sl (u (8 + g) 3) pg) (u (8 + f) 6) (u (8 + f) 7)) (8 + f) 5 (-1)) := by
  refine k_aload_n d_K_passOffer_20 rfl ?_
  refine cT_get d_K_passOffer_21 f_K_69 (by first | assumption | omega) (by decide) (by decide) ?_
  refine k_iconst (v := (-1)) d_K_passOffer_24 (by decide) ?_
  refine k_icmp_eq d_K_passOffer_25 (fun h25 => ?_) (fun h25 => ?_)
  · refine k_aload_n d_K_passOffer_71 rfl ?_
    refine k_iconst (v := (-1)) d_K_passOffer_72 (by decide) ?_
    refine cT_put d_K_passOffer_73 p_K_69 (by first | assumption | omega) (by decide) (by decide) rfl rfl ?_
    exact k_vret d_K_passOffer_76 rfl rfl (by simp [*])
  · refine k_iload_n d_K_passOffer_28 rfl ?_
    refine k_iconst (v := (-1)) d_K_passOffer_29 (by decide) ?_
    refine k_icmp_eq d_K_passOffer_30 (fun h30 => ?_) (fun h30 => ?_)
    · refine k_aload_n d_K_passOffer_71 rfl ?_
      refine k_iconst (v := (-1)) d_K_passOffer_72 (by decide) ?_
      refine cT_put d_K_passOffer_73 p_K_69 (by first | assumption | omega) (by decide) (by decide) rfl rfl ?_
      exact k_vret d_K_passOffer_76 rfl rfl (by simp [*])
    · refine k_aload_n d_K_passOffer_33 rfl ?_
      refine cT_get d_K_passOffer_34 f_K_136 (by first | assumption | omega) (by decide) (by decide) ?_
      refine k_aload_n d_K_passOffer_37 rfl ?_
      refine cT_get d_K_passOffer_38 f_K_69 (by first | assumption | omega) (by decide) (by decide) ?_
      refine k_stat2s d_K_passOffer_41 l_K_139 g_K_slotOf c_K_slotOf (Nat.le_of_ble_eq_true rfl) ?_
      have hs := sl_eq (hI.space hf) (or_in (hI.offer hf) h25)
      rw [hs.1]
      refine k_istore d_K_passOffer_44 (by decide) ?_
      refine k_aload_n d_K_passOffer_46 rfl ?_
      refine k_getr (t := 2) d_K_passOffer_47 f_K_18 (by decide) rfl (by decide) (by decide) rfl ?_
      refine k_iload d_K_passOffer_50 rfl ?_
      refine k_aload_n d_K_passOffer_52 rfl ?_
      refine cT_get d_K_passOffer_53 f_K_136 (by first | assumption | omega) (by decide) (by decide) ?_
      refine k_iload_n d_K_passOffer_56 rfl ?_
      refine k_stat2s d_K_passOffer_57 l_K_139 g_K_slotOf c_K_slotOf (Nat.le_of_ble_eq_true rfl) ?_
      have ht := sl_eq (hI.space hg) (or_in hp h30)
      rw [ht.1]
      refine k_aload_n d_K_passOffer_60 rfl ?_
      refine cT_get d_K_passOffer_61 f_K_72 (by first | assumption | omega) (by decide) (by decide) ?_
      refine k_aload_n d_K_passOffer_64 rfl ?_
      refine cT_get d_K_passOffer_65 f_K_75 (by first | assumption | omega) (by decide) (by decide) ?_
      refine k_virt4v d_K_passOffer_68 l_K_202 g_P_handOn (c_P_handOn hs.2 ht.2 hI.par hI.dep) rcvP (Nat.le_of_ble_eq_true rfl) ?_
      refine k_aload_n d_K_passOffer_71 rfl ?_
      refine k_iconst (v := (-1)) d_K_passOffer_72 (by decide) ?_
      refine cT_put d_K_passOffer_73 p_K_69 (by first | assumption | omega) (by decide) (by decide) rfl rfl ?_
      exact k_vret d_K_passOffer_76 rfl rfl (by simp [*])

set_option maxRecDepth 4000 in
theorem c_K_passOffer {l : Launch} {D : va_G} {cI cB cT : ClassId} {ad : Nat → Nat} {d : Nat} {u : kSt} {f g : Nat} (hf : f < 8) (hg : g < 8) (hI : cInv u) : KSp (kWl lyC l D cI cB cT ad) y_K_passOffer m_K_passOffer (d + 3) [.ref 0, .ref (8 + f), .ref (8 + g)] u none (cOffer u f g) := by
  refine KSp.of (by decide) rfl (Nat.le_of_ble_eq_true rfl) rfl ?_
  show KAt (kWl lyC l D cI cB cT ad) m_K_passOffer (d + 3) 0 [some (.ref 0), some (.ref (8 + f)), some (.ref (8 + g)), none, none] [] u none (cOffer u f g)
  refine k_aload_n d_K_passOffer_0 rfl ?_
  refine cT_get d_K_passOffer_1 f_K_51 (by first | assumption | omega) (by decide) (by decide) ?_
  refine k_iconst (v := 5) d_K_passOffer_4 (by decide) ?_
  refine k_icmp_ne d_K_passOffer_5 (fun h5 => ?_) (fun h5 => ?_)
  · refine k_aload_n d_K_passOffer_15 rfl ?_
    refine cT_get d_K_passOffer_16 f_K_79 (by first | assumption | omega) (by decide) (by decide) ?_
    refine k_istore_n d_K_passOffer_19 (by decide) ?_
    first
      | exact (c_K_passOffer_2 hf hg hI (Or.inr (hI.wanted hg))).to rfl (by simp [cOffer, cOffer1, cPage, *])
      | exact (c_K_passOffer_2 hf hg hI (hI.window hg)).to rfl (by simp [cOffer, cOffer1, cPage, *])
  · refine k_aload_n d_K_passOffer_8 rfl ?_
    refine cT_get d_K_passOffer_9 f_K_123 (by first | assumption | omega) (by decide) (by decide) ?_
    refine k_goto d_K_passOffer_12 ?_
    refine k_istore_n d_K_passOffer_19 (by decide) ?_
    first
      | exact (c_K_passOffer_2 hf hg hI (Or.inr (hI.wanted hg))).to rfl (by simp [cOffer, cOffer1, cPage, *])
      | exact (c_K_passOffer_2 hf hg hI (hI.window hg)).to rfl (by simp [cOffer, cOffer1, cPage, *])

theorem c_K_passMessage_3 {l : Launch} {D : va_G} {cI cB cT : ClassId} {ad : Nat → Nat} {d : Nat} {u : kSt} {f g : Nat} (hf : f < 8) (hg : g < 8) {a : Int32} {b : Bool} (hI : cInv u) : KAt (kWl lyC l D cI cB cT ad) m_K_passMessage (d + 4) 78 [some (.ref 0), some (.ref (8 + f)), some (.ref (8 + g)), some (.int a), some (.int (bI b)), none] [] u none (cPass3 u g b) := by
  refine k_iload d_K_passMessage_78 rfl ?_
  refine k_if_eqB d_K_passMessage_80 (fun h80 => ?_) (fun h80 => ?_)
  · refine k_aload_n d_K_passMessage_91 rfl ?_
    refine k_iconst (v := 0) d_K_passMessage_92 (by decide) ?_
    refine k_virt1v d_K_passMessage_93 l_K_158 g_H_run (c_H_run hg) (rcvT (by first | assumption | omega)) (Nat.le_of_ble_eq_true rfl) ?_
    exact k_vret d_K_passMessage_96 rfl rfl (by first | rfl | (simp [cPass3] <;> done) | (simp [cPass3, *] <;> done))
  · refine k_aload_n d_K_passMessage_83 rfl ?_
    refine k_aload_n d_K_passMessage_84 rfl ?_
    refine k_virt1v d_K_passMessage_85 l_K_132 g_K_tryAccess (c_K_tryAccess hg hI) rcvK (Nat.le_of_ble_eq_true rfl) ?_
    refine k_goto d_K_passMessage_88 ?_
    exact k_vret d_K_passMessage_96 rfl rfl (by first | rfl | (simp [cPass3] <;> done) | (simp [cPass3, *] <;> done))
theorem c_K_passMessage_2 {l : Launch} {D : va_G} {cI cB cT : ClassId} {ad : Nat → Nat} {d : Nat} {u : kSt} {f g : Nat} (hf : f < 8) (hg : g < 8) {a : Int32} {b : Bool} (hI : cInv u) : KAt (kWl lyC l D cI cB cT ad) m_K_passMessage (d + 4) 50 [some (.ref 0), some (.ref (8 + f)), some (.ref (8 + g)), some (.int a), some (.int (bI b)), none] [] u none (cPass3 (cPass2 (cOffer u f g) f g a) g b) := by
  refine k_aload_n d_K_passMessage_50 rfl ?_
  refine k_aload_n d_K_passMessage_51 rfl ?_
  refine k_aload_n d_K_passMessage_52 rfl ?_
  refine k_virt2v d_K_passMessage_53 l_K_199 g_K_passOffer (c_K_passOffer hf hg hI) rcvK (Nat.le_of_ble_eq_true rfl) ?_
  refine k_iload_n d_K_passMessage_56 rfl ?_
  refine k_if_eq d_K_passMessage_57 (fun h57 => ?_) (fun h57 => ?_)
  · refine k_aload_n d_K_passMessage_73 rfl ?_
    refine k_iconst (v := 0) d_K_passMessage_74 (by decide) ?_
    refine k_virt1v d_K_passMessage_75 l_K_158 g_H_run (c_H_run hf) (rcvT (by first | assumption | omega)) (Nat.le_of_ble_eq_true rfl) ?_
    first
      | exact (c_K_passMessage_3 hf hg (hI.offerS hf hg).wait).to rfl (by simp [cPass2, *])
      | exact (c_K_passMessage_3 hf hg (hI.offerS hf hg).run).to rfl (by simp [cPass2, *])
  · refine k_aload_n d_K_passMessage_60 rfl ?_
    refine k_iconst (v := 2) d_K_passMessage_61 (by decide) ?_
    refine k_aload_n d_K_passMessage_62 rfl ?_
    refine cT_num d_K_passMessage_63 f_K_182 (by first | assumption | omega) ((hI.offerS hf hg).num hg) ?_
    refine k_iconst (v := (-1)) d_K_passMessage_66 (by decide) ?_
    refine k_virt3v d_K_passMessage_67 l_K_116 g_H_waitFor (c_H_waitFor hf) (rcvT (by first | assumption | omega)) (Nat.le_of_ble_eq_true rfl) ?_
    refine k_goto d_K_passMessage_70 ?_
    first
      | exact (c_K_passMessage_3 hf hg (hI.offerS hf hg).wait).to rfl (by simp [cPass2, *])
      | exact (c_K_passMessage_3 hf hg (hI.offerS hf hg).run).to rfl (by simp [cPass2, *])

set_option maxRecDepth 4000 in
theorem c_K_passMessage {l : Launch} {D : va_G} {cI cB cT : ClassId} {ad : Nat → Nat} {d : Nat} {u : kSt} {f g : Nat} (hf : f < 8) (hg : g < 8) {a : Int32} (hI : cInv u) : KSp (kWl lyC l D cI cB cT ad) y_K_passMessage m_K_passMessage (d + 4) [.ref 0, .ref (8 + f), .ref (8 + g), .int a] u none (cPass u f g a) := by
  refine KSp.of (by decide) rfl (Nat.le_of_ble_eq_true rfl) rfl ?_
  show KAt (kWl lyC l D cI cB cT ad) m_K_passMessage (d + 4) 0 [some (.ref 0), some (.ref (8 + f)), some (.ref (8 + g)), some (.int a), none, none] [] u none (cPass u f g a)
  refine k_aload_n d_K_passMessage_0 rfl ?_
  refine cT_get d_K_passMessage_1 f_K_51 (by first | assumption | omega) (by decide) (by decide) ?_
  refine k_iconst (v := 5) d_K_passMessage_4 (by decide) ?_
  refine k_icmp_ne d_K_passMessage_5 (fun h5 => ?_) (fun h5 => ?_)
  · refine k_iconst (v := 0) d_K_passMessage_12 (by decide) ?_
    refine k_istore d_K_passMessage_13 (by decide) ?_
    refine k_iload d_K_passMessage_15 rfl ?_
    refine k_if_ne d_K_passMessage_17 (fun h => absurd h (by decide)) (fun _ => ?_)
    refine k_aload_n d_K_passMessage_20 rfl ?_
    refine cT_reg d_K_passMessage_21 f_K_60 (by first | assumption | omega) ?_
    refine k_astore d_K_passMessage_24 (by decide) ?_
    refine k_aload_n d_K_passMessage_26 rfl ?_
    refine k_aload_n d_K_passMessage_27 rfl ?_
    refine cT_num d_K_passMessage_28 f_K_182 (by first | assumption | omega) (hI.num hf) ?_
    refine k_aload d_K_passMessage_31 rfl ?_
    refine k_iconst (v := 0) d_K_passMessage_33 (by decide) ?_
    refine cR_ald d_K_passMessage_34 (by first | assumption | omega) (by first | assumption | (unfold vp_in; decide) | exact vin (by assumption) (by assumption) | exact vin_n (by assumption) | exact vin_n (by omega)) ?_
    refine k_aload d_K_passMessage_35 rfl ?_
    refine k_iconst (v := 1) d_K_passMessage_37 (by decide) ?_
    refine cR_ald d_K_passMessage_38 (by first | assumption | omega) (by first | assumption | (unfold vp_in; decide) | exact vin (by assumption) (by assumption) | exact vin_n (by assumption) | exact vin_n (by omega)) ?_
    refine k_aload d_K_passMessage_39 rfl ?_
    refine k_iconst (v := 2) d_K_passMessage_41 (by decide) ?_
    refine cR_ald d_K_passMessage_42 (by first | assumption | omega) (by first | assumption | (unfold vp_in; decide) | exact vin (by assumption) (by assumption) | exact vin_n (by assumption) | exact vin_n (by omega)) ?_
    refine k_aload d_K_passMessage_43 rfl ?_
    refine k_iconst (v := 3) d_K_passMessage_45 (by decide) ?_
    refine cR_ald d_K_passMessage_46 (by first | assumption | omega) (by first | assumption | (unfold vp_in; decide) | exact vin (by assumption) (by assumption) | exact vin_n (by assumption) | exact vin_n (by omega)) ?_
    refine k_virt5v d_K_passMessage_47 l_K_195 g_H_take (c_H_take hg) (rcvT (by first | assumption | omega)) (Nat.le_of_ble_eq_true rfl) ?_
    first
      | exact (c_K_passMessage_2 (b := true) hf hg hI).to rfl (by simp [cPass, cPass1, *])
      | (refine k_forget 5 ?_; exact (c_K_passMessage_2 (b := false) hf hg hI.take).to rfl (by simp [cPass, cPass1, ix0, ix1, ix2, ix3, *]))
  · refine k_iconst (v := 1) d_K_passMessage_8 (by decide) ?_
    refine k_goto d_K_passMessage_9 ?_
    refine k_istore d_K_passMessage_13 (by decide) ?_
    refine k_iload d_K_passMessage_15 rfl ?_
    refine k_if_ne d_K_passMessage_17 (fun _ => ?_) (fun h => absurd h (by decide))
    first
      | exact (c_K_passMessage_2 (b := true) hf hg hI).to rfl (by simp [cPass, cPass1, *])
      | (refine k_forget 5 ?_; exact (c_K_passMessage_2 (b := false) hf hg hI.take).to rfl (by simp [cPass, cPass1, ix0, ix1, ix2, ix3, *]))

set_option maxRecDepth 4000 in
theorem c_K_takeWaitingMessage {l : Launch} {D : va_G} {cI cB cT : ClassId} {ad : Nat → Nat} {d : Nat} {u : kSt} {f g : Nat} (hf : f < 8) (hg : g < 8) (hI : cInv u) : KSp (kWl lyC l D cI cB cT ad) y_K_takeWaitingMessage m_K_takeWaitingMessage (d + 5) [.ref 0, .ref (8 + f), .ref (8 + g)] u none (cTakeW u f g) := by
  refine KSp.of (by decide) rfl (Nat.le_of_ble_eq_true rfl) rfl ?_
  show KAt (kWl lyC l D cI cB cT ad) m_K_takeWaitingMessage (d + 5) 0 [some (.ref 0), some (.ref (8 + f)), some (.ref (8 + g))] [] u none (cTakeW u f g)
  refine k_aload_n d_K_takeWaitingMessage_0 rfl ?_
  refine cT_get d_K_takeWaitingMessage_1 f_K_51 (by first | assumption | omega) (by decide) (by decide) ?_
  refine k_iconst (v := 4) d_K_takeWaitingMessage_4 (by decide) ?_
  refine k_icmp_ne d_K_takeWaitingMessage_5 (fun h5 => ?_) (fun h5 => ?_)
  · refine k_aload_n d_K_takeWaitingMessage_17 rfl ?_
    refine k_aload_n d_K_takeWaitingMessage_18 rfl ?_
    refine k_aload_n d_K_takeWaitingMessage_19 rfl ?_
    refine k_aload_n d_K_takeWaitingMessage_20 rfl ?_
    refine cT_get d_K_takeWaitingMessage_21 f_K_51 (by first | assumption | omega) (by decide) (by decide) ?_
    refine k_iconst (v := 3) d_K_takeWaitingMessage_24 (by decide) ?_
    refine k_icmp_ne d_K_takeWaitingMessage_25 (fun h25 => ?_) (fun h25 => ?_)
    · refine k_iconst (v := 0) d_K_takeWaitingMessage_32 (by decide) ?_
      refine k_virt3v d_K_takeWaitingMessage_33 l_K_89 g_K_passMessage (c_K_passMessage hf hg hI) rcvK (Nat.le_of_ble_eq_true rfl) ?_
      exact k_vret d_K_takeWaitingMessage_36 rfl rfl (by first | rfl | (simp [cTakeW] <;> done) | (simp [cTakeW, *] <;> done))
    · refine k_iconst (v := 1) d_K_takeWaitingMessage_28 (by decide) ?_
      refine k_goto d_K_takeWaitingMessage_29 ?_
      refine k_virt3v d_K_takeWaitingMessage_33 l_K_89 g_K_passMessage (c_K_passMessage hf hg hI) rcvK (Nat.le_of_ble_eq_true rfl) ?_
      exact k_vret d_K_takeWaitingMessage_36 rfl rfl (by first | rfl | (simp [cTakeW] <;> done) | (simp [cTakeW, *] <;> done))
  · refine k_aload_n d_K_takeWaitingMessage_8 rfl ?_
    refine k_aload_n d_K_takeWaitingMessage_9 rfl ?_
    refine k_aload_n d_K_takeWaitingMessage_10 rfl ?_
    refine k_virt2v d_K_takeWaitingMessage_11 l_K_192 g_K_passFault (c_K_passFault hf hg hI) rcvK (Nat.le_of_ble_eq_true rfl) ?_
    refine k_goto d_K_takeWaitingMessage_14 ?_
    exact k_vret d_K_takeWaitingMessage_36 rfl rfl (by first | rfl | (simp [cTakeW] <;> done) | (simp [cTakeW, *] <;> done))

def rv : Option Nat → Value
  | none => .null
  | some j => .ref (8 + j)
theorem c_K_longestWaiting_loop {l : Launch} {D : va_G} {cI cB cT : ClassId} {ad : Nat → Nat} {d : Nat} {u : kSt} {t e : Int32} (hI : cInv u) : ∀ (m k : Nat) (b : Option Nat), k + m = 8 → (∀ j, b = some j → j < 8) → KAt (kWl lyC l D cI cB cT ad) m_K_longestWaiting (d + 1) 16 [some (.ref 0), some (.int t), some (.int e), some (rv b), some (.ref 1), some (.int 8), some (.int (nI k)), none, none] [] u (some (rv (cLong u t e k m b))) u := by
  intro m
  induction m with
  | zero =>
    intro k b hk hb
    obtain rfl : k = 8 := by omega
    cases b with
    | none =>
      refine k_iload d_K_longestWaiting_16 rfl ?_
      refine k_iload d_K_longestWaiting_18 rfl ?_
      refine k_icmp_ge d_K_longestWaiting_20 (fun h20 => ?_) (fun h20 => absurd h20 (fun z => z (by decide)))
      refine k_aload_nN d_K_longestWaiting_90 rfl ?_
      exact k_aretN d_K_longestWaiting_91 rfl (by first | rfl | (simp [cLong, rv] <;> done) | (simp [cLong, rv, *] <;> done)) (by first | rfl | (simp [cLong, rv] <;> done) | (simp [cLong, rv, *] <;> done))
    | some j =>
      refine k_iload d_K_longestWaiting_16 rfl ?_
      refine k_iload d_K_longestWaiting_18 rfl ?_
      refine k_icmp_ge d_K_longestWaiting_20 (fun h20 => ?_) (fun h20 => absurd h20 (fun z => z (by decide)))
      refine k_aload_n d_K_longestWaiting_90 rfl ?_
      exact k_aret d_K_longestWaiting_91 rfl (by first | rfl | (simp [cLong, rv] <;> done) | (simp [cLong, rv, *] <;> done)) (by first | rfl | (simp [cLong, rv] <;> done) | (simp [cLong, rv, *] <;> done))
  | succ m ih =>
    intro k b hk hb
    have hk2 : k < 8 := by omega
    have h0 : ¬ (8 : Int32) ≤ nI k := nI_ge (a := k) (b := 8) hk2 (by decide)
    cases b with
    | none =>
      refine k_iload d_K_longestWaiting_16 rfl ?_
      refine k_iload d_K_longestWaiting_18 rfl ?_
      refine k_icmp_ge d_K_longestWaiting_20 (fun h20 => absurd h20 h0) (fun h20 => ?_)
      refine k_aload d_K_longestWaiting_23 rfl ?_
      refine k_iload d_K_longestWaiting_25 rfl ?_
      refine cA_aldN d_K_longestWaiting_27 (by first | assumption | omega) ?_
      refine k_astore d_K_longestWaiting_28 (by decide) ?_
      refine k_iload_n d_K_longestWaiting_30 rfl ?_
      refine k_iconst (v := (-1)) d_K_longestWaiting_31 (by decide) ?_
      refine k_icmp_eq d_K_longestWaiting_32 (fun h32 => ?_) (fun h32 => ?_)
      · refine k_iconst (v := 1) d_K_longestWaiting_44 (by decide) ?_
        refine k_goto d_K_longestWaiting_45 ?_
        refine k_istore d_K_longestWaiting_49 (by decide) ?_
        refine k_iload d_K_longestWaiting_51 rfl ?_
        refine k_if_eq d_K_longestWaiting_53 (fun h => absurd h (by decide)) (fun _ => ?_)
        refine k_aload d_K_longestWaiting_56 rfl ?_
        refine k_iload_n d_K_longestWaiting_58 rfl ?_
        refine k_virt1s d_K_longestWaiting_59 l_K_179 g_H_waitsToSendTo (c_H_waitsToSendTo hk2) (rcvT (by first | assumption | omega)) (Nat.le_of_ble_eq_true rfl) ?_
        refine k_if_eqB d_K_longestWaiting_62 (fun h62 => ?_) (fun h62 => ?_)
        · refine k_incN d_K_longestWaiting_84 rfl (by decide) ?_
          refine k_goto d_K_longestWaiting_87 ?_
          refine k_forget 7 (k_forget 8 ?_)
          first
            | exact (ih (k + 1) none (by omega) (fun j h => by cases h)).to (by simp [cLong, *]) rfl
            | exact (ih (k + 1) (some k) (by omega) (fun j h => by cases h; omega)).to (by simp [cLong, *]) rfl
        · refine k_aload_nN d_K_longestWaiting_65 rfl ?_
          refine k_ifnullN d_K_longestWaiting_66 ?_
          refine k_aload d_K_longestWaiting_81 rfl ?_
          refine k_astore_n d_K_longestWaiting_83 (by decide) ?_
          refine k_incN d_K_longestWaiting_84 rfl (by decide) ?_
          refine k_goto d_K_longestWaiting_87 ?_
          refine k_forget 7 (k_forget 8 ?_)
          first
            | exact (ih (k + 1) none (by omega) (fun j h => by cases h)).to (by simp [cLong, *]) rfl
            | exact (ih (k + 1) (some k) (by omega) (fun j h => by cases h; omega)).to (by simp [cLong, *]) rfl
      · refine k_iload_n d_K_longestWaiting_35 rfl ?_
        refine k_aload d_K_longestWaiting_36 rfl ?_
        refine cT_num d_K_longestWaiting_38 f_K_182 (by first | assumption | omega) (hI.num hk2) ?_
        refine k_icmp_ne d_K_longestWaiting_41 (fun h41 => ?_) (fun h41 => ?_)
        · refine k_iconst (v := 0) d_K_longestWaiting_48 (by decide) ?_
          refine k_istore d_K_longestWaiting_49 (by decide) ?_
          refine k_iload d_K_longestWaiting_51 rfl ?_
          refine k_if_eq d_K_longestWaiting_53 (fun _ => ?_) (fun h => absurd h (by decide))
          refine k_incN d_K_longestWaiting_84 rfl (by decide) ?_
          refine k_goto d_K_longestWaiting_87 ?_
          refine k_forget 7 (k_forget 8 ?_)
          first
            | exact (ih (k + 1) none (by omega) (fun j h => by cases h)).to (by simp [cLong, *]) rfl
            | exact (ih (k + 1) (some k) (by omega) (fun j h => by cases h; omega)).to (by simp [cLong, *]) rfl
        · refine k_iconst (v := 1) d_K_longestWaiting_44 (by decide) ?_
          refine k_goto d_K_longestWaiting_45 ?_
          refine k_istore d_K_longestWaiting_49 (by decide) ?_
          refine k_iload d_K_longestWaiting_51 rfl ?_
          refine k_if_eq d_K_longestWaiting_53 (fun h => absurd h (by decide)) (fun _ => ?_)
          refine k_aload d_K_longestWaiting_56 rfl ?_
          refine k_iload_n d_K_longestWaiting_58 rfl ?_
          refine k_virt1s d_K_longestWaiting_59 l_K_179 g_H_waitsToSendTo (c_H_waitsToSendTo hk2) (rcvT (by first | assumption | omega)) (Nat.le_of_ble_eq_true rfl) ?_
          refine k_if_eqB d_K_longestWaiting_62 (fun h62 => ?_) (fun h62 => ?_)
          · refine k_incN d_K_longestWaiting_84 rfl (by decide) ?_
            refine k_goto d_K_longestWaiting_87 ?_
            refine k_forget 7 (k_forget 8 ?_)
            first
              | exact (ih (k + 1) none (by omega) (fun j h => by cases h)).to (by simp [cLong, *]) rfl
              | exact (ih (k + 1) (some k) (by omega) (fun j h => by cases h; omega)).to (by simp [cLong, *]) rfl
          · refine k_aload_nN d_K_longestWaiting_65 rfl ?_
            refine k_ifnullN d_K_longestWaiting_66 ?_
            refine k_aload d_K_longestWaiting_81 rfl ?_
            refine k_astore_n d_K_longestWaiting_83 (by decide) ?_
            refine k_incN d_K_longestWaiting_84 rfl (by decide) ?_
            refine k_goto d_K_longestWaiting_87 ?_
            refine k_forget 7 (k_forget 8 ?_)
            first
              | exact (ih (k + 1) none (by omega) (fun j h => by cases h)).to (by simp [cLong, *]) rfl
              | exact (ih (k + 1) (some k) (by omega) (fun j h => by cases h; omega)).to (by simp [cLong, *]) rfl
    | some j =>
      have hj : j < 8 := hb j rfl
      refine k_iload d_K_longestWaiting_16 rfl ?_
      refine k_iload d_K_longestWaiting_18 rfl ?_
      refine k_icmp_ge d_K_longestWaiting_20 (fun h20 => absurd h20 h0) (fun h20 => ?_)
      refine k_aload d_K_longestWaiting_23 rfl ?_
      refine k_iload d_K_longestWaiting_25 rfl ?_
      refine cA_aldN d_K_longestWaiting_27 (by first | assumption | omega) ?_
      refine k_astore d_K_longestWaiting_28 (by decide) ?_
      refine k_iload_n d_K_longestWaiting_30 rfl ?_
      refine k_iconst (v := (-1)) d_K_longestWaiting_31 (by decide) ?_
      refine k_icmp_eq d_K_longestWaiting_32 (fun h32 => ?_) (fun h32 => ?_)
      · refine k_iconst (v := 1) d_K_longestWaiting_44 (by decide) ?_
        refine k_goto d_K_longestWaiting_45 ?_
        refine k_istore d_K_longestWaiting_49 (by decide) ?_
        refine k_iload d_K_longestWaiting_51 rfl ?_
        refine k_if_eq d_K_longestWaiting_53 (fun h => absurd h (by decide)) (fun _ => ?_)
        refine k_aload d_K_longestWaiting_56 rfl ?_
        refine k_iload_n d_K_longestWaiting_58 rfl ?_
        refine k_virt1s d_K_longestWaiting_59 l_K_179 g_H_waitsToSendTo (c_H_waitsToSendTo hk2) (rcvT (by first | assumption | omega)) (Nat.le_of_ble_eq_true rfl) ?_
        refine k_if_eqB d_K_longestWaiting_62 (fun h62 => ?_) (fun h62 => ?_)
        · refine k_incN d_K_longestWaiting_84 rfl (by decide) ?_
          refine k_goto d_K_longestWaiting_87 ?_
          refine k_forget 7 (k_forget 8 ?_)
          first
            | exact (ih (k + 1) (some j) (by omega) (fun i h => by cases h; exact hj)).to (by simp [cLong, *]) rfl
            | exact (ih (k + 1) (some k) (by omega) (fun i h => by cases h; omega)).to (by simp [cLong, *]) rfl
        · refine k_aload_n d_K_longestWaiting_65 rfl ?_
          refine k_ifnull d_K_longestWaiting_66 ?_
          refine k_aload d_K_longestWaiting_69 rfl ?_
          refine cT_get d_K_longestWaiting_71 f_K_185 hk2 (by decide) (by decide) ?_
          refine k_aload_n d_K_longestWaiting_74 rfl ?_
          refine cT_get d_K_longestWaiting_75 f_K_185 hj (by decide) (by decide) ?_
          refine k_icmp_ge d_K_longestWaiting_78 (fun h78 => ?_) (fun h78 => ?_)
          · refine k_incN d_K_longestWaiting_84 rfl (by decide) ?_
            refine k_goto d_K_longestWaiting_87 ?_
            refine k_forget 7 (k_forget 8 ?_)
            first
              | exact (ih (k + 1) (some j) (by omega) (fun i h => by cases h; exact hj)).to (by simp [cLong, *]) rfl
              | exact (ih (k + 1) (some k) (by omega) (fun i h => by cases h; omega)).to (by simp [cLong, *]) rfl
          · refine k_aload d_K_longestWaiting_81 rfl ?_
            refine k_astore_n d_K_longestWaiting_83 (by decide) ?_
            refine k_incN d_K_longestWaiting_84 rfl (by decide) ?_
            refine k_goto d_K_longestWaiting_87 ?_
            refine k_forget 7 (k_forget 8 ?_)
            first
              | exact (ih (k + 1) (some j) (by omega) (fun i h => by cases h; exact hj)).to (by simp [cLong, *]) rfl
              | exact (ih (k + 1) (some k) (by omega) (fun i h => by cases h; omega)).to (by simp [cLong, *]) rfl
      · refine k_iload_n d_K_longestWaiting_35 rfl ?_
        refine k_aload d_K_longestWaiting_36 rfl ?_
        refine cT_num d_K_longestWaiting_38 f_K_182 (by first | assumption | omega) (hI.num hk2) ?_
        refine k_icmp_ne d_K_longestWaiting_41 (fun h41 => ?_) (fun h41 => ?_)
        · refine k_iconst (v := 0) d_K_longestWaiting_48 (by decide) ?_
          refine k_istore d_K_longestWaiting_49 (by decide) ?_
          refine k_iload d_K_longestWaiting_51 rfl ?_
          refine k_if_eq d_K_longestWaiting_53 (fun _ => ?_) (fun h => absurd h (by decide))
          refine k_incN d_K_longestWaiting_84 rfl (by decide) ?_
          refine k_goto d_K_longestWaiting_87 ?_
          refine k_forget 7 (k_forget 8 ?_)
          first
            | exact (ih (k + 1) (some j) (by omega) (fun i h => by cases h; exact hj)).to (by simp [cLong, *]) rfl
            | exact (ih (k + 1) (some k) (by omega) (fun i h => by cases h; omega)).to (by simp [cLong, *]) rfl
        · refine k_iconst (v := 1) d_K_longestWaiting_44 (by decide) ?_
          refine k_goto d_K_longestWaiting_45 ?_
          refine k_istore d_K_longestWaiting_49 (by decide) ?_
          refine k_iload d_K_longestWaiting_51 rfl ?_
          refine k_if_eq d_K_longestWaiting_53 (fun h => absurd h (by decide)) (fun _ => ?_)
          refine k_aload d_K_longestWaiting_56 rfl ?_
          refine k_iload_n d_K_longestWaiting_58 rfl ?_
          refine k_virt1s d_K_longestWaiting_59 l_K_179 g_H_waitsToSendTo (c_H_waitsToSendTo hk2) (rcvT (by first | assumption | omega)) (Nat.le_of_ble_eq_true rfl) ?_
          refine k_if_eqB d_K_longestWaiting_62 (fun h62 => ?_) (fun h62 => ?_)
          · refine k_incN d_K_longestWaiting_84 rfl (by decide) ?_
            refine k_goto d_K_longestWaiting_87 ?_
            refine k_forget 7 (k_forget 8 ?_)
            first
              | exact (ih (k + 1) (some j) (by omega) (fun i h => by cases h; exact hj)).to (by simp [cLong, *]) rfl
              | exact (ih (k + 1) (some k) (by omega) (fun i h => by cases h; omega)).to (by simp [cLong, *]) rfl
          · refine k_aload_n d_K_longestWaiting_65 rfl ?_
            refine k_ifnull d_K_longestWaiting_66 ?_
            refine k_aload d_K_longestWaiting_69 rfl ?_
            refine cT_get d_K_longestWaiting_71 f_K_185 hk2 (by decide) (by decide) ?_
            refine k_aload_n d_K_longestWaiting_74 rfl ?_
            refine cT_get d_K_longestWaiting_75 f_K_185 hj (by decide) (by decide) ?_
            refine k_icmp_ge d_K_longestWaiting_78 (fun h78 => ?_) (fun h78 => ?_)
            · refine k_incN d_K_longestWaiting_84 rfl (by decide) ?_
              refine k_goto d_K_longestWaiting_87 ?_
              refine k_forget 7 (k_forget 8 ?_)
              first
                | exact (ih (k + 1) (some j) (by omega) (fun i h => by cases h; exact hj)).to (by simp [cLong, *]) rfl
                | exact (ih (k + 1) (some k) (by omega) (fun i h => by cases h; omega)).to (by simp [cLong, *]) rfl
            · refine k_aload d_K_longestWaiting_81 rfl ?_
              refine k_astore_n d_K_longestWaiting_83 (by decide) ?_
              refine k_incN d_K_longestWaiting_84 rfl (by decide) ?_
              refine k_goto d_K_longestWaiting_87 ?_
              refine k_forget 7 (k_forget 8 ?_)
              first
                | exact (ih (k + 1) (some j) (by omega) (fun i h => by cases h; exact hj)).to (by simp [cLong, *]) rfl
                | exact (ih (k + 1) (some k) (by omega) (fun i h => by cases h; omega)).to (by simp [cLong, *]) rfl

set_option maxRecDepth 4000 in
theorem c_K_longestWaiting {l : Launch} {D : va_G} {cI cB cT : ClassId} {ad : Nat → Nat} {d : Nat} {u : kSt} {t e : Int32} (hI : cInv u) : KSp (kWl lyC l D cI cB cT ad) y_K_longestWaiting m_K_longestWaiting (d + 1) [.ref 0, .int t, .int e] u (some (rv (cLong u t e 0 8 none))) u := by
  refine KSp.of (by decide) rfl (Nat.le_of_ble_eq_true rfl) rfl ?_
  show KAt (kWl lyC l D cI cB cT ad) m_K_longestWaiting (d + 1) 0 [some (.ref 0), some (.int t), some (.int e), none, none, none, none, none, none] [] u (some (rv (cLong u t e 0 8 none))) u
  refine k_null d_K_longestWaiting_0 ?_
  refine k_astore_nN d_K_longestWaiting_1 (by decide) ?_
  refine k_aload_n d_K_longestWaiting_2 rfl ?_
  refine k_getr (t := 1) d_K_longestWaiting_3 f_K_11 (by decide) rfl (by decide) (by decide) rfl ?_
  refine k_astore d_K_longestWaiting_6 (by decide) ?_
  refine k_aload d_K_longestWaiting_8 rfl ?_
  refine k_alen (v := 8) d_K_longestWaiting_10 (by decide) rfl (by decide) ?_
  refine k_istore d_K_longestWaiting_11 (by decide) ?_
  refine k_iconst (v := 0) d_K_longestWaiting_13 (by decide) ?_
  refine k_istore d_K_longestWaiting_14 (by decide) ?_
  exact c_K_longestWaiting_loop hI 8 0 none rfl (fun j h => by cases h)

theorem cLong_lt {u : kSt} {t e : Int32} : ∀ (m k : Nat) (b : Option Nat), k + m = 8 → (∀ j, b = some j → j < 8) → ∀ j, cLong u t e k m b = some j → j < 8
  | 0, k, b, _, hb, j, h => hb j h
  | m + 1, k, none, hk, hb, j, h => by
    unfold cLong at h
    split at h
    · exact cLong_lt m (k + 1) (some k) (by omega) (fun i hi => by cases hi; omega) j h
    · exact cLong_lt m (k + 1) none (by omega) hb j h
  | m + 1, k, some z, hk, hb, j, h => by
    unfold cLong at h
    split at h
    · dsimp only at h
      split at h
      · exact cLong_lt m (k + 1) (some z) (by omega) hb j h
      · exact cLong_lt m (k + 1) (some k) (by omega) (fun i hi => by cases hi; omega) j h
    · exact cLong_lt m (k + 1) (some z) (by omega) hb j h
set_option maxRecDepth 4000 in
theorem c_K_send {l : Launch} {D : va_G} {cI cB cT : ClassId} {ad : Nat → Nat} {d : Nat} {u : kSt} {t o n : Int32} (hI : cInv u) : KSp (kWl lyC l D cI cB cT ad) y_K_send m_K_send (d + 5) [.ref 0, .int t, .int o, .int n] u (some (.int (cSend u t o n).1)) (cSend u t o n).2 := by
  refine KSp.of (by decide) rfl (Nat.le_of_ble_eq_true rfl) rfl ?_
  show KAt (kWl lyC l D cI cB cT ad) m_K_send (d + 5) 0 [some (.ref 0), some (.int t), some (.int o), some (.int n)] [] u (some (.int (cSend u t o n).1)) (cSend u t o n).2
  refine k_aload_n d_K_send_0 rfl ?_
  refine k_iload_n d_K_send_1 rfl ?_
  refine k_iload_n d_K_send_2 rfl ?_
  refine k_iload_n d_K_send_3 rfl ?_
  refine k_virt3s d_K_send_4 l_K_82 g_K_maySend c_K_maySend rcvK (Nat.le_of_ble_eq_true rfl) ?_
  refine k_if_neB d_K_send_7 (fun h7 => ?_) (fun h7 => ?_)
  · have hm := cMaySend_in h7
    have ht := cIsRun_in hm.1
    have ho := cIsThread_in hm.2.2.1
    refine k_aload_n d_K_send_12 rfl ?_
    refine k_getr (t := 1) d_K_send_13 f_K_11 (by decide) rfl (by decide) (by decide) rfl ?_
    refine k_iload_n d_K_send_16 rfl ?_
    refine cA_ald d_K_send_17 (by first | assumption | (unfold vp_in; decide) | exact vin (by assumption) (by assumption) | exact vin_n (by assumption) | exact vin_n (by omega)) (fun hi17 => ?_)
    refine k_iload_n d_K_send_18 rfl ?_
    refine k_virt1s d_K_send_19 l_K_86 g_H_takesFrom (c_H_takesFrom hi17) (rcvT (by first | assumption | omega)) (Nat.le_of_ble_eq_true rfl) ?_
    refine k_if_eqB d_K_send_22 (fun h22 => ?_) (fun h22 => ?_)
    · refine k_aload_n d_K_send_44 rfl ?_
      refine k_aload_n d_K_send_45 rfl ?_
      refine k_getr (t := 1) d_K_send_46 f_K_11 (by decide) rfl (by decide) (by decide) rfl ?_
      refine k_iload_n d_K_send_49 rfl ?_
      refine cA_ald d_K_send_50 (by first | assumption | (unfold vp_in; decide) | exact vin (by assumption) (by assumption) | exact vin_n (by assumption) | exact vin_n (by omega)) (fun hi50 => ?_)
      refine k_iconst (v := 1) d_K_send_51 (by decide) ?_
      refine k_iload_n d_K_send_52 rfl ?_
      refine k_iload_n d_K_send_53 rfl ?_
      refine k_virt4s d_K_send_54 l_K_93 g_K_waitToSend (c_K_waitToSend hi50) rcvK (Nat.le_of_ble_eq_true rfl) ?_
      exact k_iret d_K_send_57 rfl (by first | rfl | (simp [cSend] <;> done) | (simp [cSend, *] <;> done)) (by first | rfl | (simp [cSend] <;> done) | (simp [cSend, *] <;> done))
    · refine k_aload_n d_K_send_25 rfl ?_
      refine k_aload_n d_K_send_26 rfl ?_
      refine k_getr (t := 1) d_K_send_27 f_K_11 (by decide) rfl (by decide) (by decide) rfl ?_
      refine k_iload_n d_K_send_30 rfl ?_
      refine cA_ald d_K_send_31 (by first | assumption | (unfold vp_in; decide) | exact vin (by assumption) (by assumption) | exact vin_n (by assumption) | exact vin_n (by omega)) (fun hi31 => ?_)
      refine k_aload_n d_K_send_32 rfl ?_
      refine k_getr (t := 1) d_K_send_33 f_K_11 (by decide) rfl (by decide) (by decide) rfl ?_
      refine k_iload_n d_K_send_36 rfl ?_
      refine cA_ald d_K_send_37 (by first | assumption | (unfold vp_in; decide) | exact vin (by assumption) (by assumption) | exact vin_n (by assumption) | exact vin_n (by omega)) (fun hi37 => ?_)
      refine k_iconst (v := 0) d_K_send_38 (by decide) ?_
      refine k_virt3v d_K_send_39 l_K_89 g_K_passMessage (c_K_passMessage hi31 hi37 hI) rcvK (Nat.le_of_ble_eq_true rfl) ?_
      refine k_iconst (v := 0) d_K_send_42 (by decide) ?_
      exact k_iret d_K_send_43 rfl (by first | rfl | (simp [cSend] <;> done) | (simp [cSend, *] <;> done)) (by first | rfl | (simp [cSend] <;> done) | (simp [cSend, *] <;> done))
  · refine k_iconst (v := (-1)) d_K_send_10 (by decide) ?_
    exact k_iret d_K_send_11 rfl (by first | rfl | (simp [cSend] <;> done) | (simp [cSend, *] <;> done)) (by first | rfl | (simp [cSend] <;> done) | (simp [cSend, *] <;> done))

set_option maxRecDepth 4000 in
theorem c_K_call {l : Launch} {D : va_G} {cI cB cT : ClassId} {ad : Nat → Nat} {d : Nat} {u : kSt} {t o n : Int32} (hI : cInv u) : KSp (kWl lyC l D cI cB cT ad) y_K_call m_K_call (d + 5) [.ref 0, .int t, .int o, .int n] u (some (.int (cCall u t o n).1)) (cCall u t o n).2 := by
  refine KSp.of (by decide) rfl (Nat.le_of_ble_eq_true rfl) rfl ?_
  show KAt (kWl lyC l D cI cB cT ad) m_K_call (d + 5) 0 [some (.ref 0), some (.int t), some (.int o), some (.int n)] [] u (some (.int (cCall u t o n).1)) (cCall u t o n).2
  refine k_aload_n d_K_call_0 rfl ?_
  refine k_iload_n d_K_call_1 rfl ?_
  refine k_iload_n d_K_call_2 rfl ?_
  refine k_iload_n d_K_call_3 rfl ?_
  refine k_virt3s d_K_call_4 l_K_82 g_K_maySend c_K_maySend rcvK (Nat.le_of_ble_eq_true rfl) ?_
  refine k_if_neB d_K_call_7 (fun h7 => ?_) (fun h7 => ?_)
  · have hm := cMaySend_in h7
    have ht := cIsRun_in hm.1
    have ho := cIsThread_in hm.2.2.1
    refine k_aload_n d_K_call_12 rfl ?_
    refine k_getr (t := 1) d_K_call_13 f_K_11 (by decide) rfl (by decide) (by decide) rfl ?_
    refine k_iload_n d_K_call_16 rfl ?_
    refine cA_ald d_K_call_17 (by first | assumption | (unfold vp_in; decide) | exact vin (by assumption) (by assumption) | exact vin_n (by assumption) | exact vin_n (by omega)) (fun hi17 => ?_)
    refine k_iload_n d_K_call_18 rfl ?_
    refine k_virt1s d_K_call_19 l_K_86 g_H_takesFrom (c_H_takesFrom hi17) (rcvT (by first | assumption | omega)) (Nat.le_of_ble_eq_true rfl) ?_
    refine k_if_eqB d_K_call_22 (fun h22 => ?_) (fun h22 => ?_)
    · refine k_aload_n d_K_call_44 rfl ?_
      refine k_aload_n d_K_call_45 rfl ?_
      refine k_getr (t := 1) d_K_call_46 f_K_11 (by decide) rfl (by decide) (by decide) rfl ?_
      refine k_iload_n d_K_call_49 rfl ?_
      refine cA_ald d_K_call_50 (by first | assumption | (unfold vp_in; decide) | exact vin (by assumption) (by assumption) | exact vin_n (by assumption) | exact vin_n (by omega)) (fun hi50 => ?_)
      refine k_iconst (v := 3) d_K_call_51 (by decide) ?_
      refine k_iload_n d_K_call_52 rfl ?_
      refine k_iload_n d_K_call_53 rfl ?_
      refine k_virt4s d_K_call_54 l_K_93 g_K_waitToSend (c_K_waitToSend hi50) rcvK (Nat.le_of_ble_eq_true rfl) ?_
      exact k_iret d_K_call_57 rfl (by first | rfl | (simp [cCall] <;> done) | (simp [cCall, *] <;> done)) (by first | rfl | (simp [cCall] <;> done) | (simp [cCall, *] <;> done))
    · refine k_aload_n d_K_call_25 rfl ?_
      refine k_aload_n d_K_call_26 rfl ?_
      refine k_getr (t := 1) d_K_call_27 f_K_11 (by decide) rfl (by decide) (by decide) rfl ?_
      refine k_iload_n d_K_call_30 rfl ?_
      refine cA_ald d_K_call_31 (by first | assumption | (unfold vp_in; decide) | exact vin (by assumption) (by assumption) | exact vin_n (by assumption) | exact vin_n (by omega)) (fun hi31 => ?_)
      refine k_aload_n d_K_call_32 rfl ?_
      refine k_getr (t := 1) d_K_call_33 f_K_11 (by decide) rfl (by decide) (by decide) rfl ?_
      refine k_iload_n d_K_call_36 rfl ?_
      refine cA_ald d_K_call_37 (by first | assumption | (unfold vp_in; decide) | exact vin (by assumption) (by assumption) | exact vin_n (by assumption) | exact vin_n (by omega)) (fun hi37 => ?_)
      refine k_iconst (v := 1) d_K_call_38 (by decide) ?_
      refine k_virt3v d_K_call_39 l_K_89 g_K_passMessage (c_K_passMessage hi31 hi37 hI) rcvK (Nat.le_of_ble_eq_true rfl) ?_
      refine k_iconst (v := 1) d_K_call_42 (by decide) ?_
      exact k_iret d_K_call_43 rfl (by first | rfl | (simp [cCall] <;> done) | (simp [cCall, *] <;> done)) (by first | rfl | (simp [cCall] <;> done) | (simp [cCall, *] <;> done))
  · refine k_iconst (v := (-1)) d_K_call_10 (by decide) ?_
    exact k_iret d_K_call_11 rfl (by first | rfl | (simp [cCall] <;> done) | (simp [cCall, *] <;> done)) (by first | rfl | (simp [cCall] <;> done) | (simp [cCall, *] <;> done))

theorem c_K_receive_2 {l : Launch} {D : va_G} {cI cB cT : ClassId} {ad : Nat → Nat} {d : Nat} {u : kSt} {t e n : Int32} (hI : cInv u) (ht : vp_in t 8) : KAt (kWl lyC l D cI cB cT ad) m_K_receive (d + 6) 35 [some (.ref 0), some (.int t), some (.int e), some (.int n), none, none] [] u (some (.int (cRec2 u t e n).1)) (cRec2 u t e n).2 := by
  cases hc : cLong u t e 0 8 none with
  | none =>
    have hl : KSp (kWl lyC l D cI cB cT ad) y_K_longestWaiting m_K_longestWaiting (d + 5) [.ref 0, .int t, .int e] u (some .null) u := by
      have := c_K_longestWaiting (l := l) (D := D) (cI := cI) (cB := cB) (cT := cT) (ad := ad) (d := d + 4) (t := t) (e := e) hI
      rw [hc] at this
      exact this
    have e1 : cRec2 u t e n = if n = 0 then (2, cRun u (ix t) 1) else (1, cWait u (ix t) 2 e (cDeadline u n)) := by simp only [cRec2, hc]
    rw [e1]
    refine k_aload_n d_K_receive_35 rfl ?_
    refine k_getr (t := 1) d_K_receive_36 f_K_11 (by decide) rfl (by decide) (by decide) rfl ?_
    refine k_iload_n d_K_receive_39 rfl ?_
    refine cA_ald d_K_receive_40 (by first | assumption | (unfold vp_in; decide) | exact vin (by assumption) (by assumption) | exact vin_n (by assumption) | exact vin_n (by omega)) (fun hi40 => ?_)
    refine k_astore d_K_receive_41 (by decide) ?_
    refine k_aload_n d_K_receive_43 rfl ?_
    refine k_iload_n d_K_receive_44 rfl ?_
    refine k_iload_n d_K_receive_45 rfl ?_
    refine k_virt2s d_K_receive_46 l_K_100 g_K_longestWaiting hl rcvK (Nat.le_of_ble_eq_true rfl) ?_
    refine k_astoreN d_K_receive_49 (by decide) ?_
    refine k_aloadN d_K_receive_51 rfl ?_
    refine k_ifnullN d_K_receive_53 ?_
    refine k_iload_n d_K_receive_66 rfl ?_
    refine k_if_ne d_K_receive_67 (fun h67 => ?_) (fun h67 => ?_)
    · refine k_aload d_K_receive_76 rfl ?_
      refine k_iconst (v := 2) d_K_receive_78 (by decide) ?_
      refine k_iload_n d_K_receive_79 rfl ?_
      refine k_aload_n d_K_receive_80 rfl ?_
      refine k_iload_n d_K_receive_81 rfl ?_
      refine k_virt1s d_K_receive_82 l_K_112 g_K_deadline c_K_deadline rcvK (Nat.le_of_ble_eq_true rfl) ?_
      refine k_virt3v d_K_receive_85 l_K_116 g_H_waitFor (c_H_waitFor hi40) (rcvT (by first | assumption | omega)) (Nat.le_of_ble_eq_true rfl) ?_
      refine k_iconst (v := 1) d_K_receive_88 (by decide) ?_
      exact k_iret d_K_receive_89 rfl (by simp [*]) (by simp [*])
    · refine k_aload d_K_receive_70 rfl ?_
      refine k_stat1s d_K_receive_72 l_K_108 g_K_giveUp (c_K_giveUp hi40) (Nat.le_of_ble_eq_true rfl) ?_
      exact k_iret d_K_receive_75 rfl (by simp [*]) (by simp [*])
  | some j =>
    have hj := cLong_lt 8 0 none rfl (fun j h => by cases h) j hc
    have hl : KSp (kWl lyC l D cI cB cT ad) y_K_longestWaiting m_K_longestWaiting (d + 5) [.ref 0, .int t, .int e] u (some (.ref (8 + j))) u := by
      have := c_K_longestWaiting (l := l) (D := D) (cI := cI) (cB := cB) (cT := cT) (ad := ad) (d := d + 4) (t := t) (e := e) hI
      rw [hc] at this
      exact this
    have e1 : cRec2 u t e n = (0, cTakeW u j (ix t)) := by simp only [cRec2, hc]
    rw [e1]
    refine k_aload_n d_K_receive_35 rfl ?_
    refine k_getr (t := 1) d_K_receive_36 f_K_11 (by decide) rfl (by decide) (by decide) rfl ?_
    refine k_iload_n d_K_receive_39 rfl ?_
    refine cA_ald d_K_receive_40 (by first | assumption | (unfold vp_in; decide) | exact vin (by assumption) (by assumption) | exact vin_n (by assumption) | exact vin_n (by omega)) (fun hi40 => ?_)
    refine k_astore d_K_receive_41 (by decide) ?_
    refine k_aload_n d_K_receive_43 rfl ?_
    refine k_iload_n d_K_receive_44 rfl ?_
    refine k_iload_n d_K_receive_45 rfl ?_
    refine k_virt2s d_K_receive_46 l_K_100 g_K_longestWaiting hl rcvK (Nat.le_of_ble_eq_true rfl) ?_
    refine k_astore d_K_receive_49 (by decide) ?_
    refine k_aload d_K_receive_51 rfl ?_
    refine k_ifnull d_K_receive_53 ?_
    refine k_aload_n d_K_receive_56 rfl ?_
    refine k_aload d_K_receive_57 rfl ?_
    refine k_aload d_K_receive_59 rfl ?_
    refine k_virt2v d_K_receive_61 l_K_104 g_K_takeWaitingMessage (c_K_takeWaitingMessage hj hi40 hI) rcvK (Nat.le_of_ble_eq_true rfl) ?_
    refine k_iconst (v := 0) d_K_receive_64 (by decide) ?_
    exact k_iret d_K_receive_65 rfl rfl rfl

set_option maxRecDepth 4000 in
theorem c_K_receive {l : Launch} {D : va_G} {cI cB cT : ClassId} {ad : Nat → Nat} {d : Nat} {u : kSt} {t e n : Int32} (hI : cInv u) : KSp (kWl lyC l D cI cB cT ad) y_K_receive m_K_receive (d + 6) [.ref 0, .int t, .int e, .int n] u (some (.int (cReceive u t e n).1)) (cReceive u t e n).2 := by
  refine KSp.of (by decide) rfl (Nat.le_of_ble_eq_true rfl) rfl ?_
  show KAt (kWl lyC l D cI cB cT ad) m_K_receive (d + 6) 0 [some (.ref 0), some (.int t), some (.int e), some (.int n), none, none] [] u (some (.int (cReceive u t e n).1)) (cReceive u t e n).2
  refine k_aload_n d_K_receive_0 rfl ?_
  refine k_iload_n d_K_receive_1 rfl ?_
  refine k_virt1s d_K_receive_2 l_K_57 g_K_isRunning c_K_isRunning rcvK (Nat.le_of_ble_eq_true rfl) ?_
  refine k_if_eqB d_K_receive_5 (fun h5 => ?_) (fun h5 => ?_)
  · refine k_iconst (v := (-1)) d_K_receive_33 (by decide) ?_
    exact k_iret d_K_receive_34 rfl (by simp [cReceive, *]) (by simp [cReceive, *])
  · refine k_iload_n d_K_receive_8 rfl ?_
    refine k_iload_n d_K_receive_9 rfl ?_
    refine k_icmp_eq d_K_receive_10 (fun h10 => ?_) (fun h10 => ?_)
    · refine k_iconst (v := (-1)) d_K_receive_33 (by decide) ?_
      exact k_iret d_K_receive_34 rfl (by simp [cReceive, *]) (by simp [cReceive, *])
    · refine k_iload_n d_K_receive_13 rfl ?_
      refine k_iconst (v := (-1)) d_K_receive_14 (by decide) ?_
      refine k_icmp_eq d_K_receive_15 (fun h15 => ?_) (fun h15 => ?_)
      · refine k_iload_n d_K_receive_26 rfl ?_
        refine k_stat1s d_K_receive_27 l_K_97 g_K_isLimit c_K_isLimit (Nat.le_of_ble_eq_true rfl) ?_
        refine k_if_neB d_K_receive_30 (fun h30 => ?_) (fun h30 => ?_)
        · have e1 : cReceive u t e n = cRec2 u t e n := by rw [cReceive, if_pos h5, if_neg h10, if_neg (by simp [*]), if_pos h30]
          rw [e1]
          exact c_K_receive_2 hI (cIsRun_in h5)
        · refine k_iconst (v := (-1)) d_K_receive_33 (by decide) ?_
          exact k_iret d_K_receive_34 rfl (by simp [cReceive, *]) (by simp [cReceive, *])
      · refine k_aload_n d_K_receive_18 rfl ?_
        refine k_iload_n d_K_receive_19 rfl ?_
        refine k_virt1s d_K_receive_20 l_K_44 g_K_isThread c_K_isThread rcvK (Nat.le_of_ble_eq_true rfl) ?_
        refine k_if_eqB d_K_receive_23 (fun h23 => ?_) (fun h23 => ?_)
        · refine k_iconst (v := (-1)) d_K_receive_33 (by decide) ?_
          exact k_iret d_K_receive_34 rfl (by simp [cReceive, *]) (by simp [cReceive, *])
        · refine k_iload_n d_K_receive_26 rfl ?_
          refine k_stat1s d_K_receive_27 l_K_97 g_K_isLimit c_K_isLimit (Nat.le_of_ble_eq_true rfl) ?_
          refine k_if_neB d_K_receive_30 (fun h30 => ?_) (fun h30 => ?_)
          · have e1 : cReceive u t e n = cRec2 u t e n := by rw [cReceive, if_pos h5, if_neg h10, if_neg (by simp [*]), if_pos h30]
            rw [e1]
            exact c_K_receive_2 hI (cIsRun_in h5)
          · refine k_iconst (v := (-1)) d_K_receive_33 (by decide) ?_
            exact k_iret d_K_receive_34 rfl (by simp [cReceive, *]) (by simp [cReceive, *])

theorem cInv.want {u : kSt} (h : cInv u) {i : Nat} {p a v : Int32} (hp : vp_in p 16) : cInv (cWant u i p a v) := by
  refine ((h.up ?_).up (cOk_t (by decide))).up (cOk_t (by decide))
  exact ⟨fun _ _ => ⟨fun e => by omega, fun e => by omega, fun e => by omega, fun e => by omega, fun e => by omega, fun _ => hp⟩, fun e => by omega, fun e => by omega, fun e => by omega⟩
theorem c_K_access_2 {l : Launch} {D : va_G} {cI cB cT : ClassId} {ad : Nat → Nat} {d : Nat} {u : kSt} {i : Nat} {t p a v : Int32} (hi : i < 8) (hI : cInv u) : KAt (kWl lyC l D cI cB cT ad) m_K_access (d + 4) 52 [some (.ref 0), some (.int t), some (.int p), some (.int a), some (.int v), some (.ref (8 + i))] [] u (some (.int (if cTry u i (8 + i) 2 = 0 then 0 else if cTry u i (8 + i) 2 = 6 then 2 else 1))) (cTry u i) := by
  refine k_aload_n d_K_access_52 rfl ?_
  refine k_aload d_K_access_53 rfl ?_
  refine k_virt1v d_K_access_55 l_K_132 g_K_tryAccess (c_K_tryAccess hi hI) rcvK (Nat.le_of_ble_eq_true rfl) ?_
  refine k_aload d_K_access_58 rfl ?_
  refine cT_get d_K_access_60 f_K_51 (by first | assumption | omega) (by decide) (by decide) ?_
  refine k_if_ne d_K_access_63 (fun h63 => ?_) (fun h63 => ?_)
  · refine k_aload d_K_access_68 rfl ?_
    refine cT_get d_K_access_70 f_K_51 (by first | assumption | omega) (by decide) (by decide) ?_
    refine k_bipush (v := 6) d_K_access_73 (by decide) ?_
    refine k_icmp_ne d_K_access_75 (fun h75 => ?_) (fun h75 => ?_)
    · refine k_iconst (v := 1) d_K_access_82 (by decide) ?_
      exact k_iret d_K_access_83 rfl (by first | rfl | (simp [bI] <;> done) | (simp [bI, *] <;> done)) (by first | rfl | (simp [bI] <;> done) | (simp [bI, *] <;> done))
    · refine k_iconst (v := 2) d_K_access_78 (by decide) ?_
      refine k_goto d_K_access_79 ?_
      exact k_iret d_K_access_83 rfl (by first | rfl | (simp [bI] <;> done) | (simp [bI, *] <;> done)) (by first | rfl | (simp [bI] <;> done) | (simp [bI, *] <;> done))
  · refine k_iconst (v := 0) d_K_access_66 (by decide) ?_
    exact k_iret d_K_access_67 rfl (by first | rfl | (simp [bI] <;> done) | (simp [bI, *] <;> done)) (by first | rfl | (simp [bI] <;> done) | (simp [bI, *] <;> done))

set_option maxRecDepth 4000 in
theorem c_K_access {l : Launch} {D : va_G} {cI cB cT : ClassId} {ad : Nat → Nat} {d : Nat} {u : kSt} {t p a v : Int32} (hI : cInv u) : KSp (kWl lyC l D cI cB cT ad) y_K_access m_K_access (d + 4) [.ref 0, .int t, .int p, .int a, .int v] u (some (.int (cAccess u t p a v).1)) (cAccess u t p a v).2 := by
  refine KSp.of (by decide) rfl (Nat.le_of_ble_eq_true rfl) rfl ?_
  show KAt (kWl lyC l D cI cB cT ad) m_K_access (d + 4) 0 [some (.ref 0), some (.int t), some (.int p), some (.int a), some (.int v), none] [] u (some (.int (cAccess u t p a v).1)) (cAccess u t p a v).2
  refine k_aload_n d_K_access_0 rfl ?_
  refine k_iload_n d_K_access_1 rfl ?_
  refine k_virt1s d_K_access_2 l_K_57 g_K_isRunning c_K_isRunning rcvK (Nat.le_of_ble_eq_true rfl) ?_
  refine k_if_eqB d_K_access_5 (fun h5 => ?_) (fun h5 => ?_)
  · refine k_iconst (v := (-1)) d_K_access_15 (by decide) ?_
    exact k_iret d_K_access_16 rfl (by simp [cAccess, *]) (by simp [cAccess, *])
  · refine k_iload_n d_K_access_8 rfl ?_
    refine k_stat1s d_K_access_9 l_K_120 g_K_isPage c_K_isPage (Nat.le_of_ble_eq_true rfl) ?_
    refine k_if_neB d_K_access_12 (fun h12 => ?_) (fun h12 => ?_)
    · refine k_aload_n d_K_access_17 rfl ?_
      refine k_getr (t := 1) d_K_access_18 f_K_11 (by decide) rfl (by decide) (by decide) rfl ?_
      refine k_iload_n d_K_access_21 rfl ?_
      refine cA_ald d_K_access_22 (cIsRun_in h5) (fun hi22 => ?_)
      refine k_astore d_K_access_23 (by decide) ?_
      refine k_aload d_K_access_25 rfl ?_
      refine k_iload_n d_K_access_27 rfl ?_
      refine cT_put d_K_access_28 p_K_123 (by first | assumption | omega) (by decide) (by decide) rfl rfl ?_
      refine k_aload d_K_access_31 rfl ?_
      refine k_iload_n d_K_access_33 rfl ?_
      refine k_if_eq d_K_access_34 (fun h34 => ?_) (fun h34 => ?_)
      · refine k_iconst (v := 1) d_K_access_41 (by decide) ?_
        refine cT_put d_K_access_42 p_K_126 (by first | assumption | omega) (by decide) (by decide) rfl rfl ?_
        refine k_aload d_K_access_45 rfl ?_
        refine k_iload d_K_access_47 rfl ?_
        refine cT_put d_K_access_49 p_K_129 (by first | assumption | omega) (by decide) (by decide) rfl rfl ?_
        have hw := hI.want (i := ix t) (p := p) (a := a) (v := v) (cIsPage_in h12)
        have e1 : cAccess u t p a v = (if cTry (cWant u (ix t) p a v) (ix t) (8 + ix t) 2 = 0 then 0 else if cTry (cWant u (ix t) p a v) (ix t) (8 + ix t) 2 = 6 then 2 else 1, cTry (cWant u (ix t) p a v) (ix t)) := by simp [cAccess, *]
        rw [e1]
        simp only [cWant, h34, if_true, if_false] at hw ⊢
        exact c_K_access_2 hi22 hw
      · refine k_iconst (v := 2) d_K_access_37 (by decide) ?_
        refine k_goto d_K_access_38 ?_
        refine cT_put d_K_access_42 p_K_126 (by first | assumption | omega) (by decide) (by decide) rfl rfl ?_
        refine k_aload d_K_access_45 rfl ?_
        refine k_iload d_K_access_47 rfl ?_
        refine cT_put d_K_access_49 p_K_129 (by first | assumption | omega) (by decide) (by decide) rfl rfl ?_
        have hw := hI.want (i := ix t) (p := p) (a := a) (v := v) (cIsPage_in h12)
        have e1 : cAccess u t p a v = (if cTry (cWant u (ix t) p a v) (ix t) (8 + ix t) 2 = 0 then 0 else if cTry (cWant u (ix t) p a v) (ix t) (8 + ix t) 2 = 6 then 2 else 1, cTry (cWant u (ix t) p a v) (ix t)) := by simp [cAccess, *]
        rw [e1]
        simp only [cWant, h34, if_true, if_false] at hw ⊢
        exact c_K_access_2 hi22 hw
    · refine k_iconst (v := (-1)) d_K_access_15 (by decide) ?_
      exact k_iret d_K_access_16 rfl (by simp [cAccess, *]) (by simp [cAccess, *])

def cUnm (u : kSt) (k : Nat) (m self : Int32) : Int32 × kSt := if cHolds u k = true then (if self = 0 then (cLowN u (nI k) (m - 1) 96 + 0, cLow u (nI k) (m - 1) 96) else (cLowN u (nI k) (m - 1) 96 + cLowerN (cLow u (nI k) (m - 1) 96) k (m - 1), cLower (cLow u (nI k) (m - 1) 96) k (m - 1))) else (0, u)
theorem c_K_unmap_2 {l : Launch} {D : va_G} {cI cB cT : ClassId} {ad : Nat → Nat} {d : Nat} {u : kSt} {k : Nat} {t p m a : Int32} (hk : k < 96) (hI : cInv u) : KAt (kWl lyC l D cI cB cT ad) m_K_unmap (d + 2) 39 [some (.ref 0), some (.int t), some (.int p), some (.int m), some (.int a), some (.int (nI k)), none] [] u (some (.int (cUnm u k m a).1)) (cUnm u k m a).2 := by
  refine k_aload_n d_K_unmap_39 rfl ?_
  refine k_getr (t := 2) d_K_unmap_40 f_K_18 (by decide) rfl (by decide) (by decide) rfl ?_
  refine k_iload d_K_unmap_43 rfl ?_
  refine k_virt1s d_K_unmap_45 l_K_143 g_P_holds (c_P_holds hk) rcvP (Nat.le_of_ble_eq_true rfl) ?_
  refine k_if_neB d_K_unmap_48 (fun h48 => ?_) (fun h48 => ?_)
  · refine k_iload_n d_K_unmap_53 rfl ?_
    refine k_iconst (v := 1) d_K_unmap_54 (by decide) ?_
    refine k_isub d_K_unmap_55 ?_
    refine k_istore d_K_unmap_56 (by decide) ?_
    refine k_aload_n d_K_unmap_58 rfl ?_
    refine k_getr (t := 2) d_K_unmap_59 f_K_18 (by decide) rfl (by decide) (by decide) rfl ?_
    refine k_iload d_K_unmap_62 rfl ?_
    refine k_iload d_K_unmap_64 rfl ?_
    refine k_virt2s d_K_unmap_66 l_K_146 g_P_lowerDescendants (c_P_lowerDescendants hI.par hI.dep) rcvP (Nat.le_of_ble_eq_true rfl) ?_
    refine k_iload d_K_unmap_69 rfl ?_
    refine k_if_eq d_K_unmap_71 (fun h71 => ?_) (fun h71 => ?_)
    · refine k_iconst (v := 0) d_K_unmap_88 (by decide) ?_
      refine k_iadd d_K_unmap_89 ?_
      exact k_iret d_K_unmap_90 rfl (by simp only [cUnm, h48, h71, if_true, if_false]) (by simp only [cUnm, h48, h71, if_true, if_false])
    · refine k_aload_n d_K_unmap_74 rfl ?_
      refine k_getr (t := 2) d_K_unmap_75 f_K_18 (by decide) rfl (by decide) (by decide) rfl ?_
      refine k_iload d_K_unmap_78 rfl ?_
      refine k_iload d_K_unmap_80 rfl ?_
      refine k_virt2s d_K_unmap_82 l_K_149 g_P_lower (c_P_lower hk) rcvP (Nat.le_of_ble_eq_true rfl) ?_
      refine k_goto d_K_unmap_85 ?_
      refine k_iadd d_K_unmap_89 ?_
      exact k_iret d_K_unmap_90 rfl (by simp only [cUnm, h48, h71, if_true, if_false]) (by simp only [cUnm, h48, h71, if_true, if_false])
  · refine k_iconst (v := 0) d_K_unmap_51 (by decide) ?_
    exact k_iret d_K_unmap_52 rfl (by simp [cUnm, *]) (by simp [cUnm, *])

set_option maxRecDepth 4000 in
theorem c_K_unmap {l : Launch} {D : va_G} {cI cB cT : ClassId} {ad : Nat → Nat} {d : Nat} {u : kSt} {t p m a : Int32} (hI : cInv u) : KSp (kWl lyC l D cI cB cT ad) y_K_unmap m_K_unmap (d + 2) [.ref 0, .int t, .int p, .int m, .int a] u (some (.int (cUnmap u t p m a).1)) (cUnmap u t p m a).2 := by
  refine KSp.of (by decide) rfl (Nat.le_of_ble_eq_true rfl) rfl ?_
  show KAt (kWl lyC l D cI cB cT ad) m_K_unmap (d + 2) 0 [some (.ref 0), some (.int t), some (.int p), some (.int m), some (.int a), none, none] [] u (some (.int (cUnmap u t p m a).1)) (cUnmap u t p m a).2
  refine k_aload_n d_K_unmap_0 rfl ?_
  refine k_iload_n d_K_unmap_1 rfl ?_
  refine k_virt1s d_K_unmap_2 l_K_57 g_K_isRunning c_K_isRunning rcvK (Nat.le_of_ble_eq_true rfl) ?_
  refine k_if_eqB d_K_unmap_5 (fun h5 => ?_) (fun h5 => ?_)
  · refine k_iconst (v := (-1)) d_K_unmap_22 (by decide) ?_
    exact k_iret d_K_unmap_23 rfl (by simp [cUnmap, *]) (by simp [cUnmap, *])
  · refine k_iload_n d_K_unmap_8 rfl ?_
    refine k_stat1s d_K_unmap_9 l_K_120 g_K_isPage c_K_isPage (Nat.le_of_ble_eq_true rfl) ?_
    refine k_if_eqB d_K_unmap_12 (fun h12 => ?_) (fun h12 => ?_)
    · refine k_iconst (v := (-1)) d_K_unmap_22 (by decide) ?_
      exact k_iret d_K_unmap_23 rfl (by simp [cUnmap, *]) (by simp [cUnmap, *])
    · refine k_iload_n d_K_unmap_15 rfl ?_
      refine k_stat1s d_K_unmap_16 l_K_66 g_K_isLevel c_K_isLevel (Nat.le_of_ble_eq_true rfl) ?_
      refine k_if_neB d_K_unmap_19 (fun h19 => ?_) (fun h19 => ?_)
      · refine k_aload_n d_K_unmap_24 rfl ?_
        refine k_getr (t := 1) d_K_unmap_25 f_K_11 (by decide) rfl (by decide) (by decide) rfl ?_
        refine k_iload_n d_K_unmap_28 rfl ?_
        refine cA_ald d_K_unmap_29 (cIsRun_in h5) (fun hi29 => ?_)
        refine cT_get d_K_unmap_30 f_K_136 (by first | assumption | omega) (by decide) (by decide) ?_
        refine k_iload_n d_K_unmap_33 rfl ?_
        refine k_stat2s d_K_unmap_34 l_K_139 g_K_slotOf c_K_slotOf (Nat.le_of_ble_eq_true rfl) ?_
        refine k_istore d_K_unmap_37 (by decide) ?_
        have hs := sl_eq (hI.space hi29) (cIsPage_in h12)
        have e1 : cUnmap u t p m a = cUnm u (sl (u (8 + ix t) 3) p) m a := by simp only [cUnmap, cUnm, h5, h12, h19, if_true]
        rw [e1, hs.1]
        exact c_K_unmap_2 hs.2 hI
      · refine k_iconst (v := (-1)) d_K_unmap_22 (by decide) ?_
        exact k_iret d_K_unmap_23 rfl (by simp [cUnmap, *]) (by simp [cUnmap, *])

end KCL
