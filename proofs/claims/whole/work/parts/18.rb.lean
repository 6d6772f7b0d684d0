section KRB
/-- the longest waiting one waits -/
theorem rBest_waits {v : kSt} {t fr : Int32} : ∀ n, n ≤ 8 → ¬ rBest v t fr n < 0 → ix (rBest v t fr n) < 8 ∧ rWaits v (ix (rBest v t fr n)) t = true
  | 0, _, h => absurd (show (-1 : Int32) < 0 by decide) h
  | n + 1, hn, h => by
    have hx := ix_nI (n := n) (by omega)
    have hask : rAsk v t fr n = true → rWaits v n t = true := by
      intro h
      unfold rAsk at h
      split at h
      · assumption
      · cases h
    by_cases ha : rAsk v t fr n = true
    · by_cases hb : rBest v t fr n < 0
      · have e : rBest v t fr (n + 1) = nI n := by simp [rBest, ha, hb]
        rw [e, hx]
        exact ⟨by omega, hask ha⟩
      · by_cases hc : v 16 (ix (rBest v t fr n)) ≤ v 16 n
        · have e : rBest v t fr (n + 1) = rBest v t fr n := by rw [rBest, if_pos ha, if_neg hb, if_pos hc]
          rw [e]
          exact rBest_waits n (by omega) hb
        · have e : rBest v t fr (n + 1) = nI n := by rw [rBest, if_pos ha, if_neg hb, if_neg hc]
          rw [e, hx]
          exact ⟨by omega, hask ha⟩
    · have e : rBest v t fr (n + 1) = rBest v t fr n := by simp [rBest, ha]
      rw [e] at h ⊢
      exact rBest_waits n (by omega) h
theorem rBest_w {v : kSt} {t fr : Int32} (hw : ∀ j, j < 8 → rWaits v j t = true → v 13 j = 4 → vp_in (v 3 j) 8) (n : Nat) (hn : n ≤ 8) (h : ¬ rBest v t fr n < 0) (hs : v 13 (ix (rBest v t fr n)) = 4) : vp_in (v 3 (ix (rBest v t fr n))) 8 :=
  hw _ (rBest_waits n hn h).1 (rBest_waits n hn h).2 hs
set_option maxRecDepth 4000 in
theorem c_R_report {l : Launch} {D : va_G} {cI cB cT : ClassId} {ad : Nat → Nat} {d : Nat} {u : kSt} {i : Nat} (hi : i < 8) (hp : vp_in (u 3 i) 8) : KSp (kWl lyR l D cI cB cT ad) y_R_report m_R_report (d + 1) [.ref 0, .int (nI i)] u none (rReport u i) := by
  refine KSp.of (by decide) rfl (Nat.le_of_ble_eq_true rfl) rfl ?_
  show KAt (kWl lyR l D cI cB cT ad) m_R_report (d + 1) 0 [some (.ref 0), some (.int (nI i)), none] [] u none (rReport u i)
  refine k_aload_n d_R_report_0 rfl ?_
  refine k_getr (t := 3) d_R_report_1 f_R_17 (by decide) rfl (by decide) (by decide) rfl ?_
  refine k_iload_n d_R_report_4 rfl ?_
  refine k_ialdN (n := 8) d_R_report_5 (by decide) rfl rfl (by first | assumption | omega) (by decide) ?_
  obtain ⟨p, hp1, hp2⟩ := vp_in_of hp (by decide)
  have hx := ix_nI (n := p) (by omega)
  rw [hp2]
  refine k_istore_n d_R_report_6 (by decide) ?_
  refine k_aload_n d_R_report_7 rfl ?_
  refine k_iload_n d_R_report_8 rfl ?_
  refine k_iload_n d_R_report_9 rfl ?_
  refine k_aload_n d_R_report_10 rfl ?_
  refine k_getr (t := 17) d_R_report_11 f_R_59 (by decide) rfl (by decide) (by decide) rfl ?_
  refine k_iload_n d_R_report_14 rfl ?_
  refine k_ialdN (n := 8) d_R_report_15 (by decide) rfl rfl (by first | assumption | omega) (by decide) ?_
  refine k_aload_n d_R_report_16 rfl ?_
  refine k_getr (t := 18) d_R_report_17 f_R_62 (by decide) rfl (by decide) (by decide) rfl ?_
  refine k_iload_n d_R_report_20 rfl ?_
  refine k_baldN (n := 8) d_R_report_21 (by decide) rfl rfl (by first | assumption | omega) (by decide) ?_
  refine k_if_eq d_R_report_22 (fun h22 => ?_) (fun h22 => ?_)
  · refine k_iconst (v := 1) d_R_report_29 (by decide) ?_
    refine k_iconst (v := 0) d_R_report_30 (by decide) ?_
    refine k_iconst (v := 0) d_R_report_31 (by decide) ?_
    refine k_virt6v d_R_report_32 l_R_116 g_R_take (c_R_take hp1) rcvR (Nat.le_of_ble_eq_true rfl) ?_
    refine k_aload_n d_R_report_35 rfl ?_
    refine k_getr (t := 13) d_R_report_36 f_R_47 (by decide) rfl (by decide) (by decide) rfl ?_
    refine k_iload_n d_R_report_39 rfl ?_
    refine k_iconst (v := 5) d_R_report_40 (by decide) ?_
    refine k_iastN (n := 8) d_R_report_41 (by decide) rfl rfl (by first | assumption | omega) (by decide) ?_
    refine k_aload_n d_R_report_42 rfl ?_
    refine k_getr (t := 14) d_R_report_43 f_R_50 (by decide) rfl (by decide) (by decide) rfl ?_
    refine k_iload_n d_R_report_46 rfl ?_
    refine k_iload_n d_R_report_47 rfl ?_
    refine k_iastN (n := 8) d_R_report_48 (by decide) rfl rfl (by first | assumption | omega) (by decide) ?_
    refine k_aload_n d_R_report_49 rfl ?_
    refine k_iload_n d_R_report_50 rfl ?_
    refine k_iconst (v := 0) d_R_report_51 (by decide) ?_
    refine k_virt2v d_R_report_52 l_R_98 g_R_run (c_R_run hp1) rcvR (Nat.le_of_ble_eq_true rfl) ?_
    exact k_vret d_R_report_55 rfl rfl (by simp [rReport, *])
  · refine k_iconst (v := 2) d_R_report_25 (by decide) ?_
    refine k_goto d_R_report_26 ?_
    refine k_iconst (v := 0) d_R_report_30 (by decide) ?_
    refine k_iconst (v := 0) d_R_report_31 (by decide) ?_
    refine k_virt6v d_R_report_32 l_R_116 g_R_take (c_R_take hp1) rcvR (Nat.le_of_ble_eq_true rfl) ?_
    refine k_aload_n d_R_report_35 rfl ?_
    refine k_getr (t := 13) d_R_report_36 f_R_47 (by decide) rfl (by decide) (by decide) rfl ?_
    refine k_iload_n d_R_report_39 rfl ?_
    refine k_iconst (v := 5) d_R_report_40 (by decide) ?_
    refine k_iastN (n := 8) d_R_report_41 (by decide) rfl rfl (by first | assumption | omega) (by decide) ?_
    refine k_aload_n d_R_report_42 rfl ?_
    refine k_getr (t := 14) d_R_report_43 f_R_50 (by decide) rfl (by decide) (by decide) rfl ?_
    refine k_iload_n d_R_report_46 rfl ?_
    refine k_iload_n d_R_report_47 rfl ?_
    refine k_iastN (n := 8) d_R_report_48 (by decide) rfl rfl (by first | assumption | omega) (by decide) ?_
    refine k_aload_n d_R_report_49 rfl ?_
    refine k_iload_n d_R_report_50 rfl ?_
    refine k_iconst (v := 0) d_R_report_51 (by decide) ?_
    refine k_virt2v d_R_report_52 l_R_98 g_R_run (c_R_run hp1) rcvR (Nat.le_of_ble_eq_true rfl) ?_
    exact k_vret d_R_report_55 rfl rfl (by simp [rReport, *])

theorem c_R_attempt_2 {l : Launch} {D : va_G} {cI cB cT : ClassId} {ad : Nat → Nat} {d : Nat} {u : kSt} {i : Nat} (hi : i < 8) (hI : rInv u) : KAt (kWl lyR l D cI cB cT ad) m_R_attempt (d + 2) 104 [some (.ref 0), some (.int (nI i)), none, none] [] u none (rAttempt2 u i) := by
  refine k_aload_n d_R_attempt_104 rfl ?_
  refine k_getr (t := 3) d_R_attempt_105 f_R_17 (by decide) rfl (by decide) (by decide) rfl ?_
  refine k_iload_n d_R_attempt_108 rfl ?_
  refine k_ialdN (n := 8) d_R_attempt_109 (by decide) rfl rfl (by first | assumption | omega) (by decide) ?_
  refine k_if_ge d_R_attempt_110 (fun h110 => ?_) (fun h110 => ?_)
  · have hp := or_ge' (hI.pager hi) h110
    obtain ⟨p, hp1, hp2⟩ := vp_in_of hp (by decide)
    have hx := ix_nI (n := p) (by omega)
    have hp0 : (0 : Int32) ≤ nI p := hp2 ▸ h110
    have hq : rLinger u i 4 (nI p) (-1) 3 i = nI p := by rw [← hp2]; simp [rLinger, kup_o]
    have hv : vp_in (rLinger u i 4 (nI p) (-1) 3 i) 8 := by rw [hq]; exact vin_n hp1
    refine k_aload_n d_R_attempt_124 rfl ?_
    refine k_getr (t := 3) d_R_attempt_125 f_R_17 (by decide) rfl (by decide) (by decide) rfl ?_
    refine k_iload_n d_R_attempt_128 rfl ?_
    refine k_ialdN (n := 8) d_R_attempt_129 (by decide) rfl rfl (by first | assumption | omega) (by decide) ?_
    rw [hp2]
    refine k_istore_n d_R_attempt_130 (by decide) ?_
    refine k_aload_n d_R_attempt_131 rfl ?_
    refine k_iload_n d_R_attempt_132 rfl ?_
    refine k_iconst (v := 4) d_R_attempt_133 (by decide) ?_
    refine k_iload_n d_R_attempt_134 rfl ?_
    refine k_iconst (v := (-1)) d_R_attempt_135 (by decide) ?_
    refine k_virt4v d_R_attempt_136 l_R_123 g_R_linger (c_R_linger hi) rcvR (Nat.le_of_ble_eq_true rfl) ?_
    refine k_aload_n d_R_attempt_139 rfl ?_
    refine k_getr (t := 13) d_R_attempt_140 f_R_47 (by decide) rfl (by decide) (by decide) rfl ?_
    refine k_iload_n d_R_attempt_143 rfl ?_
    refine k_ialdN (n := 8) d_R_attempt_144 (by decide) rfl rfl (by first | assumption | omega) (by decide) ?_
    refine k_iconst (v := 2) d_R_attempt_145 (by decide) ?_
    refine k_icmp_ne d_R_attempt_146 (fun h146 => ?_) (fun h146 => ?_)
    · exact k_vret d_R_attempt_173 rfl rfl (by simp [rAttempt2, rAttempt3, *])
    · refine k_aload_n d_R_attempt_149 rfl ?_
      refine k_getr (t := 14) d_R_attempt_150 f_R_50 (by decide) rfl (by decide) (by decide) rfl ?_
      refine k_iload_n d_R_attempt_153 rfl ?_
      refine k_ialdN (n := 8) d_R_attempt_154 (by decide) rfl rfl (by first | assumption | omega) (by decide) ?_
      refine k_iload_n d_R_attempt_155 rfl ?_
      refine k_icmp_eq d_R_attempt_156 (fun h156 => ?_) (fun h156 => ?_)
      · refine k_aload_n d_R_attempt_168 rfl ?_
        refine k_iload_n d_R_attempt_169 rfl ?_
        refine k_virt1v d_R_attempt_170 l_R_131 g_R_report (c_R_report hi hv) rcvR (Nat.le_of_ble_eq_true rfl) ?_
        exact k_vret d_R_attempt_173 rfl rfl (by simp [rAttempt2, rAttempt3, *])
      · refine k_aload_n d_R_attempt_159 rfl ?_
        refine k_getr (t := 14) d_R_attempt_160 f_R_50 (by decide) rfl (by decide) (by decide) rfl ?_
        refine k_iload_n d_R_attempt_163 rfl ?_
        refine k_ialdN (n := 8) d_R_attempt_164 (by decide) rfl rfl (by first | assumption | omega) (by decide) ?_
        refine k_if_ge d_R_attempt_165 (fun h165 => ?_) (fun h165 => ?_)
        · exact k_vret d_R_attempt_173 rfl rfl (by simp [rAttempt2, rAttempt3, *])
        · refine k_aload_n d_R_attempt_168 rfl ?_
          refine k_iload_n d_R_attempt_169 rfl ?_
          refine k_virt1v d_R_attempt_170 l_R_131 g_R_report (c_R_report hi hv) rcvR (Nat.le_of_ble_eq_true rfl) ?_
          exact k_vret d_R_attempt_173 rfl rfl (by simp [rAttempt2, rAttempt3, *])
  · refine k_aload_n d_R_attempt_113 rfl ?_
    refine k_getr (t := 13) d_R_attempt_114 f_R_47 (by decide) rfl (by decide) (by decide) rfl ?_
    refine k_iload_n d_R_attempt_117 rfl ?_
    refine k_bipush (v := 6) d_R_attempt_118 (by decide) ?_
    refine k_iastN (n := 8) d_R_attempt_120 (by decide) rfl rfl (by first | assumption | omega) (by decide) ?_
    refine k_goto d_R_attempt_121 ?_
    exact k_vret d_R_attempt_173 rfl rfl (by simp [rAttempt2, rAttempt3, *])

set_option maxRecDepth 4000 in
theorem c_R_attempt {l : Launch} {D : va_G} {cI cB cT : ClassId} {ad : Nat → Nat} {d : Nat} {u : kSt} {i : Nat} (hi : i < 8) (hI : rInv u) : KSp (kWl lyR l D cI cB cT ad) y_R_attempt m_R_attempt (d + 2) [.ref 0, .int (nI i)] u none (rAttempt u i) := by
  refine KSp.of (by decide) rfl (Nat.le_of_ble_eq_true rfl) rfl ?_
  show KAt (kWl lyR l D cI cB cT ad) m_R_attempt (d + 2) 0 [some (.ref 0), some (.int (nI i)), none, none] [] u none (rAttempt u i)
  refine k_bipush (v := 16) d_R_attempt_0 (by decide) ?_
  refine k_aload_n d_R_attempt_2 rfl ?_
  refine k_getr (t := 2) d_R_attempt_3 f_R_13 (by decide) rfl (by decide) (by decide) rfl ?_
  refine k_iload_n d_R_attempt_6 rfl ?_
  refine k_ialdN (n := 8) d_R_attempt_7 (by decide) rfl rfl (by first | assumption | omega) (by decide) ?_
  refine k_imul d_R_attempt_8 ?_
  refine k_aload_n d_R_attempt_9 rfl ?_
  refine k_getr (t := 17) d_R_attempt_10 f_R_59 (by decide) rfl (by decide) (by decide) rfl ?_
  refine k_iload_n d_R_attempt_13 rfl ?_
  refine k_ialdN (n := 8) d_R_attempt_14 (by decide) rfl rfl (by first | assumption | omega) (by decide) ?_
  refine k_iadd d_R_attempt_15 ?_
  have hs := (rsl_eq (hI.space hi) (hI.wanted hi)).2
  rw [(rsl_eq (hI.space hi) (hI.wanted hi)).1]
  refine k_istore_n d_R_attempt_16 (by decide) ?_
  refine k_aload_n d_R_attempt_17 rfl ?_
  refine k_getr (t := 20) d_R_attempt_18 f_R_68 (by decide) rfl (by decide) (by decide) rfl ?_
  refine k_iload_n d_R_attempt_21 rfl ?_
  refine k_ialdN (n := 96) d_R_attempt_22 (by decide) rfl rfl (by first | assumption | omega) (by decide) ?_
  refine k_if_lt d_R_attempt_23 (fun h23 => ?_) (fun h23 => ?_)
  · refine k_forget 2 ?_
    exact (c_R_attempt_2 hi hI).to rfl (by simp [rAttempt, rOk, *])
  · refine k_aload_n d_R_attempt_26 rfl ?_
    refine k_getr (t := 21) d_R_attempt_27 f_R_71 (by decide) rfl (by decide) (by decide) rfl ?_
    refine k_iload_n d_R_attempt_30 rfl ?_
    refine k_ialdN (n := 96) d_R_attempt_31 (by decide) rfl rfl (by first | assumption | omega) (by decide) ?_
    refine k_aload_n d_R_attempt_32 rfl ?_
    refine k_getr (t := 18) d_R_attempt_33 f_R_62 (by decide) rfl (by decide) (by decide) rfl ?_
    refine k_iload_n d_R_attempt_36 rfl ?_
    refine k_baldN (n := 8) d_R_attempt_37 (by decide) rfl rfl (by first | assumption | omega) (by decide) ?_
    refine k_if_eq d_R_attempt_38 (fun h38 => ?_) (fun h38 => ?_)
    · refine k_iconst (v := 1) d_R_attempt_45 (by decide) ?_
      refine k_icmp_lt d_R_attempt_46 (fun h46 => ?_) (fun h46 => ?_)
      · refine k_forget 2 ?_
        exact (c_R_attempt_2 hi hI).to rfl (by simp [rAttempt, rOk, *])
      · refine k_aload_n d_R_attempt_49 rfl ?_
        refine k_getr (t := 18) d_R_attempt_50 f_R_62 (by decide) rfl (by decide) (by decide) rfl ?_
        refine k_iload_n d_R_attempt_53 rfl ?_
        refine k_baldN (n := 8) d_R_attempt_54 (by decide) rfl rfl (by first | assumption | omega) (by decide) ?_
        refine k_if_eq d_R_attempt_55 (fun h55 => ?_) (fun h55 => ?_)
        · refine k_aload_n d_R_attempt_78 rfl ?_
          refine k_getr (t := 11) d_R_attempt_79 f_R_41 (by decide) rfl (by decide) (by decide) rfl ?_
          refine k_iload_n d_R_attempt_82 rfl ?_
          refine k_aload_n d_R_attempt_83 rfl ?_
          refine k_getr (t := 24) d_R_attempt_84 f_R_80 (by decide) rfl (by decide) (by decide) rfl ?_
          refine k_aload_n d_R_attempt_87 rfl ?_
          refine k_getr (t := 20) d_R_attempt_88 f_R_68 (by decide) rfl (by decide) (by decide) rfl ?_
          refine k_iload_n d_R_attempt_91 rfl ?_
          refine k_ialdN (n := 96) d_R_attempt_92 (by decide) rfl rfl (by first | assumption | omega) (by decide) ?_
          refine k_iald d_R_attempt_93 (by decide) rfl (or_ge (hI.frame hs) h23) ?_
          refine k_iastN (n := 8) d_R_attempt_94 (by decide) rfl rfl (by first | assumption | omega) (by decide) ?_
          refine k_aload_n d_R_attempt_95 rfl ?_
          refine k_iload_n d_R_attempt_96 rfl ?_
          refine k_iconst (v := 0) d_R_attempt_97 (by decide) ?_
          refine k_virt2v d_R_attempt_98 l_R_98 g_R_run (c_R_run hi) rcvR (Nat.le_of_ble_eq_true rfl) ?_
          refine k_goto d_R_attempt_101 ?_
          exact k_vret d_R_attempt_173 rfl rfl (by first | exact absurd h38 h55 | exact absurd h55 h38 | simp [rAttempt, rOk, rDo, *])
        · refine k_aload_n d_R_attempt_58 rfl ?_
          refine k_getr (t := 24) d_R_attempt_59 f_R_80 (by decide) rfl (by decide) (by decide) rfl ?_
          refine k_aload_n d_R_attempt_62 rfl ?_
          refine k_getr (t := 20) d_R_attempt_63 f_R_68 (by decide) rfl (by decide) (by decide) rfl ?_
          refine k_iload_n d_R_attempt_66 rfl ?_
          refine k_ialdN (n := 96) d_R_attempt_67 (by decide) rfl rfl (by first | assumption | omega) (by decide) ?_
          refine k_aload_n d_R_attempt_68 rfl ?_
          refine k_getr (t := 19) d_R_attempt_69 f_R_65 (by decide) rfl (by decide) (by decide) rfl ?_
          refine k_iload_n d_R_attempt_72 rfl ?_
          refine k_ialdN (n := 8) d_R_attempt_73 (by decide) rfl rfl (by first | assumption | omega) (by decide) ?_
          refine k_iast d_R_attempt_74 (by decide) rfl (or_ge (hI.frame hs) h23) ?_
          refine k_goto d_R_attempt_75 ?_
          refine k_aload_n d_R_attempt_95 rfl ?_
          refine k_iload_n d_R_attempt_96 rfl ?_
          refine k_iconst (v := 0) d_R_attempt_97 (by decide) ?_
          refine k_virt2v d_R_attempt_98 l_R_98 g_R_run (c_R_run hi) rcvR (Nat.le_of_ble_eq_true rfl) ?_
          refine k_goto d_R_attempt_101 ?_
          exact k_vret d_R_attempt_173 rfl rfl (by first | exact absurd h38 h55 | exact absurd h55 h38 | simp [rAttempt, rOk, rDo, *])
    · refine k_iconst (v := 2) d_R_attempt_41 (by decide) ?_
      refine k_goto d_R_attempt_42 ?_
      refine k_icmp_lt d_R_attempt_46 (fun h46 => ?_) (fun h46 => ?_)
      · refine k_forget 2 ?_
        exact (c_R_attempt_2 hi hI).to rfl (by simp [rAttempt, rOk, *])
      · refine k_aload_n d_R_attempt_49 rfl ?_
        refine k_getr (t := 18) d_R_attempt_50 f_R_62 (by decide) rfl (by decide) (by decide) rfl ?_
        refine k_iload_n d_R_attempt_53 rfl ?_
        refine k_baldN (n := 8) d_R_attempt_54 (by decide) rfl rfl (by first | assumption | omega) (by decide) ?_
        refine k_if_eq d_R_attempt_55 (fun h55 => ?_) (fun h55 => ?_)
        · refine k_aload_n d_R_attempt_78 rfl ?_
          refine k_getr (t := 11) d_R_attempt_79 f_R_41 (by decide) rfl (by decide) (by decide) rfl ?_
          refine k_iload_n d_R_attempt_82 rfl ?_
          refine k_aload_n d_R_attempt_83 rfl ?_
          refine k_getr (t := 24) d_R_attempt_84 f_R_80 (by decide) rfl (by decide) (by decide) rfl ?_
          refine k_aload_n d_R_attempt_87 rfl ?_
          refine k_getr (t := 20) d_R_attempt_88 f_R_68 (by decide) rfl (by decide) (by decide) rfl ?_
          refine k_iload_n d_R_attempt_91 rfl ?_
          refine k_ialdN (n := 96) d_R_attempt_92 (by decide) rfl rfl (by first | assumption | omega) (by decide) ?_
          refine k_iald d_R_attempt_93 (by decide) rfl (or_ge (hI.frame hs) h23) ?_
          refine k_iastN (n := 8) d_R_attempt_94 (by decide) rfl rfl (by first | assumption | omega) (by decide) ?_
          refine k_aload_n d_R_attempt_95 rfl ?_
          refine k_iload_n d_R_attempt_96 rfl ?_
          refine k_iconst (v := 0) d_R_attempt_97 (by decide) ?_
          refine k_virt2v d_R_attempt_98 l_R_98 g_R_run (c_R_run hi) rcvR (Nat.le_of_ble_eq_true rfl) ?_
          refine k_goto d_R_attempt_101 ?_
          exact k_vret d_R_attempt_173 rfl rfl (by first | exact absurd h38 h55 | exact absurd h55 h38 | simp [rAttempt, rOk, rDo, *])
        · refine k_aload_n d_R_attempt_58 rfl ?_
          refine k_getr (t := 24) d_R_attempt_59 f_R_80 (by decide) rfl (by decide) (by decide) rfl ?_
          refine k_aload_n d_R_attempt_62 rfl ?_
          refine k_getr (t := 20) d_R_attempt_63 f_R_68 (by decide) rfl (by decide) (by decide) rfl ?_
          refine k_iload_n d_R_attempt_66 rfl ?_
          refine k_ialdN (n := 96) d_R_attempt_67 (by decide) rfl rfl (by first | assumption | omega) (by decide) ?_
          refine k_aload_n d_R_attempt_68 rfl ?_
          refine k_getr (t := 19) d_R_attempt_69 f_R_65 (by decide) rfl (by decide) (by decide) rfl ?_
          refine k_iload_n d_R_attempt_72 rfl ?_
          refine k_ialdN (n := 8) d_R_attempt_73 (by decide) rfl rfl (by first | assumption | omega) (by decide) ?_
          refine k_iast d_R_attempt_74 (by decide) rfl (or_ge (hI.frame hs) h23) ?_
          refine k_goto d_R_attempt_75 ?_
          refine k_aload_n d_R_attempt_95 rfl ?_
          refine k_iload_n d_R_attempt_96 rfl ?_
          refine k_iconst (v := 0) d_R_attempt_97 (by decide) ?_
          refine k_virt2v d_R_attempt_98 l_R_98 g_R_run (c_R_run hi) rcvR (Nat.le_of_ble_eq_true rfl) ?_
          refine k_goto d_R_attempt_101 ?_
          exact k_vret d_R_attempt_173 rfl rfl (by first | exact absurd h38 h55 | exact absurd h55 h38 | simp [rAttempt, rOk, rDo, *])

theorem c_R_message_4 {l : Launch} {D : va_G} {cI cB cT : ClassId} {ad : Nat → Nat} {d : Nat} {u : kSt} {s r : Nat} {a : Int32} {b : Bool} (hs : s < 8) (hr : r < 8) (hI : rInv u) : KAt (kWl lyR l D cI cB cT ad) m_R_message (d + 3) 163 [some (.ref 0), some (.int (nI s)), some (.int (nI r)), some (.int a), some (.int (bI b)), none] [] u none (rMsg4 u r b) := by
  refine k_iload d_R_message_163 rfl ?_
  refine k_if_eqB d_R_message_165 (fun h165 => ?_) (fun h165 => ?_)
  · refine k_aload_n d_R_message_176 rfl ?_
    refine k_iload_n d_R_message_177 rfl ?_
    refine k_iconst (v := 0) d_R_message_178 (by decide) ?_
    refine k_virt2v d_R_message_179 l_R_98 g_R_run (c_R_run hr) rcvR (Nat.le_of_ble_eq_true rfl) ?_
    exact k_vret d_R_message_182 rfl rfl (by first | rfl | (simp [rMsg4] <;> done) | (simp [rMsg4, *] <;> done))
  · refine k_aload_n d_R_message_168 rfl ?_
    refine k_iload_n d_R_message_169 rfl ?_
    refine k_virt1v d_R_message_170 l_R_127 g_R_attempt (c_R_attempt hr hI) rcvR (Nat.le_of_ble_eq_true rfl) ?_
    refine k_goto d_R_message_173 ?_
    exact k_vret d_R_message_182 rfl rfl (by first | rfl | (simp [rMsg4] <;> done) | (simp [rMsg4, *] <;> done))
theorem c_R_message_3 {l : Launch} {D : va_G} {cI cB cT : ClassId} {ad : Nat → Nat} {d : Nat} {u : kSt} {s r : Nat} {a : Int32} {b : Bool} (hs : s < 8) (hr : r < 8) (hI : rInv u) : KAt (kWl lyR l D cI cB cT ad) m_R_message (d + 3) 135 [some (.ref 0), some (.int (nI s)), some (.int (nI r)), some (.int a), some (.int (bI b)), none] [] u none (rMsg4 (rMsg3 (kup u 5 s (-1)) s r a) r b) := by
  have hI2 : rInv (kup u 5 s (-1)) := hI.up (rOk_5 (Or.inl rfl))
  refine k_aload_n d_R_message_135 rfl ?_
  refine k_getr (t := 5) d_R_message_136 f_R_23 (by decide) rfl (by decide) (by decide) rfl ?_
  refine k_iload_n d_R_message_139 rfl ?_
  refine k_iconst (v := (-1)) d_R_message_140 (by decide) ?_
  refine k_iastN (n := 8) d_R_message_141 (by decide) rfl rfl (by first | assumption | omega) (by decide) ?_
  refine k_iload_n d_R_message_142 rfl ?_
  refine k_if_eq d_R_message_143 (fun h143 => ?_) (fun h143 => ?_)
  · refine k_aload_n d_R_message_157 rfl ?_
    refine k_iload_n d_R_message_158 rfl ?_
    refine k_iconst (v := 0) d_R_message_159 (by decide) ?_
    refine k_virt2v d_R_message_160 l_R_98 g_R_run (c_R_run hs) rcvR (Nat.le_of_ble_eq_true rfl) ?_
    first
      | exact (c_R_message_4 hs hr hI2.linger).to rfl (by simp [rMsg3, *])
      | exact (c_R_message_4 hs hr hI2.run).to rfl (by simp [rMsg3, *])
  · refine k_aload_n d_R_message_146 rfl ?_
    refine k_iload_n d_R_message_147 rfl ?_
    refine k_iconst (v := 2) d_R_message_148 (by decide) ?_
    refine k_iload_n d_R_message_149 rfl ?_
    refine k_iconst (v := (-1)) d_R_message_150 (by decide) ?_
    refine k_virt4v d_R_message_151 l_R_123 g_R_linger (c_R_linger hs) rcvR (Nat.le_of_ble_eq_true rfl) ?_
    refine k_goto d_R_message_154 ?_
    first
      | exact (c_R_message_4 hs hr hI2.linger).to rfl (by simp [rMsg3, *])
      | exact (c_R_message_4 hs hr hI2.run).to rfl (by simp [rMsg3, *])
theorem c_R_message_2 {l : Launch} {D : va_G} {cI cB cT : ClassId} {ad : Nat → Nat} {d : Nat} {u : kSt} {s r : Nat} {a : Int32} {b : Bool} (hs : s < 8) (hr : r < 8) (hI : rInv u) {p : Int32} (hp : p = -1 ∨ vp_in p 16) : KAt (kWl lyR l D cI cB cT ad) m_R_message (d + 3) 88 [some (.ref 0), some (.int (nI s)), some (.int (nI r)), some (.int a), some (.int (bI b)), some (.int p)] [] u none (rMsg4 (rMsg3 (kup (rMsg2 u s r p) 5 s (-1)) s r a) r b) := by
  have hI3 := hI.msg2 hs hr hp
  refine k_aload_n d_R_message_88 rfl ?_
  refine k_getr (t := 5) d_R_message_89 f_R_23 (by decide) rfl (by decide) (by decide) rfl ?_
  refine k_iload_n d_R_message_92 rfl ?_
  refine k_ialdN (n := 8) d_R_message_93 (by decide) rfl rfl (by first | assumption | omega) (by decide) ?_
  refine k_if_lt d_R_message_94 (fun h94 => ?_) (fun h94 => ?_)
  · refine k_forget 5 ?_
    first
      | exact (c_R_message_3 hs hr hI).to rfl (by simp [rMsg2, *])
      | exact (c_R_message_3 hs hr (hI.handOn ha.2 hb.2)).to rfl (by simp [rMsg2, *])
  · refine k_iload d_R_message_97 rfl ?_
    refine k_if_lt d_R_message_99 (fun h99 => ?_) (fun h99 => ?_)
    · refine k_forget 5 ?_
      first
        | exact (c_R_message_3 hs hr hI).to rfl (by simp [rMsg2, *])
        | exact (c_R_message_3 hs hr (hI.handOn ha.2 hb.2)).to rfl (by simp [rMsg2, *])
    · refine k_aload_n d_R_message_102 rfl ?_
      refine k_iload_n d_R_message_103 rfl ?_
      refine k_bipush (v := 16) d_R_message_104 (by decide) ?_
      refine k_aload_n d_R_message_106 rfl ?_
      refine k_getr (t := 2) d_R_message_107 f_R_13 (by decide) rfl (by decide) (by decide) rfl ?_
      refine k_iload_n d_R_message_110 rfl ?_
      refine k_ialdN (n := 8) d_R_message_111 (by decide) rfl rfl (by first | assumption | omega) (by decide) ?_
      refine k_imul d_R_message_112 ?_
      refine k_aload_n d_R_message_113 rfl ?_
      refine k_getr (t := 5) d_R_message_114 f_R_23 (by decide) rfl (by decide) (by decide) rfl ?_
      refine k_iload_n d_R_message_117 rfl ?_
      refine k_ialdN (n := 8) d_R_message_118 (by decide) rfl rfl (by first | assumption | omega) (by decide) ?_
      refine k_iadd d_R_message_119 ?_
      have ha := rsl_eq (hI.space hs) (or_ge (hI.offer hs) h94)
      rw [ha.1]
      refine k_bipush (v := 16) d_R_message_120 (by decide) ?_
      refine k_aload_n d_R_message_122 rfl ?_
      refine k_getr (t := 2) d_R_message_123 f_R_13 (by decide) rfl (by decide) (by decide) rfl ?_
      refine k_iload_n d_R_message_126 rfl ?_
      refine k_ialdN (n := 8) d_R_message_127 (by decide) rfl rfl (by first | assumption | omega) (by decide) ?_
      refine k_imul d_R_message_128 ?_
      refine k_iload d_R_message_129 rfl ?_
      refine k_iadd d_R_message_131 ?_
      have hb := rsl_eq (hI.space hr) (or_ge hp h99)
      rw [hb.1]
      refine k_virt3v d_R_message_132 l_R_120 g_R_handOn (c_R_handOn hs ha.2 hb.2 hI) rcvR (Nat.le_of_ble_eq_true rfl) ?_
      refine k_forget 5 ?_
      first
        | exact (c_R_message_3 hs hr hI).to rfl (by simp [rMsg2, *])
        | exact (c_R_message_3 hs hr (hI.handOn ha.2 hb.2)).to rfl (by simp [rMsg2, *])
theorem c_R_message_1 {l : Launch} {D : va_G} {cI cB cT : ClassId} {ad : Nat → Nat} {d : Nat} {u : kSt} {s r : Nat} {a : Int32} {b : Bool} (hs : s < 8) (hr : r < 8) (hI : rInv u) : KAt (kWl lyR l D cI cB cT ad) m_R_message (d + 3) 66 [some (.ref 0), some (.int (nI s)), some (.int (nI r)), some (.int a), some (.int (bI b)), none] [] u none (rMsgB u s r a b) := by
  refine k_iload d_R_message_66 rfl ?_
  refine k_if_eqB d_R_message_68 (fun h68 => ?_) (fun h68 => ?_)
  · refine k_aload_n d_R_message_80 rfl ?_
    refine k_getr (t := 8) d_R_message_81 f_R_32 (by decide) rfl (by decide) (by decide) rfl ?_
    refine k_iload_n d_R_message_84 rfl ?_
    refine k_ialdN (n := 8) d_R_message_85 (by decide) rfl rfl (by first | assumption | omega) (by decide) ?_
    refine k_istore d_R_message_86 (by decide) ?_
    first
      | exact (c_R_message_2 hs hr hI (Or.inr (hI.wanted hr))).to rfl (by simp [rMsgB, rPage, *])
      | exact (c_R_message_2 hs hr hI (hI.window hr)).to rfl (by simp [rMsgB, rPage, *])
  · refine k_aload_n d_R_message_71 rfl ?_
    refine k_getr (t := 17) d_R_message_72 f_R_59 (by decide) rfl (by decide) (by decide) rfl ?_
    refine k_iload_n d_R_message_75 rfl ?_
    refine k_ialdN (n := 8) d_R_message_76 (by decide) rfl rfl (by first | assumption | omega) (by decide) ?_
    refine k_goto d_R_message_77 ?_
    refine k_istore d_R_message_86 (by decide) ?_
    first
      | exact (c_R_message_2 hs hr hI (Or.inr (hI.wanted hr))).to rfl (by simp [rMsgB, rPage, *])
      | exact (c_R_message_2 hs hr hI (hI.window hr)).to rfl (by simp [rMsgB, rPage, *])

set_option maxRecDepth 4000 in
theorem c_R_message {l : Launch} {D : va_G} {cI cB cT : ClassId} {ad : Nat → Nat} {d : Nat} {u : kSt} {s r : Nat} {a : Int32} (hs : s < 8) (hr : r < 8) (hI : rInv u) : KSp (kWl lyR l D cI cB cT ad) y_R_message m_R_message (d + 3) [.ref 0, .int (nI s), .int (nI r), .int a] u none (rMessage u s r a) := by
  refine KSp.of (by decide) rfl (Nat.le_of_ble_eq_true rfl) rfl ?_
  show KAt (kWl lyR l D cI cB cT ad) m_R_message (d + 3) 0 [some (.ref 0), some (.int (nI s)), some (.int (nI r)), some (.int a), none, none] [] u none (rMessage u s r a)
  refine k_aload_n d_R_message_0 rfl ?_
  refine k_getr (t := 13) d_R_message_1 f_R_47 (by decide) rfl (by decide) (by decide) rfl ?_
  refine k_iload_n d_R_message_4 rfl ?_
  refine k_ialdN (n := 8) d_R_message_5 (by decide) rfl rfl (by first | assumption | omega) (by decide) ?_
  refine k_iconst (v := 5) d_R_message_6 (by decide) ?_
  refine k_icmp_ne d_R_message_7 (fun h7 => ?_) (fun h7 => ?_)
  · refine k_iconst (v := 0) d_R_message_14 (by decide) ?_
    refine k_istore d_R_message_15 (by decide) ?_
    refine k_iload d_R_message_17 rfl ?_
    refine k_if_ne d_R_message_19 (fun h => absurd h (by decide)) (fun _ => ?_)
    refine k_aload_n d_R_message_22 rfl ?_
    refine k_iload_n d_R_message_23 rfl ?_
    refine k_iload_n d_R_message_24 rfl ?_
    refine k_aload_n d_R_message_25 rfl ?_
    refine k_getr (t := 4) d_R_message_26 f_R_20 (by decide) rfl (by decide) (by decide) rfl ?_
    refine k_iconst (v := 4) d_R_message_29 (by decide) ?_
    refine k_iload_n d_R_message_30 rfl ?_
    refine k_imul d_R_message_31 ?_
    rw [rg_eq0]
    refine k_ialdN (n := 32) d_R_message_32 (by decide) rfl rfl (by first | assumption | omega) (by decide) ?_
    refine k_aload_n d_R_message_33 rfl ?_
    refine k_getr (t := 4) d_R_message_34 f_R_20 (by decide) rfl (by decide) (by decide) rfl ?_
    refine k_iconst (v := 4) d_R_message_37 (by decide) ?_
    refine k_iload_n d_R_message_38 rfl ?_
    refine k_imul d_R_message_39 ?_
    refine k_iconst (v := 1) d_R_message_40 (by decide) ?_
    refine k_iadd d_R_message_41 ?_
    rw [show (1 : Int32) = nI 1 from rfl, rg_eq hs (by decide)]
    refine k_ialdN (n := 32) d_R_message_42 (by decide) rfl rfl (by first | assumption | omega) (by decide) ?_
    refine k_aload_n d_R_message_43 rfl ?_
    refine k_getr (t := 4) d_R_message_44 f_R_20 (by decide) rfl (by decide) (by decide) rfl ?_
    refine k_iconst (v := 4) d_R_message_47 (by decide) ?_
    refine k_iload_n d_R_message_48 rfl ?_
    refine k_imul d_R_message_49 ?_
    refine k_iconst (v := 2) d_R_message_50 (by decide) ?_
    refine k_iadd d_R_message_51 ?_
    rw [show (2 : Int32) = nI 2 from rfl, rg_eq hs (by decide)]
    refine k_ialdN (n := 32) d_R_message_52 (by decide) rfl rfl (by first | assumption | omega) (by decide) ?_
    refine k_aload_n d_R_message_53 rfl ?_
    refine k_getr (t := 4) d_R_message_54 f_R_20 (by decide) rfl (by decide) (by decide) rfl ?_
    refine k_iconst (v := 4) d_R_message_57 (by decide) ?_
    refine k_iload_n d_R_message_58 rfl ?_
    refine k_imul d_R_message_59 ?_
    refine k_iconst (v := 3) d_R_message_60 (by decide) ?_
    refine k_iadd d_R_message_61 ?_
    rw [show (3 : Int32) = nI 3 from rfl, rg_eq hs (by decide)]
    refine k_ialdN (n := 32) d_R_message_62 (by decide) rfl rfl (by first | assumption | omega) (by decide) ?_
    refine k_virt6v d_R_message_63 l_R_116 g_R_take (c_R_take hr) rcvR (Nat.le_of_ble_eq_true rfl) ?_
    first
      | exact (c_R_message_1 (b := true) hs hr hI).to rfl (by simp [rMessage, rMsg1, *])
      | exact (c_R_message_1 (b := false) hs hr hI.take).to rfl (by simp [rMessage, rMsg1, *])
  · refine k_iconst (v := 1) d_R_message_10 (by decide) ?_
    refine k_goto d_R_message_11 ?_
    refine k_istore d_R_message_15 (by decide) ?_
    refine k_iload d_R_message_17 rfl ?_
    refine k_if_ne d_R_message_19 (fun _ => ?_) (fun h => absurd h (by decide))
    first
      | exact (c_R_message_1 (b := true) hs hr hI).to rfl (by simp [rMessage, rMsg1, *])
      | exact (c_R_message_1 (b := false) hs hr hI.take).to rfl (by simp [rMessage, rMsg1, *])

set_option maxRecDepth 4000 in
theorem c_R_takes {l : Launch} {D : va_G} {cI cB cT : ClassId} {ad : Nat → Nat} {d : Nat} {u : kSt} {r s : Nat} (hr : r < 8) (hs : s < 8) : KSp (kWl lyR l D cI cB cT ad) y_R_takes m_R_takes d [.ref 0, .int (nI r), .int (nI s)] u (some (.int (bI (rTakes u r s)))) u := by
  refine KSp.of (by decide) rfl (Nat.le_of_ble_eq_true rfl) rfl ?_
  show KAt (kWl lyR l D cI cB cT ad) m_R_takes d 0 [some (.ref 0), some (.int (nI r)), some (.int (nI s))] [] u (some (.int (bI (rTakes u r s)))) u
  refine k_aload_n d_R_takes_0 rfl ?_
  refine k_getr (t := 13) d_R_takes_1 f_R_47 (by decide) rfl (by decide) (by decide) rfl ?_
  refine k_iload_n d_R_takes_4 rfl ?_
  refine k_ialdN (n := 8) d_R_takes_5 (by decide) rfl rfl (by first | assumption | omega) (by decide) ?_
  refine k_iconst (v := 2) d_R_takes_6 (by decide) ?_
  refine k_icmp_ne d_R_takes_7 (fun h7 => ?_) (fun h7 => ?_)
  · refine k_aload_n d_R_takes_29 rfl ?_
    refine k_getr (t := 13) d_R_takes_30 f_R_47 (by decide) rfl (by decide) (by decide) rfl ?_
    refine k_iload_n d_R_takes_33 rfl ?_
    refine k_ialdN (n := 8) d_R_takes_34 (by decide) rfl rfl (by first | assumption | omega) (by decide) ?_
    refine k_iconst (v := 5) d_R_takes_35 (by decide) ?_
    refine k_icmp_ne d_R_takes_36 (fun h36 => ?_) (fun h36 => ?_)
    · refine k_iconst (v := 0) d_R_takes_53 (by decide) ?_
      exact k_zret d_R_takes_54 rfl (by first | rfl | exact nb_bI _) (by first | rfl | (simp [rTakes, bI] <;> done) | (simp [rTakes, bI, *] <;> done)) (by first | rfl | (simp [rTakes, bI] <;> done) | (simp [rTakes, bI, *] <;> done))
    · refine k_aload_n d_R_takes_39 rfl ?_
      refine k_getr (t := 14) d_R_takes_40 f_R_50 (by decide) rfl (by decide) (by decide) rfl ?_
      refine k_iload_n d_R_takes_43 rfl ?_
      refine k_ialdN (n := 8) d_R_takes_44 (by decide) rfl rfl (by first | assumption | omega) (by decide) ?_
      refine k_iload_n d_R_takes_45 rfl ?_
      refine k_icmp_ne d_R_takes_46 (fun h46 => ?_) (fun h46 => ?_)
      · refine k_iconst (v := 0) d_R_takes_53 (by decide) ?_
        exact k_zret d_R_takes_54 rfl (by first | rfl | exact nb_bI _) (by first | rfl | (simp [rTakes, bI] <;> done) | (simp [rTakes, bI, *] <;> done)) (by first | rfl | (simp [rTakes, bI] <;> done) | (simp [rTakes, bI, *] <;> done))
      · refine k_iconst (v := 1) d_R_takes_49 (by decide) ?_
        refine k_goto d_R_takes_50 ?_
        exact k_zret d_R_takes_54 rfl (by first | rfl | exact nb_bI _) (by first | rfl | (simp [rTakes, bI] <;> done) | (simp [rTakes, bI, *] <;> done)) (by first | rfl | (simp [rTakes, bI] <;> done) | (simp [rTakes, bI, *] <;> done))
  · refine k_aload_n d_R_takes_10 rfl ?_
    refine k_getr (t := 14) d_R_takes_11 f_R_50 (by decide) rfl (by decide) (by decide) rfl ?_
    refine k_iload_n d_R_takes_14 rfl ?_
    refine k_ialdN (n := 8) d_R_takes_15 (by decide) rfl rfl (by first | assumption | omega) (by decide) ?_
    refine k_iload_n d_R_takes_16 rfl ?_
    refine k_icmp_eq d_R_takes_17 (fun h17 => ?_) (fun h17 => ?_)
    · refine k_iconst (v := 1) d_R_takes_49 (by decide) ?_
      refine k_goto d_R_takes_50 ?_
      exact k_zret d_R_takes_54 rfl (by first | rfl | exact nb_bI _) (by first | rfl | (simp [rTakes, bI] <;> done) | (simp [rTakes, bI, *] <;> done)) (by first | rfl | (simp [rTakes, bI] <;> done) | (simp [rTakes, bI, *] <;> done))
    · refine k_aload_n d_R_takes_20 rfl ?_
      refine k_getr (t := 14) d_R_takes_21 f_R_50 (by decide) rfl (by decide) (by decide) rfl ?_
      refine k_iload_n d_R_takes_24 rfl ?_
      refine k_ialdN (n := 8) d_R_takes_25 (by decide) rfl rfl (by first | assumption | omega) (by decide) ?_
      refine k_if_lt d_R_takes_26 (fun h26 => ?_) (fun h26 => ?_)
      · refine k_iconst (v := 1) d_R_takes_49 (by decide) ?_
        refine k_goto d_R_takes_50 ?_
        exact k_zret d_R_takes_54 rfl (by first | rfl | exact nb_bI _) (by first | rfl | (simp [rTakes, bI] <;> done) | (simp [rTakes, bI, *] <;> done)) (by first | rfl | (simp [rTakes, bI] <;> done) | (simp [rTakes, bI, *] <;> done))
      · refine k_aload_n d_R_takes_29 rfl ?_
        refine k_getr (t := 13) d_R_takes_30 f_R_47 (by decide) rfl (by decide) (by decide) rfl ?_
        refine k_iload_n d_R_takes_33 rfl ?_
        refine k_ialdN (n := 8) d_R_takes_34 (by decide) rfl rfl (by first | assumption | omega) (by decide) ?_
        refine k_iconst (v := 5) d_R_takes_35 (by decide) ?_
        refine k_icmp_ne d_R_takes_36 (fun h36 => ?_) (fun h36 => ?_)
        · refine k_iconst (v := 0) d_R_takes_53 (by decide) ?_
          exact k_zret d_R_takes_54 rfl (by first | rfl | exact nb_bI _) (by first | rfl | (simp [rTakes, bI] <;> done) | (simp [rTakes, bI, *] <;> done)) (by first | rfl | (simp [rTakes, bI] <;> done) | (simp [rTakes, bI, *] <;> done))
        · refine k_aload_n d_R_takes_39 rfl ?_
          refine k_getr (t := 14) d_R_takes_40 f_R_50 (by decide) rfl (by decide) (by decide) rfl ?_
          refine k_iload_n d_R_takes_43 rfl ?_
          refine k_ialdN (n := 8) d_R_takes_44 (by decide) rfl rfl (by first | assumption | omega) (by decide) ?_
          refine k_iload_n d_R_takes_45 rfl ?_
          refine k_icmp_ne d_R_takes_46 (fun h46 => ?_) (fun h46 => ?_)
          · refine k_iconst (v := 0) d_R_takes_53 (by decide) ?_
            exact k_zret d_R_takes_54 rfl (by first | rfl | exact nb_bI _) (by first | rfl | (simp [rTakes, bI] <;> done) | (simp [rTakes, bI, *] <;> done)) (by first | rfl | (simp [rTakes, bI] <;> done) | (simp [rTakes, bI, *] <;> done))
          · refine k_iconst (v := 1) d_R_takes_49 (by decide) ?_
            refine k_goto d_R_takes_50 ?_
            exact k_zret d_R_takes_54 rfl (by first | rfl | exact nb_bI _) (by first | rfl | (simp [rTakes, bI] <;> done) | (simp [rTakes, bI, *] <;> done)) (by first | rfl | (simp [rTakes, bI] <;> done) | (simp [rTakes, bI, *] <;> done))

theorem c_R_speak_2 {l : Launch} {D : va_G} {cI cB cT : ClassId} {ad : Nat → Nat} {d : Nat} {u : kSt} {i j : Nat} {n a : Int32} (hi : i < 8) (hj : j < 8) (hI : rInv u) : KAt (kWl lyR l D cI cB cT ad) m_R_speak (d + 4) 34 [some (.ref 0), some (.int (nI i)), some (.int (nI j)), some (.int n), some (.int a)] [] u (some (.int (rSpk u i j n a).1)) (rSpk u i j n a).2 := by
  refine k_aload_n d_R_speak_34 rfl ?_
  refine k_iload_n d_R_speak_35 rfl ?_
  refine k_iload_n d_R_speak_36 rfl ?_
  refine k_virt2s d_R_speak_37 l_R_134 g_R_takes (c_R_takes hj hi) rcvR (Nat.le_of_ble_eq_true rfl) ?_
  refine k_if_eqB d_R_speak_40 (fun h40 => ?_) (fun h40 => ?_)
  · refine k_iload_n d_R_speak_62 rfl ?_
    refine k_if_ne d_R_speak_63 (fun h63 => ?_) (fun h63 => ?_)
    · refine k_aload_n d_R_speak_75 rfl ?_
      refine k_iload_n d_R_speak_76 rfl ?_
      refine k_iload d_R_speak_77 rfl ?_
      refine k_if_eq d_R_speak_79 (fun h79 => ?_) (fun h79 => ?_)
      · refine k_iconst (v := 1) d_R_speak_86 (by decide) ?_
        refine k_iload_n d_R_speak_87 rfl ?_
        refine k_iload_n d_R_speak_88 rfl ?_
        refine k_virt4v d_R_speak_89 l_R_123 g_R_linger (c_R_linger hi) rcvR (Nat.le_of_ble_eq_true rfl) ?_
        refine k_iconst (v := 1) d_R_speak_92 (by decide) ?_
        exact k_iret d_R_speak_93 rfl (by first | rfl | (simp [rSpk] <;> done) | (simp [rSpk, *] <;> done)) (by first | rfl | (simp [rSpk] <;> done) | (simp [rSpk, *] <;> done))
      · refine k_iconst (v := 3) d_R_speak_82 (by decide) ?_
        refine k_goto d_R_speak_83 ?_
        refine k_iload_n d_R_speak_87 rfl ?_
        refine k_iload_n d_R_speak_88 rfl ?_
        refine k_virt4v d_R_speak_89 l_R_123 g_R_linger (c_R_linger hi) rcvR (Nat.le_of_ble_eq_true rfl) ?_
        refine k_iconst (v := 1) d_R_speak_92 (by decide) ?_
        exact k_iret d_R_speak_93 rfl (by first | rfl | (simp [rSpk] <;> done) | (simp [rSpk, *] <;> done)) (by first | rfl | (simp [rSpk] <;> done) | (simp [rSpk, *] <;> done))
    · refine k_aload_n d_R_speak_66 rfl ?_
      refine k_getr (t := 9) d_R_speak_67 f_R_35 (by decide) rfl (by decide) (by decide) rfl ?_
      refine k_iload_n d_R_speak_70 rfl ?_
      refine k_iconst (v := 1) d_R_speak_71 (by decide) ?_
      refine k_iastN (n := 8) d_R_speak_72 (by decide) rfl rfl (by first | assumption | omega) (by decide) ?_
      refine k_iconst (v := 2) d_R_speak_73 (by decide) ?_
      exact k_iret d_R_speak_74 rfl (by first | rfl | (simp [rSpk] <;> done) | (simp [rSpk, *] <;> done)) (by first | rfl | (simp [rSpk] <;> done) | (simp [rSpk, *] <;> done))
  · refine k_aload_n d_R_speak_43 rfl ?_
    refine k_iload_n d_R_speak_44 rfl ?_
    refine k_iload_n d_R_speak_45 rfl ?_
    refine k_iload d_R_speak_46 rfl ?_
    refine k_virt3v d_R_speak_48 l_R_137 g_R_message (c_R_message hi hj hI) rcvR (Nat.le_of_ble_eq_true rfl) ?_
    refine k_iload d_R_speak_51 rfl ?_
    refine k_if_eq d_R_speak_53 (fun h53 => ?_) (fun h53 => ?_)
    · refine k_iconst (v := 0) d_R_speak_60 (by decide) ?_
      exact k_iret d_R_speak_61 rfl (by first | rfl | (simp [rSpk] <;> done) | (simp [rSpk, *] <;> done)) (by first | rfl | (simp [rSpk] <;> done) | (simp [rSpk, *] <;> done))
    · refine k_iconst (v := 1) d_R_speak_56 (by decide) ?_
      refine k_goto d_R_speak_57 ?_
      exact k_iret d_R_speak_61 rfl (by first | rfl | (simp [rSpk] <;> done) | (simp [rSpk, *] <;> done)) (by first | rfl | (simp [rSpk] <;> done) | (simp [rSpk, *] <;> done))

set_option maxRecDepth 4000 in
theorem c_R_speak {l : Launch} {D : va_G} {cI cB cT : ClassId} {ad : Nat → Nat} {d : Nat} {u : kSt} {t o n a : Int32} (hI : rInv u) : KSp (kWl lyR l D cI cB cT ad) y_R_speak m_R_speak (d + 4) [.ref 0, .int t, .int o, .int n, .int a] u (some (.int (rSpeak u t o n a).1)) (rSpeak u t o n a).2 := by
  refine KSp.of (by decide) rfl (Nat.le_of_ble_eq_true rfl) rfl ?_
  show KAt (kWl lyR l D cI cB cT ad) m_R_speak (d + 4) 0 [some (.ref 0), some (.int t), some (.int o), some (.int n), some (.int a)] [] u (some (.int (rSpeak u t o n a).1)) (rSpeak u t o n a).2
  refine k_aload_n d_R_speak_0 rfl ?_
  refine k_iload_n d_R_speak_1 rfl ?_
  refine k_virt1s d_R_speak_2 l_R_102 g_R_running c_R_running rcvR (Nat.le_of_ble_eq_true rfl) ?_
  refine k_if_eqB d_R_speak_5 (fun h5 => ?_) (fun h5 => ?_)
  · refine k_iconst (v := (-1)) d_R_speak_32 (by decide) ?_
    exact k_iret d_R_speak_33 rfl (by simp [rSpeak, *]) (by simp [rSpeak, *])
  · refine k_iload_n d_R_speak_8 rfl ?_
    refine k_iload_n d_R_speak_9 rfl ?_
    refine k_icmp_eq d_R_speak_10 (fun h10 => ?_) (fun h10 => ?_)
    · refine k_iconst (v := (-1)) d_R_speak_32 (by decide) ?_
      exact k_iret d_R_speak_33 rfl (by simp [rSpeak, *]) (by simp [rSpeak, *])
    · refine k_aload_n d_R_speak_13 rfl ?_
      refine k_iload_n d_R_speak_14 rfl ?_
      refine k_virt1s d_R_speak_15 l_R_87 g_R_thread c_R_thread rcvR (Nat.le_of_ble_eq_true rfl) ?_
      refine k_if_eqB d_R_speak_18 (fun h18 => ?_) (fun h18 => ?_)
      · refine k_iconst (v := (-1)) d_R_speak_32 (by decide) ?_
        exact k_iret d_R_speak_33 rfl (by simp [rSpeak, *]) (by simp [rSpeak, *])
      · refine k_iload_n d_R_speak_21 rfl ?_
        refine k_iconst (v := (-1)) d_R_speak_22 (by decide) ?_
        refine k_icmp_lt d_R_speak_23 (fun h23 => ?_) (fun h23 => ?_)
        · refine k_iconst (v := (-1)) d_R_speak_32 (by decide) ?_
          exact k_iret d_R_speak_33 rfl (by simp [rSpeak, *]) (by simp [rSpeak, *])
        · refine k_iload_n d_R_speak_26 rfl ?_
          refine k_bipush (v := 100) d_R_speak_27 (by decide) ?_
          refine k_icmp_le d_R_speak_29 (fun h29 => ?_) (fun h29 => ?_)
          · have e1 : rSpeak u t o n a = rSpk u (ix t) (ix o) n a := by simp [rSpeak, *]
            rw [e1]
            have ht := rRunning_in h5
            have ho := rThread_in h18
            have h9 := c_R_speak_2 (l := l) (D := D) (cI := cI) (cB := cB) (cT := cT) (ad := ad) (d := d) (n := n) (a := a) (vin_lt ht) (vin_lt ho) hI
            rw [← vin_eq ht, ← vin_eq ho] at h9
            exact h9
          · refine k_iconst (v := (-1)) d_R_speak_32 (by decide) ?_
            exact k_iret d_R_speak_33 rfl (by simp [rSpeak, *]) (by simp [rSpeak, *])

set_option maxRecDepth 4000 in
theorem c_R_send {l : Launch} {D : va_G} {cI cB cT : ClassId} {ad : Nat → Nat} {d : Nat} {u : kSt} {t o n : Int32} (hI : rInv u) : KSp (kWl lyR l D cI cB cT ad) y_R_send m_R_send (d + 5) [.ref 0, .int t, .int o, .int n] u (some (.int (rSpeak u t o n 0).1)) (rSpeak u t o n 0).2 := by
  refine KSp.of (by decide) rfl (Nat.le_of_ble_eq_true rfl) rfl ?_
  show KAt (kWl lyR l D cI cB cT ad) m_R_send (d + 5) 0 [some (.ref 0), some (.int t), some (.int o), some (.int n)] [] u (some (.int (rSpeak u t o n 0).1)) (rSpeak u t o n 0).2
  refine k_aload_n d_R_send_0 rfl ?_
  refine k_iload_n d_R_send_1 rfl ?_
  refine k_iload_n d_R_send_2 rfl ?_
  refine k_iload_n d_R_send_3 rfl ?_
  refine k_iconst (v := 0) d_R_send_4 (by decide) ?_
  refine k_virt4s d_R_send_5 l_R_141 g_R_speak (c_R_speak hI) rcvR (Nat.le_of_ble_eq_true rfl) ?_
  exact k_iret d_R_send_8 rfl (by first | rfl | (simp [bI] <;> done) | (simp [bI, *] <;> done)) (by first | rfl | (simp [bI] <;> done) | (simp [bI, *] <;> done))

set_option maxRecDepth 4000 in
theorem c_R_call {l : Launch} {D : va_G} {cI cB cT : ClassId} {ad : Nat → Nat} {d : Nat} {u : kSt} {t o n : Int32} (hI : rInv u) : KSp (kWl lyR l D cI cB cT ad) y_R_call m_R_call (d + 5) [.ref 0, .int t, .int o, .int n] u (some (.int (rSpeak u t o n 1).1)) (rSpeak u t o n 1).2 := by
  refine KSp.of (by decide) rfl (Nat.le_of_ble_eq_true rfl) rfl ?_
  show KAt (kWl lyR l D cI cB cT ad) m_R_call (d + 5) 0 [some (.ref 0), some (.int t), some (.int o), some (.int n)] [] u (some (.int (rSpeak u t o n 1).1)) (rSpeak u t o n 1).2
  refine k_aload_n d_R_call_0 rfl ?_
  refine k_iload_n d_R_call_1 rfl ?_
  refine k_iload_n d_R_call_2 rfl ?_
  refine k_iload_n d_R_call_3 rfl ?_
  refine k_iconst (v := 1) d_R_call_4 (by decide) ?_
  refine k_virt4s d_R_call_5 l_R_141 g_R_speak (c_R_speak hI) rcvR (Nat.le_of_ble_eq_true rfl) ?_
  exact k_iret d_R_call_8 rfl (by first | rfl | (simp [bI] <;> done) | (simp [bI, *] <;> done)) (by first | rfl | (simp [bI] <;> done) | (simp [bI, *] <;> done))

set_option maxRecDepth 4000 in
theorem c_R_waitsFor {l : Launch} {D : va_G} {cI cB cT : ClassId} {ad : Nat → Nat} {d : Nat} {u : kSt} {i : Nat} {t : Int32} (hi : i < 8) : KSp (kWl lyR l D cI cB cT ad) y_R_waitsFor m_R_waitsFor d [.ref 0, .int (nI i), .int t] u (some (.int (bI (rWaits u i t)))) u := by
  refine KSp.of (by decide) rfl (Nat.le_of_ble_eq_true rfl) rfl ?_
  show KAt (kWl lyR l D cI cB cT ad) m_R_waitsFor d 0 [some (.ref 0), some (.int (nI i)), some (.int t)] [] u (some (.int (bI (rWaits u i t)))) u
  refine k_aload_n d_R_waitsFor_0 rfl ?_
  refine k_getr (t := 1) d_R_waitsFor_1 f_R_7 (by decide) rfl (by decide) (by decide) rfl ?_
  refine k_iload_n d_R_waitsFor_4 rfl ?_
  refine k_baldN (n := 8) d_R_waitsFor_5 (by decide) rfl rfl (by first | assumption | omega) (by decide) ?_
  refine k_if_eq d_R_waitsFor_6 (fun h6 => ?_) (fun h6 => ?_)
  · refine k_iconst (v := 0) d_R_waitsFor_53 (by decide) ?_
    exact k_zret d_R_waitsFor_54 rfl (by first | rfl | exact nb_bI _) (by first | rfl | (simp [rWaits, bI] <;> done) | (simp [rWaits, bI, *] <;> done)) (by first | rfl | (simp [rWaits, bI] <;> done) | (simp [rWaits, bI, *] <;> done))
  · refine k_aload_n d_R_waitsFor_9 rfl ?_
    refine k_getr (t := 13) d_R_waitsFor_10 f_R_47 (by decide) rfl (by decide) (by decide) rfl ?_
    refine k_iload_n d_R_waitsFor_13 rfl ?_
    refine k_ialdN (n := 8) d_R_waitsFor_14 (by decide) rfl rfl (by first | assumption | omega) (by decide) ?_
    refine k_iconst (v := 1) d_R_waitsFor_15 (by decide) ?_
    refine k_icmp_eq d_R_waitsFor_16 (fun h16 => ?_) (fun h16 => ?_)
    · refine k_aload_n d_R_waitsFor_39 rfl ?_
      refine k_getr (t := 14) d_R_waitsFor_40 f_R_50 (by decide) rfl (by decide) (by decide) rfl ?_
      refine k_iload_n d_R_waitsFor_43 rfl ?_
      refine k_ialdN (n := 8) d_R_waitsFor_44 (by decide) rfl rfl (by first | assumption | omega) (by decide) ?_
      refine k_iload_n d_R_waitsFor_45 rfl ?_
      refine k_icmp_ne d_R_waitsFor_46 (fun h46 => ?_) (fun h46 => ?_)
      · refine k_iconst (v := 0) d_R_waitsFor_53 (by decide) ?_
        exact k_zret d_R_waitsFor_54 rfl (by first | rfl | exact nb_bI _) (by first | rfl | (simp [rWaits, bI] <;> done) | (simp [rWaits, bI, *] <;> done)) (by first | rfl | (simp [rWaits, bI] <;> done) | (simp [rWaits, bI, *] <;> done))
      · refine k_iconst (v := 1) d_R_waitsFor_49 (by decide) ?_
        refine k_goto d_R_waitsFor_50 ?_
        exact k_zret d_R_waitsFor_54 rfl (by first | rfl | exact nb_bI _) (by first | rfl | (simp [rWaits, bI] <;> done) | (simp [rWaits, bI, *] <;> done)) (by first | rfl | (simp [rWaits, bI] <;> done) | (simp [rWaits, bI, *] <;> done))
    · refine k_aload_n d_R_waitsFor_19 rfl ?_
      refine k_getr (t := 13) d_R_waitsFor_20 f_R_47 (by decide) rfl (by decide) (by decide) rfl ?_
      refine k_iload_n d_R_waitsFor_23 rfl ?_
      refine k_ialdN (n := 8) d_R_waitsFor_24 (by decide) rfl rfl (by first | assumption | omega) (by decide) ?_
      refine k_iconst (v := 3) d_R_waitsFor_25 (by decide) ?_
      refine k_icmp_eq d_R_waitsFor_26 (fun h26 => ?_) (fun h26 => ?_)
      · refine k_aload_n d_R_waitsFor_39 rfl ?_
        refine k_getr (t := 14) d_R_waitsFor_40 f_R_50 (by decide) rfl (by decide) (by decide) rfl ?_
        refine k_iload_n d_R_waitsFor_43 rfl ?_
        refine k_ialdN (n := 8) d_R_waitsFor_44 (by decide) rfl rfl (by first | assumption | omega) (by decide) ?_
        refine k_iload_n d_R_waitsFor_45 rfl ?_
        refine k_icmp_ne d_R_waitsFor_46 (fun h46 => ?_) (fun h46 => ?_)
        · refine k_iconst (v := 0) d_R_waitsFor_53 (by decide) ?_
          exact k_zret d_R_waitsFor_54 rfl (by first | rfl | exact nb_bI _) (by first | rfl | (simp [rWaits, bI] <;> done) | (simp [rWaits, bI, *] <;> done)) (by first | rfl | (simp [rWaits, bI] <;> done) | (simp [rWaits, bI, *] <;> done))
        · refine k_iconst (v := 1) d_R_waitsFor_49 (by decide) ?_
          refine k_goto d_R_waitsFor_50 ?_
          exact k_zret d_R_waitsFor_54 rfl (by first | rfl | exact nb_bI _) (by first | rfl | (simp [rWaits, bI] <;> done) | (simp [rWaits, bI, *] <;> done)) (by first | rfl | (simp [rWaits, bI] <;> done) | (simp [rWaits, bI, *] <;> done))
      · refine k_aload_n d_R_waitsFor_29 rfl ?_
        refine k_getr (t := 13) d_R_waitsFor_30 f_R_47 (by decide) rfl (by decide) (by decide) rfl ?_
        refine k_iload_n d_R_waitsFor_33 rfl ?_
        refine k_ialdN (n := 8) d_R_waitsFor_34 (by decide) rfl rfl (by first | assumption | omega) (by decide) ?_
        refine k_iconst (v := 4) d_R_waitsFor_35 (by decide) ?_
        refine k_icmp_ne d_R_waitsFor_36 (fun h36 => ?_) (fun h36 => ?_)
        · refine k_iconst (v := 0) d_R_waitsFor_53 (by decide) ?_
          exact k_zret d_R_waitsFor_54 rfl (by first | rfl | exact nb_bI _) (by first | rfl | (simp [rWaits, bI] <;> done) | (simp [rWaits, bI, *] <;> done)) (by first | rfl | (simp [rWaits, bI] <;> done) | (simp [rWaits, bI, *] <;> done))
        · refine k_aload_n d_R_waitsFor_39 rfl ?_
          refine k_getr (t := 14) d_R_waitsFor_40 f_R_50 (by decide) rfl (by decide) (by decide) rfl ?_
          refine k_iload_n d_R_waitsFor_43 rfl ?_
          refine k_ialdN (n := 8) d_R_waitsFor_44 (by decide) rfl rfl (by first | assumption | omega) (by decide) ?_
          refine k_iload_n d_R_waitsFor_45 rfl ?_
          refine k_icmp_ne d_R_waitsFor_46 (fun h46 => ?_) (fun h46 => ?_)
          · refine k_iconst (v := 0) d_R_waitsFor_53 (by decide) ?_
            exact k_zret d_R_waitsFor_54 rfl (by first | rfl | exact nb_bI _) (by first | rfl | (simp [rWaits, bI] <;> done) | (simp [rWaits, bI, *] <;> done)) (by first | rfl | (simp [rWaits, bI] <;> done) | (simp [rWaits, bI, *] <;> done))
          · refine k_iconst (v := 1) d_R_waitsFor_49 (by decide) ?_
            refine k_goto d_R_waitsFor_50 ?_
            exact k_zret d_R_waitsFor_54 rfl (by first | rfl | exact nb_bI _) (by first | rfl | (simp [rWaits, bI] <;> done) | (simp [rWaits, bI, *] <;> done)) (by first | rfl | (simp [rWaits, bI] <;> done) | (simp [rWaits, bI, *] <;> done))

theorem c_R_receive_2 {l : Launch} {D : va_G} {cI cB cT : ClassId} {ad : Nat → Nat} {d : Nat} {u : kSt} {i : Nat} {e n b : Int32} (hi : i < 8) (hI : rInv u) (hb : b = -1 ∨ vp_in b 8) (hw : ¬ b < 0 → u 13 (ix b) = 4 → vp_in (u 3 (ix b)) 8) : KAt (kWl lyR l D cI cB cT ad) m_R_receive (d + 4) 109 [some (.ref 0), some (.int (nI i)), some (.int e), some (.int n), some (.int b), none] [] u (some (.int (rRec2 u i e n b).1)) (rRec2 u i e n b).2 := by
  refine k_iload d_R_receive_109 rfl ?_
  refine k_if_lt d_R_receive_111 (fun h111 => ?_) (fun h111 => ?_)
  · refine k_iload_n d_R_receive_159 rfl ?_
    refine k_if_ne d_R_receive_160 (fun h160 => ?_) (fun h160 => ?_)
    · refine k_aload_n d_R_receive_172 rfl ?_
      refine k_iload_n d_R_receive_173 rfl ?_
      refine k_iconst (v := 2) d_R_receive_174 (by decide) ?_
      refine k_iload_n d_R_receive_175 rfl ?_
      refine k_iload_n d_R_receive_176 rfl ?_
      refine k_virt4v d_R_receive_177 l_R_123 g_R_linger (c_R_linger hi) rcvR (Nat.le_of_ble_eq_true rfl) ?_
      refine k_iconst (v := 1) d_R_receive_180 (by decide) ?_
      exact k_iret d_R_receive_181 rfl (by simp [rRec2, *]) (by simp [rRec2, *])
    · refine k_aload_n d_R_receive_163 rfl ?_
      refine k_getr (t := 9) d_R_receive_164 f_R_35 (by decide) rfl (by decide) (by decide) rfl ?_
      refine k_iload_n d_R_receive_167 rfl ?_
      refine k_iconst (v := 1) d_R_receive_168 (by decide) ?_
      refine k_iastN (n := 8) d_R_receive_169 (by decide) rfl rfl (by first | assumption | omega) (by decide) ?_
      refine k_iconst (v := 2) d_R_receive_170 (by decide) ?_
      exact k_iret d_R_receive_171 rfl (by simp [rRec2, *]) (by simp [rRec2, *])
  · obtain ⟨j, hj, rfl⟩ := vp_in_of (or_ge hb h111) (by decide)
    have hx := ix_nI (n := j) (by omega)
    refine k_aload_n d_R_receive_114 rfl ?_
    refine k_getr (t := 13) d_R_receive_115 f_R_47 (by decide) rfl (by decide) (by decide) rfl ?_
    refine k_iload d_R_receive_118 rfl ?_
    refine k_ialdN (n := 8) d_R_receive_120 (by decide) rfl rfl (by first | assumption | omega) (by decide) ?_
    refine k_iconst (v := 4) d_R_receive_121 (by decide) ?_
    refine k_icmp_ne d_R_receive_122 (fun h122 => ?_) (fun h122 => ?_)
    · refine k_aload_n d_R_receive_134 rfl ?_
      refine k_iload d_R_receive_135 rfl ?_
      refine k_iload_n d_R_receive_137 rfl ?_
      refine k_aload_n d_R_receive_138 rfl ?_
      refine k_getr (t := 13) d_R_receive_139 f_R_47 (by decide) rfl (by decide) (by decide) rfl ?_
      refine k_iload d_R_receive_142 rfl ?_
      refine k_ialdN (n := 8) d_R_receive_144 (by decide) rfl rfl (by first | assumption | omega) (by decide) ?_
      refine k_iconst (v := 3) d_R_receive_145 (by decide) ?_
      refine k_icmp_ne d_R_receive_146 (fun h146 => ?_) (fun h146 => ?_)
      · refine k_iconst (v := 0) d_R_receive_153 (by decide) ?_
        refine k_virt3v d_R_receive_154 l_R_137 g_R_message (c_R_message hj hi hI) rcvR (Nat.le_of_ble_eq_true rfl) ?_
        refine k_iconst (v := 0) d_R_receive_157 (by decide) ?_
        exact k_iret d_R_receive_158 rfl (by simp [rRec2, *]) (by simp [rRec2, *])
      · refine k_iconst (v := 1) d_R_receive_149 (by decide) ?_
        refine k_goto d_R_receive_150 ?_
        refine k_virt3v d_R_receive_154 l_R_137 g_R_message (c_R_message hj hi hI) rcvR (Nat.le_of_ble_eq_true rfl) ?_
        refine k_iconst (v := 0) d_R_receive_157 (by decide) ?_
        exact k_iret d_R_receive_158 rfl (by simp [rRec2, *]) (by simp [rRec2, *])
    · refine k_aload_n d_R_receive_125 rfl ?_
      refine k_iload d_R_receive_126 rfl ?_
      refine k_virt1v d_R_receive_128 l_R_131 g_R_report (c_R_report hj (by have := hw h111 (by rw [hx]; exact h122); rw [hx] at this; exact this)) rcvR (Nat.le_of_ble_eq_true rfl) ?_
      refine k_goto d_R_receive_131 ?_
      refine k_iconst (v := 0) d_R_receive_157 (by decide) ?_
      exact k_iret d_R_receive_158 rfl (by simp [rRec2, *]) (by simp [rRec2, *])
theorem c_R_receive_loop {l : Launch} {D : va_G} {cI cB cT : ClassId} {ad : Nat → Nat} {d : Nat} {u : kSt} {i : Nat} {t e n : Int32} {R : Option Value} {X : kSt} (N : Nat) (hN : N = 8) (hE : KAt (kWl lyR l D cI cB cT ad) m_R_receive (d + 4) 109 [some (.ref 0), some (.int t), some (.int e), some (.int n), some (.int (rBest u t e N)), none] [] u R X) : ∀ (m k : Nat) (b : Int32), k + m = N → b = rBest u t e k → KAt (kWl lyR l D cI cB cT ad) m_R_receive (d + 4) 45 [some (.ref 0), some (.int t), some (.int e), some (.int n), some (.int b), some (.int (nI k))] [] u R X := by
  intro m
  induction m with
  | zero =>
    intro k b hk hb
    subst hb
    obtain rfl : k = N := by omega
    have h0 : ¬ ¬ (8 : Int32) ≤ nI k := by rw [hN]; decide
    refine k_iload d_R_receive_45 rfl ?_
    refine k_bipush (v := 8) d_R_receive_47 (by decide) ?_
    refine k_icmp_ge d_R_receive_49 (fun h49 => ?_) (fun h49 => absurd h49 h0)
    refine k_forget 5 ?_
    exact hE
  | succ m ih =>
    intro k b hk hb
    subst hb
    have hk2 : k < 8 := by omega
    have h0 : ¬ (8 : Int32) ≤ nI k := nI_ge (a := k) (b := 8) hk2 (by decide)
    have hin := rBest_in (v := u) (t := t) (fr := e) k (by omega)
    refine k_iload d_R_receive_45 rfl ?_
    refine k_bipush (v := 8) d_R_receive_47 (by decide) ?_
    refine k_icmp_ge d_R_receive_49 (fun h49 => absurd h49 h0) (fun h49 => ?_)
    refine k_aload_n d_R_receive_52 rfl ?_
    refine k_iload d_R_receive_53 rfl ?_
    refine k_iload_n d_R_receive_55 rfl ?_
    refine k_virt2s d_R_receive_56 l_R_145 g_R_waitsFor (c_R_waitsFor hk2) rcvR (Nat.le_of_ble_eq_true rfl) ?_
    refine k_if_eqB d_R_receive_59 (fun h59 => ?_) (fun h59 => ?_)
    · refine k_incN d_R_receive_103 rfl (by decide) ?_
      refine k_goto d_R_receive_106 ?_
      exact ih (k + 1) _ (by omega) (by simp [rBest, rAsk, *])
    · refine k_iload_n d_R_receive_62 rfl ?_
      refine k_if_lt d_R_receive_63 (fun h63 => ?_) (fun h63 => ?_)
      · refine k_iload d_R_receive_72 rfl ?_
        refine k_if_lt d_R_receive_74 (fun h74 => ?_) (fun h74 => ?_)
        · refine k_iload d_R_receive_94 rfl ?_
          refine k_goto d_R_receive_96 ?_
          refine k_istore d_R_receive_101 (by decide) ?_
          refine k_incN d_R_receive_103 rfl (by decide) ?_
          refine k_goto d_R_receive_106 ?_
          exact ih (k + 1) _ (by omega) (by simp [rBest, rAsk, *])
        · refine k_aload_n d_R_receive_77 rfl ?_
          refine k_getr (t := 16) d_R_receive_78 f_R_56 (by decide) rfl (by decide) (by decide) rfl ?_
          refine k_iload d_R_receive_81 rfl ?_
          refine k_ialdN (n := 8) d_R_receive_83 (by decide) rfl rfl (by first | assumption | omega) (by decide) ?_
          refine k_aload_n d_R_receive_84 rfl ?_
          refine k_getr (t := 16) d_R_receive_85 f_R_56 (by decide) rfl (by decide) (by decide) rfl ?_
          refine k_iload d_R_receive_88 rfl ?_
          refine k_iald d_R_receive_90 (by decide) rfl (or_ge hin h74) ?_
          refine k_icmp_ge d_R_receive_91 (fun h91 => ?_) (fun h91 => ?_)
          · refine k_iload d_R_receive_99 rfl ?_
            refine k_istore d_R_receive_101 (by decide) ?_
            refine k_incN d_R_receive_103 rfl (by decide) ?_
            refine k_goto d_R_receive_106 ?_
            exact ih (k + 1) _ (by omega) (by simp [rBest, rAsk, *])
          · refine k_iload d_R_receive_94 rfl ?_
            refine k_goto d_R_receive_96 ?_
            refine k_istore d_R_receive_101 (by decide) ?_
            refine k_incN d_R_receive_103 rfl (by decide) ?_
            refine k_goto d_R_receive_106 ?_
            exact ih (k + 1) _ (by omega) (by simp [rBest, rAsk, *])
      · refine k_iload d_R_receive_66 rfl ?_
        refine k_iload_n d_R_receive_68 rfl ?_
        refine k_icmp_ne d_R_receive_69 (fun h69 => ?_) (fun h69 => ?_)
        · refine k_incN d_R_receive_103 rfl (by decide) ?_
          refine k_goto d_R_receive_106 ?_
          exact ih (k + 1) _ (by omega) (by simp [rBest, rAsk, *])
        · refine k_iload d_R_receive_72 rfl ?_
          refine k_if_lt d_R_receive_74 (fun h74 => ?_) (fun h74 => ?_)
          · refine k_iload d_R_receive_94 rfl ?_
            refine k_goto d_R_receive_96 ?_
            refine k_istore d_R_receive_101 (by decide) ?_
            refine k_incN d_R_receive_103 rfl (by decide) ?_
            refine k_goto d_R_receive_106 ?_
            exact ih (k + 1) _ (by omega) (by simp [rBest, rAsk, *])
          · refine k_aload_n d_R_receive_77 rfl ?_
            refine k_getr (t := 16) d_R_receive_78 f_R_56 (by decide) rfl (by decide) (by decide) rfl ?_
            refine k_iload d_R_receive_81 rfl ?_
            refine k_ialdN (n := 8) d_R_receive_83 (by decide) rfl rfl (by first | assumption | omega) (by decide) ?_
            refine k_aload_n d_R_receive_84 rfl ?_
            refine k_getr (t := 16) d_R_receive_85 f_R_56 (by decide) rfl (by decide) (by decide) rfl ?_
            refine k_iload d_R_receive_88 rfl ?_
            refine k_iald d_R_receive_90 (by decide) rfl (or_ge hin h74) ?_
            refine k_icmp_ge d_R_receive_91 (fun h91 => ?_) (fun h91 => ?_)
            · refine k_iload d_R_receive_99 rfl ?_
              refine k_istore d_R_receive_101 (by decide) ?_
              refine k_incN d_R_receive_103 rfl (by decide) ?_
              refine k_goto d_R_receive_106 ?_
              exact ih (k + 1) _ (by omega) (by simp [rBest, rAsk, *])
            · refine k_iload d_R_receive_94 rfl ?_
              refine k_goto d_R_receive_96 ?_
              refine k_istore d_R_receive_101 (by decide) ?_
              refine k_incN d_R_receive_103 rfl (by decide) ?_
              refine k_goto d_R_receive_106 ?_
              exact ih (k + 1) _ (by omega) (by simp [rBest, rAsk, *])

set_option maxRecDepth 4000 in
theorem c_R_receive {l : Launch} {D : va_G} {cI cB cT : ClassId} {ad : Nat → Nat} {d : Nat} {u : kSt} {t e n : Int32} (hI : rInv u) (hw : ∀ j, j < 8 → rWaits u j t = true → u 13 j = 4 → vp_in (u 3 j) 8) : KSp (kWl lyR l D cI cB cT ad) y_R_receive m_R_receive (d + 4) [.ref 0, .int t, .int e, .int n] u (some (.int (rReceive u t e n).1)) (rReceive u t e n).2 := by
  refine KSp.of (by decide) rfl (Nat.le_of_ble_eq_true rfl) rfl ?_
  show KAt (kWl lyR l D cI cB cT ad) m_R_receive (d + 4) 0 [some (.ref 0), some (.int t), some (.int e), some (.int n), none, none] [] u (some (.int (rReceive u t e n).1)) (rReceive u t e n).2
  refine k_aload_n d_R_receive_0 rfl ?_
  refine k_iload_n d_R_receive_1 rfl ?_
  refine k_virt1s d_R_receive_2 l_R_102 g_R_running c_R_running rcvR (Nat.le_of_ble_eq_true rfl) ?_
  refine k_if_eqB d_R_receive_5 (fun h5 => ?_) (fun h5 => ?_)
  · refine k_iconst (v := (-1)) d_R_receive_37 (by decide) ?_
    exact k_iret d_R_receive_38 rfl (by simp [rReceive, *]) (by simp [rReceive, *])
  · refine k_iload_n d_R_receive_8 rfl ?_
    refine k_iload_n d_R_receive_9 rfl ?_
    refine k_icmp_eq d_R_receive_10 (fun h10 => ?_) (fun h10 => ?_)
    · refine k_iconst (v := (-1)) d_R_receive_37 (by decide) ?_
      exact k_iret d_R_receive_38 rfl (by simp [rReceive, *]) (by simp [rReceive, *])
    · refine k_iload_n d_R_receive_13 rfl ?_
      refine k_iconst (v := (-1)) d_R_receive_14 (by decide) ?_
      refine k_icmp_eq d_R_receive_15 (fun h15 => ?_) (fun h15 => ?_)
      · refine k_iload_n d_R_receive_26 rfl ?_
        refine k_iconst (v := (-1)) d_R_receive_27 (by decide) ?_
        refine k_icmp_lt d_R_receive_28 (fun h28 => ?_) (fun h28 => ?_)
        · refine k_iconst (v := (-1)) d_R_receive_37 (by decide) ?_
          exact k_iret d_R_receive_38 rfl (by simp [rReceive, *]) (by simp [rReceive, *])
        · refine k_iload_n d_R_receive_31 rfl ?_
          refine k_bipush (v := 100) d_R_receive_32 (by decide) ?_
          refine k_icmp_le d_R_receive_34 (fun h34 => ?_) (fun h34 => ?_)
          · refine k_iconst (v := (-1)) d_R_receive_39 (by decide) ?_
            refine k_istore d_R_receive_40 (by decide) ?_
            refine k_iconst (v := 0) d_R_receive_42 (by decide) ?_
            refine k_istore d_R_receive_43 (by decide) ?_
            have e1 : rReceive u t e n = rRec2 u (ix t) e n (rBest u t e 8) := by rw [rReceive, if_pos h5, if_neg h10, if_neg (by simp [*]), if_neg h28, if_pos h34]
            rw [e1]
            have ht := rRunning_in h5
            have h9 := c_R_receive_2 (l := l) (D := D) (cI := cI) (cB := cB) (cT := cT) (ad := ad) (d := d) (e := e) (n := n) (b := rBest u t e 8) (vin_lt ht) hI (rBest_in 8 (by decide)) (fun hb hs => rBest_w hw 8 (by decide) hb hs)
            rw [← vin_eq ht] at h9
            exact c_R_receive_loop (i := 0) 8 rfl h9 8 0 _ rfl rfl
          · refine k_iconst (v := (-1)) d_R_receive_37 (by decide) ?_
            exact k_iret d_R_receive_38 rfl (by simp [rReceive, *]) (by simp [rReceive, *])
      · refine k_aload_n d_R_receive_18 rfl ?_
        refine k_iload_n d_R_receive_19 rfl ?_
        refine k_virt1s d_R_receive_20 l_R_87 g_R_thread c_R_thread rcvR (Nat.le_of_ble_eq_true rfl) ?_
        refine k_if_eqB d_R_receive_23 (fun h23 => ?_) (fun h23 => ?_)
        · refine k_iconst (v := (-1)) d_R_receive_37 (by decide) ?_
          exact k_iret d_R_receive_38 rfl (by simp [rReceive, *]) (by simp [rReceive, *])
        · refine k_iload_n d_R_receive_26 rfl ?_
          refine k_iconst (v := (-1)) d_R_receive_27 (by decide) ?_
          refine k_icmp_lt d_R_receive_28 (fun h28 => ?_) (fun h28 => ?_)
          · refine k_iconst (v := (-1)) d_R_receive_37 (by decide) ?_
            exact k_iret d_R_receive_38 rfl (by simp [rReceive, *]) (by simp [rReceive, *])
          · refine k_iload_n d_R_receive_31 rfl ?_
            refine k_bipush (v := 100) d_R_receive_32 (by decide) ?_
            refine k_icmp_le d_R_receive_34 (fun h34 => ?_) (fun h34 => ?_)
            · refine k_iconst (v := (-1)) d_R_receive_39 (by decide) ?_
              refine k_istore d_R_receive_40 (by decide) ?_
              refine k_iconst (v := 0) d_R_receive_42 (by decide) ?_
              refine k_istore d_R_receive_43 (by decide) ?_
              have e1 : rReceive u t e n = rRec2 u (ix t) e n (rBest u t e 8) := by rw [rReceive, if_pos h5, if_neg h10, if_neg (by simp [*]), if_neg h28, if_pos h34]
              rw [e1]
              have ht := rRunning_in h5
              have h9 := c_R_receive_2 (l := l) (D := D) (cI := cI) (cB := cB) (cT := cT) (ad := ad) (d := d) (e := e) (n := n) (b := rBest u t e 8) (vin_lt ht) hI (rBest_in 8 (by decide)) (fun hb hs => rBest_w hw 8 (by decide) hb hs)
              rw [← vin_eq ht] at h9
              exact c_R_receive_loop (i := 0) 8 rfl h9 8 0 _ rfl rfl
            · refine k_iconst (v := (-1)) d_R_receive_37 (by decide) ?_
              exact k_iret d_R_receive_38 rfl (by simp [rReceive, *]) (by simp [rReceive, *])

theorem rInv.want {v : kSt} (h : rInv v) {i : Nat} {p a x : Int32} (hp : vp_in p 16) : rInv (rWant v i p a x) := ((h.up (rOk_17 hp)).up (rOk_any (by decide))).up (rOk_any (by decide))
theorem c_R_access_2 {l : Launch} {D : va_G} {cI cB cT : ClassId} {ad : Nat → Nat} {d : Nat} {u : kSt} {i : Nat} {p a x : Int32} (hi : i < 8) (hI : rInv u) : KAt (kWl lyR l D cI cB cT ad) m_R_access (d + 3) 42 [some (.ref 0), some (.int (nI i)), some (.int p), some (.int a), some (.int x)] [] u (some (.int (rAcc2 u i).1)) (rAcc2 u i).2 := by
  refine k_aload_n d_R_access_42 rfl ?_
  refine k_iload_n d_R_access_43 rfl ?_
  refine k_virt1v d_R_access_44 l_R_127 g_R_attempt (c_R_attempt hi hI) rcvR (Nat.le_of_ble_eq_true rfl) ?_
  refine k_aload_n d_R_access_47 rfl ?_
  refine k_getr (t := 13) d_R_access_48 f_R_47 (by decide) rfl (by decide) (by decide) rfl ?_
  refine k_iload_n d_R_access_51 rfl ?_
  refine k_ialdN (n := 8) d_R_access_52 (by decide) rfl rfl (by first | assumption | omega) (by decide) ?_
  refine k_if_ne d_R_access_53 (fun h53 => ?_) (fun h53 => ?_)
  · refine k_aload_n d_R_access_60 rfl ?_
    refine k_getr (t := 13) d_R_access_61 f_R_47 (by decide) rfl (by decide) (by decide) rfl ?_
    refine k_iload_n d_R_access_64 rfl ?_
    refine k_ialdN (n := 8) d_R_access_65 (by decide) rfl rfl (by first | assumption | omega) (by decide) ?_
    refine k_bipush (v := 6) d_R_access_66 (by decide) ?_
    refine k_icmp_ne d_R_access_68 (fun h68 => ?_) (fun h68 => ?_)
    · refine k_iconst (v := 1) d_R_access_75 (by decide) ?_
      exact k_iret d_R_access_76 rfl (by first | rfl | (simp [rAcc2] <;> done) | (simp [rAcc2, *] <;> done)) (by first | rfl | (simp [rAcc2] <;> done) | (simp [rAcc2, *] <;> done))
    · refine k_iconst (v := 2) d_R_access_71 (by decide) ?_
      refine k_goto d_R_access_72 ?_
      exact k_iret d_R_access_76 rfl (by first | rfl | (simp [rAcc2] <;> done) | (simp [rAcc2, *] <;> done)) (by first | rfl | (simp [rAcc2] <;> done) | (simp [rAcc2, *] <;> done))
  · refine k_iconst (v := 0) d_R_access_56 (by decide) ?_
    refine k_goto d_R_access_57 ?_
    exact k_iret d_R_access_76 rfl (by first | rfl | (simp [rAcc2] <;> done) | (simp [rAcc2, *] <;> done)) (by first | rfl | (simp [rAcc2] <;> done) | (simp [rAcc2, *] <;> done))

set_option maxRecDepth 4000 in
theorem c_R_access {l : Launch} {D : va_G} {cI cB cT : ClassId} {ad : Nat → Nat} {d : Nat} {u : kSt} {t p a x : Int32} (hI : rInv u) (ha : a = 0 ∨ a = 1) : KSp (kWl lyR l D cI cB cT ad) y_R_access m_R_access (d + 3) [.ref 0, .int t, .int p, .int a, .int x] u (some (.int (rAccess u t p a x).1)) (rAccess u t p a x).2 := by
  refine KSp.of (by decide) rfl (Nat.le_of_ble_eq_true rfl) rfl ?_
  show KAt (kWl lyR l D cI cB cT ad) m_R_access (d + 3) 0 [some (.ref 0), some (.int t), some (.int p), some (.int a), some (.int x)] [] u (some (.int (rAccess u t p a x).1)) (rAccess u t p a x).2
  refine k_aload_n d_R_access_0 rfl ?_
  refine k_iload_n d_R_access_1 rfl ?_
  refine k_virt1s d_R_access_2 l_R_102 g_R_running c_R_running rcvR (Nat.le_of_ble_eq_true rfl) ?_
  refine k_if_eqB d_R_access_5 (fun h5 => ?_) (fun h5 => ?_)
  · refine k_iconst (v := (-1)) d_R_access_18 (by decide) ?_
    exact k_iret d_R_access_19 rfl (by simp [rAccess, *]) (by simp [rAccess, *])
  · refine k_iload_n d_R_access_8 rfl ?_
    refine k_if_lt d_R_access_9 (fun h9 => ?_) (fun h9 => ?_)
    · refine k_iconst (v := (-1)) d_R_access_18 (by decide) ?_
      exact k_iret d_R_access_19 rfl (by simp [rAccess, *]) (by simp [rAccess, *])
    · refine k_iload_n d_R_access_12 rfl ?_
      refine k_bipush (v := 15) d_R_access_13 (by decide) ?_
      refine k_icmp_le d_R_access_15 (fun h15 => ?_) (fun h15 => ?_)
      · refine k_aload_n d_R_access_20 rfl ?_
        refine k_getr (t := 17) d_R_access_21 f_R_59 (by decide) rfl (by decide) (by decide) rfl ?_
        refine k_iload_n d_R_access_24 rfl ?_
        refine k_iload_n d_R_access_25 rfl ?_
        refine k_iast d_R_access_26 (by decide) rfl (rRunning_in h5) ?_
        refine k_aload_n d_R_access_27 rfl ?_
        refine k_getr (t := 18) d_R_access_28 f_R_62 (by decide) rfl (by decide) (by decide) rfl ?_
        refine k_iload_n d_R_access_31 rfl ?_
        refine k_iload_n d_R_access_32 rfl ?_
        refine k_bast d_R_access_33 (by decide) rfl (rRunning_in h5) (by rcases ha with rfl | rfl <;> rfl) ?_
        refine k_aload_n d_R_access_34 rfl ?_
        refine k_getr (t := 19) d_R_access_35 f_R_65 (by decide) rfl (by decide) (by decide) rfl ?_
        refine k_iload_n d_R_access_38 rfl ?_
        refine k_iload d_R_access_39 rfl ?_
        refine k_iast d_R_access_41 (by decide) rfl (rRunning_in h5) ?_
        have hp : vp_in p 16 := vin_le (m := 15) h9 (Int32.not_lt.mpr h15)
        have e1 : rAccess u t p a x = rAcc2 (rWant u (ix t) p a x) (ix t) := by simp [rAccess, *]
        rw [e1]
        have ht := rRunning_in h5
        have h9 := c_R_access_2 (l := l) (D := D) (cI := cI) (cB := cB) (cT := cT) (ad := ad) (d := d) (p := p) (a := a) (x := x) (vin_lt ht) (hI.want (i := ix t) (a := a) (x := x) hp)
        rw [← vin_eq ht] at h9
        exact h9
      · refine k_iconst (v := (-1)) d_R_access_18 (by decide) ?_
        exact k_iret d_R_access_19 rfl (by simp [rAccess, *]) (by simp [rAccess, *])

theorem rInv.soft {v : kSt} (h : rInv v) {z a : Int32} : ∀ n, rInv (rSoft v z a n)
  | 0 => h
  | n + 1 => by
    unfold rSoft
    split
    · exact (rInv.soft h n).up (rOk_any (by decide))
    · exact rInv.soft h n
theorem c_R_unmap_loop {l : Launch} {D : va_G} {cI cB cT : ClassId} {ad : Nat → Nat} {d : Nat} {u : kSt} {k : Nat} {t p m a : Int32} (hk : k < 96) (hI : rInv u) (N : Nat) (hN : N = 96) : ∀ (n j : Nat) (b : Int32) (y : kSt), j + n = N → b = rSoftN u (nI k) a j → y = rSoft u (nI k) a j → KAt (kWl lyR l D cI cB cT ad) m_R_unmap (d + 2) 111 [some (.ref 0), some (.int t), some (.int p), some (.int m), some (.int a), some (.int (nI k)), some (.int b), some (.int (nI j))] [] y (some (.int (rSoftN u (nI k) a N))) (rSoft u (nI k) a N) := by
  intro n
  induction n with
  | zero =>
    intro j b y hj hb hy
    subst hb
    subst hy
    obtain rfl : j = N := by omega
    have h0 : ¬ ¬ (96 : Int32) ≤ nI j := by rw [hN]; decide
    refine k_iload d_R_unmap_111 rfl ?_
    refine k_bipush (v := 96) d_R_unmap_113 (by decide) ?_
    refine k_icmp_ge d_R_unmap_115 (fun h115 => ?_) (fun h115 => absurd h115 h0)
    refine k_iload d_R_unmap_179 rfl ?_
    exact k_iret d_R_unmap_181 rfl (by first | rfl | (simp [bI] <;> done) | (simp [bI, *] <;> done)) (by first | rfl | (simp [bI] <;> done) | (simp [bI, *] <;> done))
  | succ n ih =>
    intro j b y hj hb hy
    subst hb
    subst hy
    have hj2 : j < 96 := by omega
    have h0 : ¬ (96 : Int32) ≤ nI j := nI_ge (a := j) (b := 96) hj2 (by decide)
    refine k_iload d_R_unmap_111 rfl ?_
    refine k_bipush (v := 96) d_R_unmap_113 (by decide) ?_
    refine k_icmp_ge d_R_unmap_115 (fun h115 => absurd h115 h0) (fun h115 => ?_)
    refine k_aload_n d_R_unmap_118 rfl ?_
    refine k_getr (t := 20) d_R_unmap_119 f_R_68 (by decide) rfl (by decide) (by decide) rfl ?_
    refine k_iload d_R_unmap_122 rfl ?_
    refine k_ialdN (n := 96) d_R_unmap_124 (by decide) rfl rfl (by first | assumption | omega) (by decide) ?_
    refine k_if_lt d_R_unmap_125 (fun h125 => ?_) (fun h125 => ?_)
    · refine k_incN d_R_unmap_173 rfl (by decide) ?_
      refine k_goto d_R_unmap_176 ?_
      try subst h152
      exact ih (j + 1) _ _ (by omega) (by simp [rSoftN, rSoftB, *]) (by simp [rSoft, rSoftB, *])
    · refine k_aload_n d_R_unmap_128 rfl ?_
      refine k_getr (t := 21) d_R_unmap_129 f_R_71 (by decide) rfl (by decide) (by decide) rfl ?_
      refine k_iload d_R_unmap_132 rfl ?_
      refine k_ialdN (n := 96) d_R_unmap_134 (by decide) rfl rfl (by first | assumption | omega) (by decide) ?_
      refine k_iconst (v := 2) d_R_unmap_135 (by decide) ?_
      refine k_icmp_ne d_R_unmap_136 (fun h136 => ?_) (fun h136 => ?_)
      · refine k_incN d_R_unmap_173 rfl (by decide) ?_
        refine k_goto d_R_unmap_176 ?_
        try subst h152
        exact ih (j + 1) _ _ (by omega) (by simp [rSoftN, rSoftB, *]) (by simp [rSoft, rSoftB, *])
      · refine k_aload_n d_R_unmap_139 rfl ?_
        refine k_iload d_R_unmap_140 rfl ?_
        refine k_iload d_R_unmap_142 rfl ?_
        refine k_virt2s d_R_unmap_144 l_R_105 g_R_descends (c_R_descends hj2 (hI.soft j)) rcvR (Nat.le_of_ble_eq_true rfl) ?_
        refine k_if_neB d_R_unmap_147 (fun h147 => ?_) (fun h147 => ?_)
        · refine k_aload_n d_R_unmap_162 rfl ?_
          refine k_getr (t := 21) d_R_unmap_163 f_R_71 (by decide) rfl (by decide) (by decide) rfl ?_
          refine k_iload d_R_unmap_166 rfl ?_
          refine k_iconst (v := 1) d_R_unmap_168 (by decide) ?_
          refine k_iastN (n := 96) d_R_unmap_169 (by decide) rfl rfl (by first | assumption | omega) (by decide) ?_
          refine k_inc1 d_R_unmap_170 rfl (by decide) ?_
          refine k_incN d_R_unmap_173 rfl (by decide) ?_
          refine k_goto d_R_unmap_176 ?_
          try subst h152
          exact ih (j + 1) _ _ (by omega) (by simp [rSoftN, rSoftB, *]) (by simp [rSoft, rSoftB, *])
        · refine k_iload d_R_unmap_150 rfl ?_
          refine k_if_eq d_R_unmap_152 (fun h152 => ?_) (fun h152 => ?_)
          · refine k_incN d_R_unmap_173 rfl (by decide) ?_
            refine k_goto d_R_unmap_176 ?_
            try subst h152
            exact ih (j + 1) _ _ (by omega) (by simp [rSoftN, rSoftB, *]) (by simp [rSoft, rSoftB, *])
          · refine k_iload d_R_unmap_155 rfl ?_
            refine k_iload d_R_unmap_157 rfl ?_
            refine k_icmp_ne d_R_unmap_159 (fun h159 => ?_) (fun h159 => ?_)
            · refine k_incN d_R_unmap_173 rfl (by decide) ?_
              refine k_goto d_R_unmap_176 ?_
              try subst h152
              exact ih (j + 1) _ _ (by omega) (by simp [rSoftN, rSoftB, *]) (by simp [rSoft, rSoftB, *])
            · refine k_aload_n d_R_unmap_162 rfl ?_
              refine k_getr (t := 21) d_R_unmap_163 f_R_71 (by decide) rfl (by decide) (by decide) rfl ?_
              refine k_iload d_R_unmap_166 rfl ?_
              refine k_iconst (v := 1) d_R_unmap_168 (by decide) ?_
              refine k_iastN (n := 96) d_R_unmap_169 (by decide) rfl rfl (by first | assumption | omega) (by decide) ?_
              refine k_inc1 d_R_unmap_170 rfl (by decide) ?_
              refine k_incN d_R_unmap_173 rfl (by decide) ?_
              refine k_goto d_R_unmap_176 ?_
              try subst h152
              exact ih (j + 1) _ _ (by omega) (by simp [rSoftN, rSoftB, *]) (by simp [rSoft, rSoftB, *])
theorem c_R_unmap_2 {l : Launch} {D : va_G} {cI cB cT : ClassId} {ad : Nat → Nat} {d : Nat} {u : kSt} {k : Nat} {t p m a : Int32} (hk : k < 96) (hI : rInv u) : KAt (kWl lyR l D cI cB cT ad) m_R_unmap (d + 2) 43 [some (.ref 0), some (.int t), some (.int p), some (.int m), some (.int a), some (.int (nI k)), none, none] [] u (some (.int (rUnm u k m a).1)) (rUnm u k m a).2 := by
  refine k_aload_n d_R_unmap_43 rfl ?_
  refine k_getr (t := 20) d_R_unmap_44 f_R_68 (by decide) rfl (by decide) (by decide) rfl ?_
  refine k_iload d_R_unmap_47 rfl ?_
  refine k_ialdN (n := 96) d_R_unmap_49 (by decide) rfl rfl (by first | assumption | omega) (by decide) ?_
  refine k_if_ge d_R_unmap_50 (fun h50 => ?_) (fun h50 => ?_)
  · refine k_iconst (v := 0) d_R_unmap_55 (by decide) ?_
    refine k_istore d_R_unmap_56 (by decide) ?_
    refine k_iload_n d_R_unmap_58 rfl ?_
    refine k_iconst (v := 1) d_R_unmap_59 (by decide) ?_
    refine k_icmp_ne d_R_unmap_60 (fun h60 => ?_) (fun h60 => ?_)
    · refine k_iconst (v := 0) d_R_unmap_108 (by decide) ?_
      refine k_istore d_R_unmap_109 (by decide) ?_
      exact (c_R_unmap_loop hk hI 96 rfl 96 0 _ _ rfl rfl rfl).to (by simp [rUnm, *]) (by simp [rUnm, *])
    · refine k_aload_n d_R_unmap_63 rfl ?_
      refine k_iload d_R_unmap_64 rfl ?_
      refine k_virt1s d_R_unmap_66 l_R_109 g_R_removeBelow (c_R_removeBelow hI) rcvR (Nat.le_of_ble_eq_true rfl) ?_
      refine k_iload d_R_unmap_69 rfl ?_
      refine k_if_eq d_R_unmap_71 (fun h71 => ?_) (fun h71 => ?_)
      · refine k_iconst (v := 0) d_R_unmap_78 (by decide) ?_
        refine k_iadd d_R_unmap_79 ?_
        refine k_istore d_R_unmap_80 (by decide) ?_
        refine k_aload_n d_R_unmap_82 rfl ?_
        refine k_getr (t := 20) d_R_unmap_83 f_R_68 (by decide) rfl (by decide) (by decide) rfl ?_
        refine k_iload d_R_unmap_86 rfl ?_
        refine k_iload d_R_unmap_88 rfl ?_
        refine k_if_eq d_R_unmap_90 (fun h90 => ?_) (fun h90 => ?_)
        · refine k_aload_n d_R_unmap_97 rfl ?_
          refine k_getr (t := 20) d_R_unmap_98 f_R_68 (by decide) rfl (by decide) (by decide) rfl ?_
          refine k_iload d_R_unmap_101 rfl ?_
          refine k_ialdN (n := 96) d_R_unmap_103 (by decide) rfl rfl (by first | assumption | omega) (by decide) ?_
          refine k_iastN (n := 96) d_R_unmap_104 (by decide) rfl rfl (by first | assumption | omega) (by decide) ?_
          refine k_iload d_R_unmap_105 rfl ?_
          exact k_iret d_R_unmap_107 rfl (by first | exact absurd h71 h90 | exact absurd h90 h71 | simp [rUnm, *]) (by first | exact absurd h71 h90 | exact absurd h90 h71 | simp [rUnm, *])
        · refine k_iconst (v := (-1)) d_R_unmap_93 (by decide) ?_
          refine k_goto d_R_unmap_94 ?_
          refine k_iastN (n := 96) d_R_unmap_104 (by decide) rfl rfl (by first | assumption | omega) (by decide) ?_
          refine k_iload d_R_unmap_105 rfl ?_
          exact k_iret d_R_unmap_107 rfl (by first | exact absurd h71 h90 | exact absurd h90 h71 | simp [rUnm, *]) (by first | exact absurd h71 h90 | exact absurd h90 h71 | simp [rUnm, *])
      · refine k_iconst (v := 1) d_R_unmap_74 (by decide) ?_
        refine k_goto d_R_unmap_75 ?_
        refine k_iadd d_R_unmap_79 ?_
        refine k_istore d_R_unmap_80 (by decide) ?_
        refine k_aload_n d_R_unmap_82 rfl ?_
        refine k_getr (t := 20) d_R_unmap_83 f_R_68 (by decide) rfl (by decide) (by decide) rfl ?_
        refine k_iload d_R_unmap_86 rfl ?_
        refine k_iload d_R_unmap_88 rfl ?_
        refine k_if_eq d_R_unmap_90 (fun h90 => ?_) (fun h90 => ?_)
        · refine k_aload_n d_R_unmap_97 rfl ?_
          refine k_getr (t := 20) d_R_unmap_98 f_R_68 (by decide) rfl (by decide) (by decide) rfl ?_
          refine k_iload d_R_unmap_101 rfl ?_
          refine k_ialdN (n := 96) d_R_unmap_103 (by decide) rfl rfl (by first | assumption | omega) (by decide) ?_
          refine k_iastN (n := 96) d_R_unmap_104 (by decide) rfl rfl (by first | assumption | omega) (by decide) ?_
          refine k_iload d_R_unmap_105 rfl ?_
          exact k_iret d_R_unmap_107 rfl (by first | exact absurd h71 h90 | exact absurd h90 h71 | simp [rUnm, *]) (by first | exact absurd h71 h90 | exact absurd h90 h71 | simp [rUnm, *])
        · refine k_iconst (v := (-1)) d_R_unmap_93 (by decide) ?_
          refine k_goto d_R_unmap_94 ?_
          refine k_iastN (n := 96) d_R_unmap_104 (by decide) rfl rfl (by first | assumption | omega) (by decide) ?_
          refine k_iload d_R_unmap_105 rfl ?_
          exact k_iret d_R_unmap_107 rfl (by first | exact absurd h71 h90 | exact absurd h90 h71 | simp [rUnm, *]) (by first | exact absurd h71 h90 | exact absurd h90 h71 | simp [rUnm, *])
  · refine k_iconst (v := 0) d_R_unmap_53 (by decide) ?_
    exact k_iret d_R_unmap_54 rfl (by simp [rUnm, *]) (by simp [rUnm, *])

set_option maxRecDepth 4000 in
theorem c_R_unmap {l : Launch} {D : va_G} {cI cB cT : ClassId} {ad : Nat → Nat} {d : Nat} {u : kSt} {t p m a : Int32} (hI : rInv u) : KSp (kWl lyR l D cI cB cT ad) y_R_unmap m_R_unmap (d + 2) [.ref 0, .int t, .int p, .int m, .int a] u (some (.int (rUnmap u t p m a).1)) (rUnmap u t p m a).2 := by
  refine KSp.of (by decide) rfl (Nat.le_of_ble_eq_true rfl) rfl ?_
  show KAt (kWl lyR l D cI cB cT ad) m_R_unmap (d + 2) 0 [some (.ref 0), some (.int t), some (.int p), some (.int m), some (.int a), none, none, none] [] u (some (.int (rUnmap u t p m a).1)) (rUnmap u t p m a).2
  refine k_aload_n d_R_unmap_0 rfl ?_
  refine k_iload_n d_R_unmap_1 rfl ?_
  refine k_virt1s d_R_unmap_2 l_R_102 g_R_running c_R_running rcvR (Nat.le_of_ble_eq_true rfl) ?_
  refine k_if_eqB d_R_unmap_5 (fun h5 => ?_) (fun h5 => ?_)
  · refine k_iconst (v := (-1)) d_R_unmap_28 (by decide) ?_
    exact k_iret d_R_unmap_29 rfl (by simp [rUnmap, *]) (by simp [rUnmap, *])
  · refine k_iload_n d_R_unmap_8 rfl ?_
    refine k_if_lt d_R_unmap_9 (fun h9 => ?_) (fun h9 => ?_)
    · refine k_iconst (v := (-1)) d_R_unmap_28 (by decide) ?_
      exact k_iret d_R_unmap_29 rfl (by simp [rUnmap, *]) (by simp [rUnmap, *])
    · refine k_iload_n d_R_unmap_12 rfl ?_
      refine k_bipush (v := 15) d_R_unmap_13 (by decide) ?_
      refine k_icmp_gt d_R_unmap_15 (fun h15 => ?_) (fun h15 => ?_)
      · refine k_iconst (v := (-1)) d_R_unmap_28 (by decide) ?_
        exact k_iret d_R_unmap_29 rfl (by simp [rUnmap, *]) (by simp [rUnmap, *])
      · refine k_iload_n d_R_unmap_18 rfl ?_
        refine k_iconst (v := 1) d_R_unmap_19 (by decide) ?_
        refine k_icmp_eq d_R_unmap_20 (fun h20 => ?_) (fun h20 => ?_)
        · refine k_bipush (v := 16) d_R_unmap_30 (by decide) ?_
          refine k_aload_n d_R_unmap_32 rfl ?_
          refine k_getr (t := 2) d_R_unmap_33 f_R_13 (by decide) rfl (by decide) (by decide) rfl ?_
          refine k_iload_n d_R_unmap_36 rfl ?_
          refine k_iald d_R_unmap_37 (by decide) rfl (rRunning_in h5) ?_
          refine k_imul d_R_unmap_38 ?_
          refine k_iload_n d_R_unmap_39 rfl ?_
          refine k_iadd d_R_unmap_40 ?_
          refine k_istore d_R_unmap_41 (by decide) ?_
          have ht := rRunning_in h5
          have hs := rsl_eq (hI.space (vin_lt ht)) (vin_le (m := 15) h9 h15)
          have e1 : rUnmap u t p m a = rUnm u (rsl (u 2 (ix t)) p) m a := by rw [rUnmap, if_pos h5, if_neg h9, if_neg h15, if_neg (by simp [*])]
          rw [e1, hs.1]
          exact c_R_unmap_2 hs.2 hI
        · refine k_iload_n d_R_unmap_23 rfl ?_
          refine k_iconst (v := 2) d_R_unmap_24 (by decide) ?_
          refine k_icmp_eq d_R_unmap_25 (fun h25 => ?_) (fun h25 => ?_)
          · refine k_bipush (v := 16) d_R_unmap_30 (by decide) ?_
            refine k_aload_n d_R_unmap_32 rfl ?_
            refine k_getr (t := 2) d_R_unmap_33 f_R_13 (by decide) rfl (by decide) (by decide) rfl ?_
            refine k_iload_n d_R_unmap_36 rfl ?_
            refine k_iald d_R_unmap_37 (by decide) rfl (rRunning_in h5) ?_
            refine k_imul d_R_unmap_38 ?_
            refine k_iload_n d_R_unmap_39 rfl ?_
            refine k_iadd d_R_unmap_40 ?_
            refine k_istore d_R_unmap_41 (by decide) ?_
            have ht := rRunning_in h5
            have hs := rsl_eq (hI.space (vin_lt ht)) (vin_le (m := 15) h9 h15)
            have e1 : rUnmap u t p m a = rUnm u (rsl (u 2 (ix t)) p) m a := by rw [rUnmap, if_pos h5, if_neg h9, if_neg h15, if_neg (by simp [*])]
            rw [e1, hs.1]
            exact c_R_unmap_2 hs.2 hI
          · refine k_iconst (v := (-1)) d_R_unmap_28 (by decide) ?_
            exact k_iret d_R_unmap_29 rfl (by simp [rUnmap, *]) (by simp [rUnmap, *])

theorem c_R_tick_loop {l : Launch} {D : va_G} {cI cB cT : ClassId} {ad : Nat → Nat} {d : Nat} {u : kSt} (N : Nat) (hN : N = 8) : ∀ (n k : Nat) (a : Int32) (y : kSt), k + n = N → a = rTickN u k → y = rTickS u k → KAt (kWl lyR l D cI cB cT ad) m_R_tick (d + 1) 14 [some (.ref 0), some (.int a), some (.int (nI k)), none] [] y (some (.int (rTickN u N))) (rTickS u N) := by
  intro n
  induction n with
  | zero =>
    intro k a y hk ha hy
    subst ha
    subst hy
    obtain rfl : k = N := by omega
    have h0 : ¬ ¬ (8 : Int32) ≤ nI k := by rw [hN]; decide
    refine k_iload_n d_R_tick_14 rfl ?_
    refine k_bipush (v := 8) d_R_tick_15 (by decide) ?_
    refine k_icmp_ge d_R_tick_17 (fun h17 => ?_) (fun h17 => absurd h17 h0)
    refine k_iload_n d_R_tick_106 rfl ?_
    exact k_iret d_R_tick_107 rfl (by first | rfl | (simp [bI] <;> done) | (simp [bI, *] <;> done)) (by first | rfl | (simp [bI] <;> done) | (simp [bI, *] <;> done))
  | succ n ih =>
    intro k a y hk ha hy
    subst ha
    subst hy
    have hk2 : k < 8 := by omega
    have h0 : ¬ (8 : Int32) ≤ nI k := nI_ge (a := k) (b := 8) hk2 (by decide)
    refine k_iload_n d_R_tick_14 rfl ?_
    refine k_bipush (v := 8) d_R_tick_15 (by decide) ?_
    refine k_icmp_ge d_R_tick_17 (fun h17 => absurd h17 h0) (fun h17 => ?_)
    refine k_aload_n d_R_tick_20 rfl ?_
    refine k_getr (t := 1) d_R_tick_21 f_R_7 (by decide) rfl (by decide) (by decide) rfl ?_
    refine k_iload_n d_R_tick_24 rfl ?_
    refine k_baldN (n := 8) d_R_tick_25 (by decide) rfl rfl (by first | assumption | omega) (by decide) ?_
    refine k_if_eq d_R_tick_26 (fun h26 => ?_) (fun h26 => ?_)
    · refine k_iconst (v := 0) d_R_tick_63 (by decide) ?_
      refine k_istore_n d_R_tick_64 (by decide) ?_
      refine k_iload_n d_R_tick_65 rfl ?_
      refine k_if_eq d_R_tick_66 (fun _ => ?_) (fun h => absurd h (by decide))
      refine k_incN d_R_tick_100 rfl (by decide) ?_
      refine k_goto d_R_tick_103 ?_
      refine k_forget 3 ?_
      exact ih (k + 1) _ _ (by omega) (by simp [rTickN, rTickB, *]) (by simp [rTickS, rTickB, *])
    · refine k_aload_n d_R_tick_29 rfl ?_
      refine k_getr (t := 13) d_R_tick_30 f_R_47 (by decide) rfl (by decide) (by decide) rfl ?_
      refine k_iload_n d_R_tick_33 rfl ?_
      refine k_ialdN (n := 8) d_R_tick_34 (by decide) rfl rfl (by first | assumption | omega) (by decide) ?_
      refine k_iconst (v := 1) d_R_tick_35 (by decide) ?_
      refine k_icmp_eq d_R_tick_36 (fun h36 => ?_) (fun h36 => ?_)
      · refine k_iconst (v := 1) d_R_tick_59 (by decide) ?_
        refine k_goto d_R_tick_60 ?_
        refine k_istore_n d_R_tick_64 (by decide) ?_
        refine k_iload_n d_R_tick_65 rfl ?_
        refine k_if_eq d_R_tick_66 (fun h => absurd h (by decide)) (fun _ => ?_)
        refine k_aload_n d_R_tick_69 rfl ?_
        refine k_getr (t := 15) d_R_tick_70 f_R_53 (by decide) rfl (by decide) (by decide) rfl ?_
        refine k_iload_n d_R_tick_73 rfl ?_
        refine k_ialdN (n := 8) d_R_tick_74 (by decide) rfl rfl (by first | assumption | omega) (by decide) ?_
        refine k_if_lt d_R_tick_75 (fun h75 => ?_) (fun h75 => ?_)
        · refine k_incN d_R_tick_100 rfl (by decide) ?_
          refine k_goto d_R_tick_103 ?_
          refine k_forget 3 ?_
          exact ih (k + 1) _ _ (by omega) (by simp [rTickN, rTickB, *]) (by simp [rTickS, rTickB, *])
        · refine k_aload_n d_R_tick_78 rfl ?_
          refine k_getr (t := 15) d_R_tick_79 f_R_53 (by decide) rfl (by decide) (by decide) rfl ?_
          refine k_iload_n d_R_tick_82 rfl ?_
          refine k_ialdN (n := 8) d_R_tick_83 (by decide) rfl rfl (by first | assumption | omega) (by decide) ?_
          refine k_aload_n d_R_tick_84 rfl ?_
          refine k_getf d_R_tick_85 f_R_91 (by decide) rfl (by decide) (by decide) rfl ?_
          refine k_icmp_gt d_R_tick_88 (fun h88 => ?_) (fun h88 => ?_)
          · refine k_incN d_R_tick_100 rfl (by decide) ?_
            refine k_goto d_R_tick_103 ?_
            refine k_forget 3 ?_
            exact ih (k + 1) _ _ (by omega) (by simp [rTickN, rTickB, *]) (by simp [rTickS, rTickB, *])
          · refine k_aload_n d_R_tick_91 rfl ?_
            refine k_iload_n d_R_tick_92 rfl ?_
            refine k_iconst (v := 1) d_R_tick_93 (by decide) ?_
            refine k_virt2v d_R_tick_94 l_R_98 g_R_run (c_R_run hk2) rcvR (Nat.le_of_ble_eq_true rfl) ?_
            refine k_inc1 d_R_tick_97 rfl (by decide) ?_
            refine k_incN d_R_tick_100 rfl (by decide) ?_
            refine k_goto d_R_tick_103 ?_
            refine k_forget 3 ?_
            exact ih (k + 1) _ _ (by omega) (by simp [rTickN, rTickB, *]) (by simp [rTickS, rTickB, *])
      · refine k_aload_n d_R_tick_39 rfl ?_
        refine k_getr (t := 13) d_R_tick_40 f_R_47 (by decide) rfl (by decide) (by decide) rfl ?_
        refine k_iload_n d_R_tick_43 rfl ?_
        refine k_ialdN (n := 8) d_R_tick_44 (by decide) rfl rfl (by first | assumption | omega) (by decide) ?_
        refine k_iconst (v := 3) d_R_tick_45 (by decide) ?_
        refine k_icmp_eq d_R_tick_46 (fun h46 => ?_) (fun h46 => ?_)
        · refine k_iconst (v := 1) d_R_tick_59 (by decide) ?_
          refine k_goto d_R_tick_60 ?_
          refine k_istore_n d_R_tick_64 (by decide) ?_
          refine k_iload_n d_R_tick_65 rfl ?_
          refine k_if_eq d_R_tick_66 (fun h => absurd h (by decide)) (fun _ => ?_)
          refine k_aload_n d_R_tick_69 rfl ?_
          refine k_getr (t := 15) d_R_tick_70 f_R_53 (by decide) rfl (by decide) (by decide) rfl ?_
          refine k_iload_n d_R_tick_73 rfl ?_
          refine k_ialdN (n := 8) d_R_tick_74 (by decide) rfl rfl (by first | assumption | omega) (by decide) ?_
          refine k_if_lt d_R_tick_75 (fun h75 => ?_) (fun h75 => ?_)
          · refine k_incN d_R_tick_100 rfl (by decide) ?_
            refine k_goto d_R_tick_103 ?_
            refine k_forget 3 ?_
            exact ih (k + 1) _ _ (by omega) (by simp [rTickN, rTickB, *]) (by simp [rTickS, rTickB, *])
          · refine k_aload_n d_R_tick_78 rfl ?_
            refine k_getr (t := 15) d_R_tick_79 f_R_53 (by decide) rfl (by decide) (by decide) rfl ?_
            refine k_iload_n d_R_tick_82 rfl ?_
            refine k_ialdN (n := 8) d_R_tick_83 (by decide) rfl rfl (by first | assumption | omega) (by decide) ?_
            refine k_aload_n d_R_tick_84 rfl ?_
            refine k_getf d_R_tick_85 f_R_91 (by decide) rfl (by decide) (by decide) rfl ?_
            refine k_icmp_gt d_R_tick_88 (fun h88 => ?_) (fun h88 => ?_)
            · refine k_incN d_R_tick_100 rfl (by decide) ?_
              refine k_goto d_R_tick_103 ?_
              refine k_forget 3 ?_
              exact ih (k + 1) _ _ (by omega) (by simp [rTickN, rTickB, *]) (by simp [rTickS, rTickB, *])
            · refine k_aload_n d_R_tick_91 rfl ?_
              refine k_iload_n d_R_tick_92 rfl ?_
              refine k_iconst (v := 1) d_R_tick_93 (by decide) ?_
              refine k_virt2v d_R_tick_94 l_R_98 g_R_run (c_R_run hk2) rcvR (Nat.le_of_ble_eq_true rfl) ?_
              refine k_inc1 d_R_tick_97 rfl (by decide) ?_
              refine k_incN d_R_tick_100 rfl (by decide) ?_
              refine k_goto d_R_tick_103 ?_
              refine k_forget 3 ?_
              exact ih (k + 1) _ _ (by omega) (by simp [rTickN, rTickB, *]) (by simp [rTickS, rTickB, *])
        · refine k_aload_n d_R_tick_49 rfl ?_
          refine k_getr (t := 13) d_R_tick_50 f_R_47 (by decide) rfl (by decide) (by decide) rfl ?_
          refine k_iload_n d_R_tick_53 rfl ?_
          refine k_ialdN (n := 8) d_R_tick_54 (by decide) rfl rfl (by first | assumption | omega) (by decide) ?_
          refine k_iconst (v := 2) d_R_tick_55 (by decide) ?_
          refine k_icmp_ne d_R_tick_56 (fun h56 => ?_) (fun h56 => ?_)
          · refine k_iconst (v := 0) d_R_tick_63 (by decide) ?_
            refine k_istore_n d_R_tick_64 (by decide) ?_
            refine k_iload_n d_R_tick_65 rfl ?_
            refine k_if_eq d_R_tick_66 (fun _ => ?_) (fun h => absurd h (by decide))
            refine k_incN d_R_tick_100 rfl (by decide) ?_
            refine k_goto d_R_tick_103 ?_
            refine k_forget 3 ?_
            exact ih (k + 1) _ _ (by omega) (by simp [rTickN, rTickB, *]) (by simp [rTickS, rTickB, *])
          · refine k_iconst (v := 1) d_R_tick_59 (by decide) ?_
            refine k_goto d_R_tick_60 ?_
            refine k_istore_n d_R_tick_64 (by decide) ?_
            refine k_iload_n d_R_tick_65 rfl ?_
            refine k_if_eq d_R_tick_66 (fun h => absurd h (by decide)) (fun _ => ?_)
            refine k_aload_n d_R_tick_69 rfl ?_
            refine k_getr (t := 15) d_R_tick_70 f_R_53 (by decide) rfl (by decide) (by decide) rfl ?_
            refine k_iload_n d_R_tick_73 rfl ?_
            refine k_ialdN (n := 8) d_R_tick_74 (by decide) rfl rfl (by first | assumption | omega) (by decide) ?_
            refine k_if_lt d_R_tick_75 (fun h75 => ?_) (fun h75 => ?_)
            · refine k_incN d_R_tick_100 rfl (by decide) ?_
              refine k_goto d_R_tick_103 ?_
              refine k_forget 3 ?_
              exact ih (k + 1) _ _ (by omega) (by simp [rTickN, rTickB, *]) (by simp [rTickS, rTickB, *])
            · refine k_aload_n d_R_tick_78 rfl ?_
              refine k_getr (t := 15) d_R_tick_79 f_R_53 (by decide) rfl (by decide) (by decide) rfl ?_
              refine k_iload_n d_R_tick_82 rfl ?_
              refine k_ialdN (n := 8) d_R_tick_83 (by decide) rfl rfl (by first | assumption | omega) (by decide) ?_
              refine k_aload_n d_R_tick_84 rfl ?_
              refine k_getf d_R_tick_85 f_R_91 (by decide) rfl (by decide) (by decide) rfl ?_
              refine k_icmp_gt d_R_tick_88 (fun h88 => ?_) (fun h88 => ?_)
              · refine k_incN d_R_tick_100 rfl (by decide) ?_
                refine k_goto d_R_tick_103 ?_
                refine k_forget 3 ?_
                exact ih (k + 1) _ _ (by omega) (by simp [rTickN, rTickB, *]) (by simp [rTickS, rTickB, *])
              · refine k_aload_n d_R_tick_91 rfl ?_
                refine k_iload_n d_R_tick_92 rfl ?_
                refine k_iconst (v := 1) d_R_tick_93 (by decide) ?_
                refine k_virt2v d_R_tick_94 l_R_98 g_R_run (c_R_run hk2) rcvR (Nat.le_of_ble_eq_true rfl) ?_
                refine k_inc1 d_R_tick_97 rfl (by decide) ?_
                refine k_incN d_R_tick_100 rfl (by decide) ?_
                refine k_goto d_R_tick_103 ?_
                refine k_forget 3 ?_
                exact ih (k + 1) _ _ (by omega) (by simp [rTickN, rTickB, *]) (by simp [rTickS, rTickB, *])

set_option maxRecDepth 4000 in
theorem c_R_tick {l : Launch} {D : va_G} {cI cB cT : ClassId} {ad : Nat → Nat} {d : Nat} {u : kSt}  : KSp (kWl lyR l D cI cB cT ad) y_R_tick m_R_tick (d + 1) [.ref 0] u (some (.int (rTick u).1)) (rTick u).2 := by
  refine KSp.of (by decide) rfl (Nat.le_of_ble_eq_true rfl) rfl ?_
  show KAt (kWl lyR l D cI cB cT ad) m_R_tick (d + 1) 0 [some (.ref 0), none, none, none] [] u (some (.int (rTick u).1)) (rTick u).2
  refine k_aload_n d_R_tick_0 rfl ?_
  refine k_dup d_R_tick_1 rfl ?_
  refine k_getf d_R_tick_2 f_R_91 (by decide) rfl (by decide) (by decide) rfl ?_
  refine k_iconst (v := 1) d_R_tick_5 (by decide) ?_
  refine k_iadd d_R_tick_6 ?_
  refine k_putf d_R_tick_7 p_R_91 (by decide) rfl (by decide) (by decide) rfl rfl rfl ?_
  refine k_iconst (v := 0) d_R_tick_10 (by decide) ?_
  refine k_istore_n d_R_tick_11 (by decide) ?_
  refine k_iconst (v := 0) d_R_tick_12 (by decide) ?_
  refine k_istore_n d_R_tick_13 (by decide) ?_
  exact (c_R_tick_loop (u := kup u 0 0 (u 0 0 + 1)) 8 rfl 8 0 _ _ rfl rfl rfl).to (by simp only [rTick]) (by simp only [rTick])

set_option maxRecDepth 4000 in
theorem c_R_state {l : Launch} {D : va_G} {cI cB cT : ClassId} {ad : Nat → Nat} {d : Nat} {u : kSt} {t : Int32} : KSp (kWl lyR l D cI cB cT ad) y_R_state m_R_state (d + 1) [.ref 0, .int t] u (some (.int (rState u t))) u := by
  refine KSp.of (by decide) rfl (Nat.le_of_ble_eq_true rfl) rfl ?_
  show KAt (kWl lyR l D cI cB cT ad) m_R_state (d + 1) 0 [some (.ref 0), some (.int t)] [] u (some (.int (rState u t))) u
  refine k_aload_n d_R_state_0 rfl ?_
  refine k_iload_n d_R_state_1 rfl ?_
  refine k_virt1s d_R_state_2 l_R_87 g_R_thread c_R_thread rcvR (Nat.le_of_ble_eq_true rfl) ?_
  refine k_if_eqB d_R_state_5 (fun h5 => ?_) (fun h5 => ?_)
  · refine k_iconst (v := (-1)) d_R_state_17 (by decide) ?_
    exact k_iret d_R_state_18 rfl (by first | rfl | (simp [rState] <;> done) | (simp [rState, *] <;> done)) (by first | rfl | (simp [rState] <;> done) | (simp [rState, *] <;> done))
  · refine k_aload_n d_R_state_8 rfl ?_
    refine k_getr (t := 13) d_R_state_9 f_R_47 (by decide) rfl (by decide) (by decide) rfl ?_
    refine k_iload_n d_R_state_12 rfl ?_
    refine k_iald d_R_state_13 (by decide) rfl (rThread_in h5) ?_
    refine k_goto d_R_state_14 ?_
    exact k_iret d_R_state_18 rfl (by first | rfl | (simp [rState] <;> done) | (simp [rState, *] <;> done)) (by first | rfl | (simp [rState] <;> done) | (simp [rState, *] <;> done))

set_option maxRecDepth 4000 in
theorem c_R_outcome {l : Launch} {D : va_G} {cI cB cT : ClassId} {ad : Nat → Nat} {d : Nat} {u : kSt} {t : Int32} : KSp (kWl lyR l D cI cB cT ad) y_R_outcome m_R_outcome (d + 1) [.ref 0, .int t] u (some (.int (rOutcome u t))) u := by
  refine KSp.of (by decide) rfl (Nat.le_of_ble_eq_true rfl) rfl ?_
  show KAt (kWl lyR l D cI cB cT ad) m_R_outcome (d + 1) 0 [some (.ref 0), some (.int t)] [] u (some (.int (rOutcome u t))) u
  refine k_aload_n d_R_outcome_0 rfl ?_
  refine k_iload_n d_R_outcome_1 rfl ?_
  refine k_virt1s d_R_outcome_2 l_R_87 g_R_thread c_R_thread rcvR (Nat.le_of_ble_eq_true rfl) ?_
  refine k_if_eqB d_R_outcome_5 (fun h5 => ?_) (fun h5 => ?_)
  · refine k_iconst (v := (-1)) d_R_outcome_17 (by decide) ?_
    exact k_iret d_R_outcome_18 rfl (by first | rfl | (simp [rOutcome] <;> done) | (simp [rOutcome, *] <;> done)) (by first | rfl | (simp [rOutcome] <;> done) | (simp [rOutcome, *] <;> done))
  · refine k_aload_n d_R_outcome_8 rfl ?_
    refine k_getr (t := 9) d_R_outcome_9 f_R_35 (by decide) rfl (by decide) (by decide) rfl ?_
    refine k_iload_n d_R_outcome_12 rfl ?_
    refine k_iald d_R_outcome_13 (by decide) rfl (rThread_in h5) ?_
    refine k_goto d_R_outcome_14 ?_
    exact k_iret d_R_outcome_18 rfl (by first | rfl | (simp [rOutcome] <;> done) | (simp [rOutcome, *] <;> done)) (by first | rfl | (simp [rOutcome] <;> done) | (simp [rOutcome, *] <;> done))

set_option maxRecDepth 4000 in
theorem c_R_value {l : Launch} {D : va_G} {cI cB cT : ClassId} {ad : Nat → Nat} {d : Nat} {u : kSt} {t : Int32} : KSp (kWl lyR l D cI cB cT ad) y_R_value m_R_value (d + 1) [.ref 0, .int t] u (some (.int (rValue u t))) u := by
  refine KSp.of (by decide) rfl (Nat.le_of_ble_eq_true rfl) rfl ?_
  show KAt (kWl lyR l D cI cB cT ad) m_R_value (d + 1) 0 [some (.ref 0), some (.int t)] [] u (some (.int (rValue u t))) u
  refine k_aload_n d_R_value_0 rfl ?_
  refine k_iload_n d_R_value_1 rfl ?_
  refine k_virt1s d_R_value_2 l_R_87 g_R_thread c_R_thread rcvR (Nat.le_of_ble_eq_true rfl) ?_
  refine k_if_eqB d_R_value_5 (fun h5 => ?_) (fun h5 => ?_)
  · refine k_iconst (v := 0) d_R_value_17 (by decide) ?_
    exact k_iret d_R_value_18 rfl (by first | rfl | (simp [rValue] <;> done) | (simp [rValue, *] <;> done)) (by first | rfl | (simp [rValue] <;> done) | (simp [rValue, *] <;> done))
  · refine k_aload_n d_R_value_8 rfl ?_
    refine k_getr (t := 11) d_R_value_9 f_R_41 (by decide) rfl (by decide) (by decide) rfl ?_
    refine k_iload_n d_R_value_12 rfl ?_
    refine k_iald d_R_value_13 (by decide) rfl (rThread_in h5) ?_
    refine k_goto d_R_value_14 ?_
    exact k_iret d_R_value_18 rfl (by first | rfl | (simp [rValue] <;> done) | (simp [rValue, *] <;> done)) (by first | rfl | (simp [rValue] <;> done) | (simp [rValue, *] <;> done))

set_option maxRecDepth 4000 in
theorem c_R_sender {l : Launch} {D : va_G} {cI cB cT : ClassId} {ad : Nat → Nat} {d : Nat} {u : kSt} {t : Int32} : KSp (kWl lyR l D cI cB cT ad) y_R_sender m_R_sender (d + 1) [.ref 0, .int t] u (some (.int (rSender u t))) u := by
  refine KSp.of (by decide) rfl (Nat.le_of_ble_eq_true rfl) rfl ?_
  show KAt (kWl lyR l D cI cB cT ad) m_R_sender (d + 1) 0 [some (.ref 0), some (.int t)] [] u (some (.int (rSender u t))) u
  refine k_aload_n d_R_sender_0 rfl ?_
  refine k_iload_n d_R_sender_1 rfl ?_
  refine k_virt1s d_R_sender_2 l_R_87 g_R_thread c_R_thread rcvR (Nat.le_of_ble_eq_true rfl) ?_
  refine k_if_eqB d_R_sender_5 (fun h5 => ?_) (fun h5 => ?_)
  · refine k_iconst (v := (-1)) d_R_sender_17 (by decide) ?_
    exact k_iret d_R_sender_18 rfl (by first | rfl | (simp [rSender] <;> done) | (simp [rSender, *] <;> done)) (by first | rfl | (simp [rSender] <;> done) | (simp [rSender, *] <;> done))
  · refine k_aload_n d_R_sender_8 rfl ?_
    refine k_getr (t := 10) d_R_sender_9 f_R_38 (by decide) rfl (by decide) (by decide) rfl ?_
    refine k_iload_n d_R_sender_12 rfl ?_
    refine k_iald d_R_sender_13 (by decide) rfl (rThread_in h5) ?_
    refine k_goto d_R_sender_14 ?_
    exact k_iret d_R_sender_18 rfl (by first | rfl | (simp [rSender] <;> done) | (simp [rSender, *] <;> done)) (by first | rfl | (simp [rSender] <;> done) | (simp [rSender, *] <;> done))

set_option maxRecDepth 4000 in
theorem c_R_register {l : Launch} {D : va_G} {cI cB cT : ClassId} {ad : Nat → Nat} {d : Nat} {u : kSt} {t k : Int32} : KSp (kWl lyR l D cI cB cT ad) y_R_register m_R_register (d + 1) [.ref 0, .int t, .int k] u (some (.int (rRegister u t k))) u := by
  refine KSp.of (by decide) rfl (Nat.le_of_ble_eq_true rfl) rfl ?_
  show KAt (kWl lyR l D cI cB cT ad) m_R_register (d + 1) 0 [some (.ref 0), some (.int t), some (.int k)] [] u (some (.int (rRegister u t k))) u
  refine k_aload_n d_R_register_0 rfl ?_
  refine k_iload_n d_R_register_1 rfl ?_
  refine k_virt1s d_R_register_2 l_R_87 g_R_thread c_R_thread rcvR (Nat.le_of_ble_eq_true rfl) ?_
  refine k_if_eqB d_R_register_5 (fun h5 => ?_) (fun h5 => ?_)
  · refine k_iconst (v := 0) d_R_register_17 (by decide) ?_
    exact k_iret d_R_register_18 rfl (by first | rfl | (simp [rRegister] <;> done) | (simp [rRegister, *] <;> done)) (by first | rfl | (simp [rRegister] <;> done) | (simp [rRegister, *] <;> done))
  · refine k_iload_n d_R_register_8 rfl ?_
    refine k_if_lt d_R_register_9 (fun h9 => ?_) (fun h9 => ?_)
    · refine k_iconst (v := 0) d_R_register_17 (by decide) ?_
      exact k_iret d_R_register_18 rfl (by first | rfl | (simp [rRegister] <;> done) | (simp [rRegister, *] <;> done)) (by first | rfl | (simp [rRegister] <;> done) | (simp [rRegister, *] <;> done))
    · refine k_iload_n d_R_register_12 rfl ?_
      refine k_iconst (v := 4) d_R_register_13 (by decide) ?_
      refine k_icmp_le d_R_register_14 (fun h14 => ?_) (fun h14 => ?_)
      · refine k_iload_n d_R_register_19 rfl ?_
        refine k_iconst (v := 4) d_R_register_20 (by decide) ?_
        refine k_icmp_ne d_R_register_21 (fun h21 => ?_) (fun h21 => ?_)
        · refine k_aload_n d_R_register_33 rfl ?_
          refine k_getr (t := 4) d_R_register_34 f_R_20 (by decide) rfl (by decide) (by decide) rfl ?_
          refine k_iconst (v := 4) d_R_register_37 (by decide) ?_
          refine k_iload_n d_R_register_38 rfl ?_
          refine k_imul d_R_register_39 ?_
          refine k_iload_n d_R_register_40 rfl ?_
          refine k_iadd d_R_register_41 ?_
          refine k_iald d_R_register_42 (by decide) rfl (rg_in (rThread_in h5) (vin (m := 4) h9 (fun e => h21 (Int32.le_antisymm h14 e)))) ?_
          exact k_iret d_R_register_43 rfl (by first | rfl | (simp [rRegister] <;> done) | (simp [rRegister, *] <;> done)) (by first | rfl | (simp [rRegister] <;> done) | (simp [rRegister, *] <;> done))
        · refine k_aload_n d_R_register_24 rfl ?_
          refine k_getr (t := 12) d_R_register_25 f_R_44 (by decide) rfl (by decide) (by decide) rfl ?_
          refine k_iload_n d_R_register_28 rfl ?_
          refine k_iald d_R_register_29 (by decide) rfl (rThread_in h5) ?_
          refine k_goto d_R_register_30 ?_
          exact k_iret d_R_register_43 rfl (by first | rfl | (simp [rRegister] <;> done) | (simp [rRegister, *] <;> done)) (by first | rfl | (simp [rRegister] <;> done) | (simp [rRegister, *] <;> done))
      · refine k_iconst (v := 0) d_R_register_17 (by decide) ?_
        exact k_iret d_R_register_18 rfl (by first | rfl | (simp [rRegister] <;> done) | (simp [rRegister, *] <;> done)) (by first | rfl | (simp [rRegister] <;> done) | (simp [rRegister, *] <;> done))

set_option maxRecDepth 4000 in
theorem c_R_word {l : Launch} {D : va_G} {cI cB cT : ClassId} {ad : Nat → Nat} {d : Nat} {u : kSt} {n : Int32} : KSp (kWl lyR l D cI cB cT ad) y_R_word m_R_word d [.ref 0, .int n] u (some (.int (rWord u n))) u := by
  refine KSp.of (by decide) rfl (Nat.le_of_ble_eq_true rfl) rfl ?_
  show KAt (kWl lyR l D cI cB cT ad) m_R_word d 0 [some (.ref 0), some (.int n)] [] u (some (.int (rWord u n))) u
  refine k_iload_n d_R_word_0 rfl ?_
  refine k_if_lt d_R_word_1 (fun h1 => ?_) (fun h1 => ?_)
  · refine k_iconst (v := 0) d_R_word_10 (by decide) ?_
    refine k_goto d_R_word_11 ?_
    exact k_iret d_R_word_20 rfl (by first | rfl | (simp [rWord] <;> done) | (simp [rWord, *] <;> done)) (by first | rfl | (simp [rWord] <;> done) | (simp [rWord, *] <;> done))
  · refine k_iload_n d_R_word_4 rfl ?_
    refine k_bipush (v := 15) d_R_word_5 (by decide) ?_
    refine k_icmp_le d_R_word_7 (fun h7 => ?_) (fun h7 => ?_)
    · refine k_aload_n d_R_word_14 rfl ?_
      refine k_getr (t := 24) d_R_word_15 f_R_80 (by decide) rfl (by decide) (by decide) rfl ?_
      refine k_iload_n d_R_word_18 rfl ?_
      refine k_iald d_R_word_19 (by decide) rfl (vin_le (m := 15) h1 (Int32.not_lt.mpr h7)) ?_
      exact k_iret d_R_word_20 rfl (by first | rfl | (simp [rWord] <;> done) | (simp [rWord, *] <;> done)) (by first | rfl | (simp [rWord] <;> done) | (simp [rWord, *] <;> done))
    · refine k_iconst (v := 0) d_R_word_10 (by decide) ?_
      refine k_goto d_R_word_11 ?_
      exact k_iret d_R_word_20 rfl (by first | rfl | (simp [rWord] <;> done) | (simp [rWord, *] <;> done)) (by first | rfl | (simp [rWord] <;> done) | (simp [rWord, *] <;> done))

set_option maxRecDepth 4000 in
theorem c_R_place {l : Launch} {D : va_G} {cI cB cT : ClassId} {ad : Nat → Nat} {d : Nat} {u : kSt} {a p : Int32} : KSp (kWl lyR l D cI cB cT ad) y_R_place m_R_place d [.ref 0, .int a, .int p] u (some (.int (rPlace u a p))) u := by
  refine KSp.of (by decide) rfl (Nat.le_of_ble_eq_true rfl) rfl ?_
  show KAt (kWl lyR l D cI cB cT ad) m_R_place d 0 [some (.ref 0), some (.int a), some (.int p)] [] u (some (.int (rPlace u a p))) u
  refine k_iload_n d_R_place_0 rfl ?_
  refine k_if_lt d_R_place_1 (fun h1 => ?_) (fun h1 => ?_)
  · refine k_iconst (v := (-1)) d_R_place_33 (by decide) ?_
    refine k_goto d_R_place_34 ?_
    exact k_iret d_R_place_43 rfl (by simp [rPlace, rsl, *]) rfl
  · refine k_iload_n d_R_place_4 rfl ?_
    refine k_iconst (v := 5) d_R_place_5 (by decide) ?_
    refine k_icmp_gt d_R_place_6 (fun h6 => ?_) (fun h6 => ?_)
    · refine k_iconst (v := (-1)) d_R_place_33 (by decide) ?_
      refine k_goto d_R_place_34 ?_
      exact k_iret d_R_place_43 rfl (by simp [rPlace, rsl, *]) rfl
    · refine k_iload_n d_R_place_9 rfl ?_
      refine k_if_lt d_R_place_10 (fun h10 => ?_) (fun h10 => ?_)
      · refine k_iconst (v := (-1)) d_R_place_33 (by decide) ?_
        refine k_goto d_R_place_34 ?_
        exact k_iret d_R_place_43 rfl (by simp [rPlace, rsl, *]) rfl
      · refine k_iload_n d_R_place_13 rfl ?_
        refine k_bipush (v := 15) d_R_place_14 (by decide) ?_
        refine k_icmp_gt d_R_place_16 (fun h16 => ?_) (fun h16 => ?_)
        · refine k_iconst (v := (-1)) d_R_place_33 (by decide) ?_
          refine k_goto d_R_place_34 ?_
          exact k_iret d_R_place_43 rfl (by simp [rPlace, rsl, *]) rfl
        · refine k_aload_n d_R_place_19 rfl ?_
          refine k_getr (t := 20) d_R_place_20 f_R_68 (by decide) rfl (by decide) (by decide) rfl ?_
          refine k_bipush (v := 16) d_R_place_23 (by decide) ?_
          refine k_iload_n d_R_place_25 rfl ?_
          refine k_imul d_R_place_26 ?_
          refine k_iload_n d_R_place_27 rfl ?_
          refine k_iadd d_R_place_28 ?_
          refine k_iald d_R_place_29 (by decide) rfl (by rw [(rsl_eq (vin_le (m := 5) h1 h6) (vin_le (m := 15) h10 h16)).1]; exact vin_n (rsl_eq (vin_le (m := 5) h1 h6) (vin_le (m := 15) h10 h16)).2) ?_
          refine k_if_ge d_R_place_30 (fun h30 => ?_) (fun h30 => ?_)
          · refine k_bipush (v := 16) d_R_place_37 (by decide) ?_
            refine k_iload_n d_R_place_39 rfl ?_
            refine k_imul d_R_place_40 ?_
            refine k_iload_n d_R_place_41 rfl ?_
            refine k_iadd d_R_place_42 ?_
            exact k_iret d_R_place_43 rfl (by simp [rPlace, rsl, *]) rfl
          · refine k_iconst (v := (-1)) d_R_place_33 (by decide) ?_
            refine k_goto d_R_place_34 ?_
            exact k_iret d_R_place_43 rfl (by simp [rPlace, rsl, *]) rfl

theorem rPlace_in {v : kSt} {a p : Int32} : rPlace v a p = -1 ∨ vp_in (rPlace v a p) 96 := by
  unfold rPlace
  split
  · exact Or.inl rfl
  · split
    · exact Or.inl rfl
    · split
      · exact Or.inl rfl
      · split
        · exact Or.inl rfl
        · split
          · rename_i h1 h2 h3 h4 h5
            have h := rsl_eq (vin_le (m := 5) h1 h2) (vin_le (m := 15) h3 h4)
            rw [h.1]
            exact Or.inr (vin_n h.2)
          · exact Or.inl rfl
set_option maxRecDepth 4000 in
theorem c_R_mapping {l : Launch} {D : va_G} {cI cB cT : ClassId} {ad : Nat → Nat} {d : Nat} {u : kSt} {a p : Int32} : KSp (kWl lyR l D cI cB cT ad) y_R_mapping m_R_mapping (d + 1) [.ref 0, .int a, .int p] u (some (.int (rMapping u a p))) u := by
  refine KSp.of (by decide) rfl (Nat.le_of_ble_eq_true rfl) rfl ?_
  show KAt (kWl lyR l D cI cB cT ad) m_R_mapping (d + 1) 0 [some (.ref 0), some (.int a), some (.int p), none] [] u (some (.int (rMapping u a p))) u
  refine k_aload_n d_R_mapping_0 rfl ?_
  refine k_iload_n d_R_mapping_1 rfl ?_
  refine k_iload_n d_R_mapping_2 rfl ?_
  refine k_virt2s d_R_mapping_3 l_R_148 g_R_place c_R_place rcvR (Nat.le_of_ble_eq_true rfl) ?_
  refine k_istore_n d_R_mapping_6 (by decide) ?_
  refine k_iload_n d_R_mapping_7 rfl ?_
  refine k_if_ge d_R_mapping_8 (fun h8 => ?_) (fun h8 => ?_)
  · refine k_sipush (v := 1000) d_R_mapping_15 (by decide) ?_
    refine k_aload_n d_R_mapping_18 rfl ?_
    refine k_getr (t := 22) d_R_mapping_19 f_R_74 (by decide) rfl (by decide) (by decide) rfl ?_
    refine k_iload_n d_R_mapping_22 rfl ?_
    refine k_iald d_R_mapping_23 (by decide) rfl (or_ge' rPlace_in h8) ?_
    refine k_imul d_R_mapping_24 ?_
    refine k_bipush (v := 10) d_R_mapping_25 (by decide) ?_
    refine k_aload_n d_R_mapping_27 rfl ?_
    refine k_getr (t := 20) d_R_mapping_28 f_R_68 (by decide) rfl (by decide) (by decide) rfl ?_
    refine k_iload_n d_R_mapping_31 rfl ?_
    refine k_iald d_R_mapping_32 (by decide) rfl (or_ge' rPlace_in h8) ?_
    refine k_imul d_R_mapping_33 ?_
    refine k_iadd d_R_mapping_34 ?_
    refine k_aload_n d_R_mapping_35 rfl ?_
    refine k_getr (t := 21) d_R_mapping_36 f_R_71 (by decide) rfl (by decide) (by decide) rfl ?_
    refine k_iload_n d_R_mapping_39 rfl ?_
    refine k_iald d_R_mapping_40 (by decide) rfl (or_ge' rPlace_in h8) ?_
    refine k_iadd d_R_mapping_41 ?_
    exact k_iret d_R_mapping_42 rfl (by first | rfl | (simp [rMapping] <;> done) | (simp [rMapping, *] <;> done)) (by first | rfl | (simp [rMapping] <;> done) | (simp [rMapping, *] <;> done))
  · refine k_iconst (v := (-1)) d_R_mapping_11 (by decide) ?_
    refine k_goto d_R_mapping_12 ?_
    exact k_iret d_R_mapping_42 rfl (by first | rfl | (simp [rMapping] <;> done) | (simp [rMapping, *] <;> done)) (by first | rfl | (simp [rMapping] <;> done) | (simp [rMapping, *] <;> done))

set_option maxRecDepth 4000 in
theorem c_R_heirs {l : Launch} {D : va_G} {cI cB cT : ClassId} {ad : Nat → Nat} {d : Nat} {u : kSt} {a p : Int32} (hI : rInv u) : KSp (kWl lyR l D cI cB cT ad) y_R_heirs m_R_heirs (d + 2) [.ref 0, .int a, .int p] u (some (.int (rHeirs u a p))) u := by
  refine KSp.of (by decide) rfl (Nat.le_of_ble_eq_true rfl) rfl ?_
  show KAt (kWl lyR l D cI cB cT ad) m_R_heirs (d + 2) 0 [some (.ref 0), some (.int a), some (.int p), none] [] u (some (.int (rHeirs u a p))) u
  refine k_aload_n d_R_heirs_0 rfl ?_
  refine k_iload_n d_R_heirs_1 rfl ?_
  refine k_iload_n d_R_heirs_2 rfl ?_
  refine k_virt2s d_R_heirs_3 l_R_148 g_R_place c_R_place rcvR (Nat.le_of_ble_eq_true rfl) ?_
  refine k_istore_n d_R_heirs_6 (by decide) ?_
  refine k_iload_n d_R_heirs_7 rfl ?_
  refine k_if_ge d_R_heirs_8 (fun h8 => ?_) (fun h8 => ?_)
  · refine k_aload_n d_R_heirs_15 rfl ?_
    refine k_iload_n d_R_heirs_16 rfl ?_
    refine k_virt1s d_R_heirs_17 l_R_152 g_R_descendants (c_R_descendants hI) rcvR (Nat.le_of_ble_eq_true rfl) ?_
    exact k_iret d_R_heirs_20 rfl (by first | rfl | (simp [rHeirs] <;> done) | (simp [rHeirs, *] <;> done)) (by first | rfl | (simp [rHeirs] <;> done) | (simp [rHeirs, *] <;> done))
  · refine k_iconst (v := (-1)) d_R_heirs_11 (by decide) ?_
    refine k_goto d_R_heirs_12 ?_
    exact k_iret d_R_heirs_20 rfl (by first | rfl | (simp [rHeirs] <;> done) | (simp [rHeirs, *] <;> done)) (by first | rfl | (simp [rHeirs] <;> done) | (simp [rHeirs, *] <;> done))

theorem c_R_waiting_loop {l : Launch} {D : va_G} {cI cB cT : ClassId} {ad : Nat → Nat} {d : Nat} {u : kSt} {t : Int32} (N : Nat) (hN : N = 8) : ∀ (n k : Nat) (a : Int32), k + n = N → a = rWaitCount u t k → KAt (kWl lyR l D cI cB cT ad) m_R_waiting (d + 1) 14 [some (.ref 0), some (.int t), some (.int a), some (.int (nI k))] [] u (some (.int (rWaitCount u t N))) u := by
  intro n
  induction n with
  | zero =>
    intro k a hk ha
    subst ha
    obtain rfl : k = N := by omega
    have h0 : ¬ ¬ (8 : Int32) ≤ nI k := by rw [hN]; decide
    refine k_iload_n d_R_waiting_14 rfl ?_
    refine k_bipush (v := 8) d_R_waiting_15 (by decide) ?_
    refine k_icmp_ge d_R_waiting_17 (fun h17 => ?_) (fun h17 => absurd h17 h0)
    refine k_iload_n d_R_waiting_43 rfl ?_
    exact k_iret d_R_waiting_44 rfl (by first | rfl | (simp [bI] <;> done) | (simp [bI, *] <;> done)) (by first | rfl | (simp [bI] <;> done) | (simp [bI, *] <;> done))
  | succ n ih =>
    intro k a hk ha
    subst ha
    have hk2 : k < 8 := by omega
    have h0 : ¬ (8 : Int32) ≤ nI k := nI_ge (a := k) (b := 8) hk2 (by decide)
    refine k_iload_n d_R_waiting_14 rfl ?_
    refine k_bipush (v := 8) d_R_waiting_15 (by decide) ?_
    refine k_icmp_ge d_R_waiting_17 (fun h17 => absurd h17 h0) (fun h17 => ?_)
    refine k_iload_n d_R_waiting_20 rfl ?_
    refine k_aload_n d_R_waiting_21 rfl ?_
    refine k_iload_n d_R_waiting_22 rfl ?_
    refine k_iload_n d_R_waiting_23 rfl ?_
    refine k_virt2s d_R_waiting_24 l_R_145 g_R_waitsFor (c_R_waitsFor hk2) rcvR (Nat.le_of_ble_eq_true rfl) ?_
    refine k_if_eqB d_R_waiting_27 (fun h27 => ?_) (fun h27 => ?_)
    · refine k_iconst (v := 0) d_R_waiting_34 (by decide) ?_
      refine k_iadd d_R_waiting_35 ?_
      refine k_istore_n d_R_waiting_36 (by decide) ?_
      refine k_incN d_R_waiting_37 rfl (by decide) ?_
      refine k_goto d_R_waiting_40 ?_
      exact ih (k + 1) _ (by omega) (by simp [rWaitCount, *])
    · refine k_iconst (v := 1) d_R_waiting_30 (by decide) ?_
      refine k_goto d_R_waiting_31 ?_
      refine k_iadd d_R_waiting_35 ?_
      refine k_istore_n d_R_waiting_36 (by decide) ?_
      refine k_incN d_R_waiting_37 rfl (by decide) ?_
      refine k_goto d_R_waiting_40 ?_
      exact ih (k + 1) _ (by omega) (by simp [rWaitCount, *])

set_option maxRecDepth 4000 in
theorem c_R_waiting {l : Launch} {D : va_G} {cI cB cT : ClassId} {ad : Nat → Nat} {d : Nat} {u : kSt} {t : Int32} : KSp (kWl lyR l D cI cB cT ad) y_R_waiting m_R_waiting (d + 1) [.ref 0, .int t] u (some (.int (rWaiting u t))) u := by
  refine KSp.of (by decide) rfl (Nat.le_of_ble_eq_true rfl) rfl ?_
  show KAt (kWl lyR l D cI cB cT ad) m_R_waiting (d + 1) 0 [some (.ref 0), some (.int t), none, none] [] u (some (.int (rWaiting u t))) u
  refine k_aload_n d_R_waiting_0 rfl ?_
  refine k_iload_n d_R_waiting_1 rfl ?_
  refine k_virt1s d_R_waiting_2 l_R_87 g_R_thread c_R_thread rcvR (Nat.le_of_ble_eq_true rfl) ?_
  refine k_if_neB d_R_waiting_5 (fun h5 => ?_) (fun h5 => ?_)
  · refine k_iconst (v := 0) d_R_waiting_10 (by decide) ?_
    refine k_istore_n d_R_waiting_11 (by decide) ?_
    refine k_iconst (v := 0) d_R_waiting_12 (by decide) ?_
    refine k_istore_n d_R_waiting_13 (by decide) ?_
    exact (c_R_waiting_loop 8 rfl 8 0 _ rfl rfl).to (by simp [rWaiting, *]) rfl
  · refine k_iconst (v := (-1)) d_R_waiting_8 (by decide) ?_
    exact k_iret d_R_waiting_9 rfl (by simp [rWaiting, *]) rfl

end KRB
