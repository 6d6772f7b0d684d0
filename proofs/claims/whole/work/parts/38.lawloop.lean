section KLL
variable {p : Program} {e : Env} {s : State} {m : MethodId} {below : List Frame} {meth : Method} {c : Code} {l : Launch} {D : va_G} {cI cB cT : ClassId} {ad1 ad2 : Nat → Nat} {b : Nat} {L : Nat} {xs : Nat → Int32}
variable {u v : kSt} {k : Nat}
theorem lc_sw (h : LOk p e s m below meth c l D cI cB cT ad1 ad2 b L xs) (hk : 5 * k + 5 ≤ L) (hL : L ≤ 2560) (hR : Rel (20 * k + 1) k v u) (hE : ∀ u' v', Rel (20 * (k + 1) + 1) (k + 1) v' u' → LA p e s m below meth c l D cI cB cT ad1 ad2 b 846 (nI (5 * k)) [] u' v') {x : Int32} {j : Nat} (hj : j < 32) (hx : x = nI j) : LA p e s m below meth c l D cI cB cT ad1 ad2 b 32 (nI (5 * k)) [.int x] u v := by
  subst hx
  by_cases hj2 : j < 20
  · have hz : ¬ (nI j).toInt < 0 := by rw [nI_toInt (by omega)]; omega
    have hz2 : ¬ 19 < (nI j).toInt := by rw [nI_toInt (by omega)]; omega
    match j, hj2, hz, hz2 with
    | 0, _, hz, hz2 => exact la_swi h hz hz2 (by rfl) (by decide) (lc_0 h hk hL hR hE)
    | 1, _, hz, hz2 => exact la_swi h hz hz2 (by rfl) (by decide) (lc_1 h hk hL hR hE)
    | 2, _, hz, hz2 => exact la_swi h hz hz2 (by rfl) (by decide) (lc_2 h hk hL hR hE)
    | 3, _, hz, hz2 => exact la_swi h hz hz2 (by rfl) (by decide) (lc_3 h hk hL hR hE)
    | 4, _, hz, hz2 => exact la_swi h hz hz2 (by rfl) (by decide) (lc_4 h hk hL hR hE)
    | 5, _, hz, hz2 => exact la_swi h hz hz2 (by rfl) (by decide) (lc_5 h hk hL hR hE)
    | 6, _, hz, hz2 => exact la_swi h hz hz2 (by rfl) (by decide) (lc_6 h hk hL hR hE)
    | 7, _, hz, hz2 => exact la_swi h hz hz2 (by rfl) (by decide) (lc_7 h hk hL hR hE)
    | 8, _, hz, hz2 => exact la_swi h hz hz2 (by rfl) (by decide) (lc_8 h hk hL hR hE)
    | 9, _, hz, hz2 => exact la_swi h hz hz2 (by rfl) (by decide) (lc_9 h hk hL hR hE)
    | 10, _, hz, hz2 => exact la_swi h hz hz2 (by rfl) (by decide) (lc_10 h hk hL hR hE)
    | 11, _, hz, hz2 => exact la_swi h hz hz2 (by rfl) (by decide) (lc_11 h hk hL hR hE)
    | 12, _, hz, hz2 => exact la_swi h hz hz2 (by rfl) (by decide) (lc_12 h hk hL hR hE)
    | 13, _, hz, hz2 => exact la_swi h hz hz2 (by rfl) (by decide) (lc_13 h hk hL hR hE)
    | 14, _, hz, hz2 => exact la_swi h hz hz2 (by rfl) (by decide) (lc_14 h hk hL hR hE)
    | 15, _, hz, hz2 => exact la_swi h hz hz2 (by rfl) (by decide) (lc_15 h hk hL hR hE)
    | 16, _, hz, hz2 => exact la_swi h hz hz2 (by rfl) (by decide) (lc_16 h hk hL hR hE)
    | 17, _, hz, hz2 => exact la_swi h hz hz2 (by rfl) (by decide) (lc_17 h hk hL hR hE)
    | 18, _, hz, hz2 => exact la_swi h hz hz2 (by rfl) (by decide) (lc_18 h hk hL hR hE)
    | 19, _, hz, hz2 => exact la_swi h hz hz2 (by rfl) (by decide) (lc_19 h hk hL hR hE)
    | n + 20, hz9, _, _ => exact absurd hz9 (by omega)
  · exact la_swo h (Or.inr (by rw [nI_toInt (by omega)]; omega)) (hE _ _ (hR.mono (by omega) (by omega)))
/-- the loop of the law -/
theorem lc_loop (h : LOk p e s m below meth c l D cI cB cT ad1 ad2 b L xs) (hL : L ≤ 2560) : ∀ (n k : Nat) (u v : kSt), L < 5 * (k + n) → 5 * k ≤ L → Rel (20 * k + 1) k v u → LA p e s m below meth c l D cI cB cT ad1 ad2 b 18 (nI (5 * k)) [] u v := by
  intro n
  induction n with
  | zero => intro k u v hn hk; omega
  | succ n ih =>
    intro k u v hn hk hR
    have hlt : ∀ {a b : Int32}, a < b ↔ a.toInt < b.toInt := fun {a b} => Int32.lt_iff_toInt_lt
    refine la_i h d_L_law_18 (la_s h d_L_law_19 (la_len h d_L_law_20 (la_c (x := nI 5) h d_L_law_21 (by decide) (la_sub h d_L_law_22 (la_gt h d_L_law_23 (fun _ => ?_) (fun hg => ?_))))))
    · exact la_c (x := 1) h d_L_law_852 (by decide) (la_end h d_L_law_853)
    · have hk5 : 5 * k + 5 ≤ L := by
        rw [hlt, pk_sub_toInt (by omega) (by decide), nI_toInt (by omega)] at hg
        omega
      obtain ⟨j, hj, hx⟩ := pk_andE (xs (5 * k)) (m := 31) 5 (by decide)
      refine la_s h d_L_law_26 (la_i h d_L_law_27 (la_ld h d_L_law_28 (by omega) (by omega) (la_bi (x := 31) h d_L_law_29 (by decide) (la_and h d_L_law_31 ?_))))
      refine lc_sw h hk5 hL hR (fun u' v' hR' => ?_) hj hx
      refine la_inc h d_L_law_846 (la_goto h d_L_law_849 ?_)
      exact ih (k + 1) u' v' (by omega) (by omega) hR'
end KLL
