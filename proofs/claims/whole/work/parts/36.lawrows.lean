section KLW
def LA (p : Program) (e : Env) (s : State) (m : MethodId) (below : List Frame) (meth : Method) (c : Code) (l : Launch) (D : va_G) (cI cB cT : ClassId) (ad1 ad2 : Nat → Nat) (b : Nat) (pc : Nat) (i : Int32) (S : List Value) (u v : kSt) : Prop :=
  ∀ (H : Heap) (locs : List Loc) (ls : Array Slot), kB lyC D cI cB cT ad1 u H → kB lyR D cI cB cT ad2 v H → va_S (fun q => s.heap.size ≤ q) s.heap H locs → lv_has ls 4 [(0, .ref b), (1, .ref (ad1 0)), (2, .ref (ad2 0)), (3, .int i)] →
    W p l e room_1 s m #[Value.ref b] below meth c H locs 49 1203 (lw_Z below #[Value.ref b] s) (F0 m pc ls S)
def LOk (p : Program) (e : Env) (s : State) (m : MethodId) (below : List Frame) (meth : Method) (c : Code) (l : Launch) (D : va_G) (cI cB cT : ClassId) (ad1 ad2 : Nat → Nat) (b : Nat) (L : Nat) (xs : Nat → Int32) : Prop :=
  CallFix p m c code 4 s #[Value.ref b] kWS "PagerKernelLaw" ∧ meth.sig.returnType = ret ∧ meth.locks = false ∧ va_K D kCl (ktys cI cB cT) s ∧ va_X b L xs s s.heap ∧ b < s.heap.size ∧ (∀ k, k < 24 → s.heap.size ≤ ad1 k) ∧ (∀ k, k < 25 → s.heap.size ≤ ad2 k) ∧ ∀ i j, i < 24 → j < 25 → ad1 i ≠ ad2 j
variable {p : Program} {e : Env} {s : State} {m : MethodId} {below : List Frame} {meth : Method} {c : Code} {l : Launch} {D : va_G} {cI cB cT : ClassId} {ad1 ad2 : Nat → Nat} {b : Nat} {L : Nat} {xs : Nat → Int32}
variable {pc q t : Nat} {i : Int32} {S : List Value} {u v : kSt}
theorem la_x (h : LOk p e s m below meth c l D cI cB cT ad1 ad2 b L xs) (hd : kI m_L_law pc (.aload_n 1) 1 q) (k : LA p e s m below meth c l D cI cB cT ad1 ad2 b q i (.ref (ad1 0) :: S) u v) : LA p e s m below meth c l D cI cB cT ad1 ad2 b pc i S u v := by
  intro H locs ls h1 h2 h3 hl
  exact lv_aload_n h.1.1 h.1.2.1 hd.1 rfl (lv_at hl 1 rfl) (by rw [hd.2]; exact k H locs ls h1 h2 h3 hl)
theorem la_m (h : LOk p e s m below meth c l D cI cB cT ad1 ad2 b L xs) (hd : kI m_L_law pc (.aload_n 2) 1 q) (k : LA p e s m below meth c l D cI cB cT ad1 ad2 b q i (.ref (ad2 0) :: S) u v) : LA p e s m below meth c l D cI cB cT ad1 ad2 b pc i S u v := by
  intro H locs ls h1 h2 h3 hl
  exact lv_aload_n h.1.1 h.1.2.1 hd.1 rfl (lv_at hl 2 rfl) (by rw [hd.2]; exact k H locs ls h1 h2 h3 hl)
theorem la_s (h : LOk p e s m below meth c l D cI cB cT ad1 ad2 b L xs) (hd : kI m_L_law pc (.aload_n 0) 1 q) (k : LA p e s m below meth c l D cI cB cT ad1 ad2 b q i (.ref b :: S) u v) : LA p e s m below meth c l D cI cB cT ad1 ad2 b pc i S u v := by
  intro H locs ls h1 h2 h3 hl
  exact lv_aload_n h.1.1 h.1.2.1 hd.1 rfl (lv_at hl 0 rfl) (by rw [hd.2]; exact k H locs ls h1 h2 h3 hl)
theorem la_i (h : LOk p e s m below meth c l D cI cB cT ad1 ad2 b L xs) (hd : kI m_L_law pc (.iload_n 3) 1 q) (k : LA p e s m below meth c l D cI cB cT ad1 ad2 b q i (.int i :: S) u v) : LA p e s m below meth c l D cI cB cT ad1 ad2 b pc i S u v := by
  intro H locs ls h1 h2 h3 hl
  exact lv_iload_n h.1.1 h.1.2.1 hd.1 rfl (lv_at hl 3 rfl) (by rw [hd.2]; exact k H locs ls h1 h2 h3 hl)
theorem la_c {n : Int} {x : Int32} (h : LOk p e s m below meth c l D cI cB cT ad1 ad2 b L xs) (hd : kI m_L_law pc (.iconst n) 1 q) (hv : Int32.ofInt n = x) (k : LA p e s m below meth c l D cI cB cT ad1 ad2 b q i (.int x :: S) u v) : LA p e s m below meth c l D cI cB cT ad1 ad2 b pc i S u v := by
  intro H locs ls h1 h2 h3 hl
  exact lv_iconst h.1.1 h.1.2.1 hd.1 hv (by rw [hd.2]; exact k H locs ls h1 h2 h3 hl)
theorem la_bi {n : Int} {x : Int32} (h : LOk p e s m below meth c l D cI cB cT ad1 ad2 b L xs) (hd : kI m_L_law pc (.bipush n) 2 q) (hv : (Int8.ofInt n).toInt32 = x) (k : LA p e s m below meth c l D cI cB cT ad1 ad2 b q i (.int x :: S) u v) : LA p e s m below meth c l D cI cB cT ad1 ad2 b pc i S u v := by
  intro H locs ls h1 h2 h3 hl
  exact lv_bipush h.1.1 h.1.2.1 hd.1 hv (by rw [hd.2]; exact k H locs ls h1 h2 h3 hl)
theorem la_add {x y : Int32} (h : LOk p e s m below meth c l D cI cB cT ad1 ad2 b L xs) (hd : kI m_L_law pc .iadd 1 q) (k : LA p e s m below meth c l D cI cB cT ad1 ad2 b q i (.int (x + y) :: S) u v) : LA p e s m below meth c l D cI cB cT ad1 ad2 b pc i (.int y :: .int x :: S) u v := by
  intro H locs ls h1 h2 h3 hl
  exact lv_iadd h.1.1 h.1.2.1 hd.1 (by rw [hd.2]; exact k H locs ls h1 h2 h3 hl)
theorem la_sub {x y : Int32} (h : LOk p e s m below meth c l D cI cB cT ad1 ad2 b L xs) (hd : kI m_L_law pc .isub 1 q) (k : LA p e s m below meth c l D cI cB cT ad1 ad2 b q i (.int (x - y) :: S) u v) : LA p e s m below meth c l D cI cB cT ad1 ad2 b pc i (.int y :: .int x :: S) u v := by
  intro H locs ls h1 h2 h3 hl
  exact lv_isub h.1.1 h.1.2.1 hd.1 (by rw [hd.2]; exact k H locs ls h1 h2 h3 hl)
theorem la_and {x y : Int32} (h : LOk p e s m below meth c l D cI cB cT ad1 ad2 b L xs) (hd : kI m_L_law pc .iand 1 q) (k : LA p e s m below meth c l D cI cB cT ad1 ad2 b q i (.int (x &&& y) :: S) u v) : LA p e s m below meth c l D cI cB cT ad1 ad2 b pc i (.int y :: .int x :: S) u v := by
  intro H locs ls h1 h2 h3 hl
  exact lv_iand h.1.1 h.1.2.1 hd.1 (by rw [hd.2]; exact k H locs ls h1 h2 h3 hl)
theorem la_len (h : LOk p e s m below meth c l D cI cB cT ad1 ad2 b L xs) (hd : kI m_L_law pc .arraylength 1 q) (k : LA p e s m below meth c l D cI cB cT ad1 ad2 b q i (.int (nI L) :: S) u v) : LA p e s m below meth c l D cI cB cT ad1 ad2 b pc i (.ref b :: S) u v := by
  intro H locs ls h1 h2 h3 hl
  exact va_slen h.1.1 h.1.2.1 h.2.2.2.2.1 h.2.2.2.2.2.1 (Nat.not_le.mpr h.2.2.2.2.2.1) h3 hd.1 (by rw [hd.2]; exact k H locs ls h1 h2 h3 hl)
theorem la_ld {j : Nat} (h : LOk p e s m below meth c l D cI cB cT ad1 ad2 b L xs) (hd : kI m_L_law pc .iaload 1 q) (hj : j < L) (hL : L < 2 ^ 31) (k : LA p e s m below meth c l D cI cB cT ad1 ad2 b q i (.int (xs j) :: S) u v) : LA p e s m below meth c l D cI cB cT ad1 ad2 b pc i (.int (nI j) :: .ref b :: S) u v := by
  intro H locs ls h1 h2 h3 hl
  refine va_sld h.1.1 h.1.2.1 h.2.2.2.2.1 h.2.2.2.2.2.1 (Nat.not_le.mpr h.2.2.2.2.2.1) h3 (vp_in_nI hj hL) hd.1 ?_
  rw [hd.2, nI_clamp (by omega)]
  exact k H locs ls h1 h2 h3 hl
/-- script[i + k] -/
theorem la_arg {n j q1 q2 q3 q4 q5 : Nat} {k : Int} (h : LOk p e s m below meth c l D cI cB cT ad1 ad2 b L xs) (d0 : kI m_L_law pc (.aload_n 0) 1 q1) (d1 : kI m_L_law q1 (.iload_n 3) 1 q2) (d2 : kI m_L_law q2 (.iconst k) 1 q3) (d3 : kI m_L_law q3 .iadd 1 q4) (d4 : kI m_L_law q4 .iaload 1 q5) (hk : Int32.ofInt k = nI j) (hj : n + j < L) (hL : L < 2 ^ 31) (kk : LA p e s m below meth c l D cI cB cT ad1 ad2 b q5 (nI n) (.int (xs (n + j)) :: S) u v) : LA p e s m below meth c l D cI cB cT ad1 ad2 b pc (nI n) S u v := by
  refine la_s h d0 (la_i h d1 (la_c h d2 hk (la_add h d3 ?_)))
  rw [nI_add]
  exact la_ld h d4 hj hL kk
theorem la_eq {x y : Int32} {off : Int} (h : LOk p e s m below meth c l D cI cB cT ad1 ad2 b L xs) (hd : kJ m_L_law pc (.if_icmp .eq off) off q t) (hxy : x = y) (k : LA p e s m below meth c l D cI cB cT ad1 ad2 b t i S u v) : LA p e s m below meth c l D cI cB cT ad1 ad2 b pc i (.int y :: .int x :: S) u v := by
  intro H locs ls h1 h2 h3 hl
  exact lv_icmp_eq h.1.1 h.1.2.1 hd.1 hd.2.2 (fun _ => k H locs ls h1 h2 h3 hl) (fun z => absurd hxy z)
theorem la_gt {x y : Int32} {off : Int} (h : LOk p e s m below meth c l D cI cB cT ad1 ad2 b L xs) (hd : kJ m_L_law pc (.if_icmp .gt off) off q t) (kt : y < x → LA p e s m below meth c l D cI cB cT ad1 ad2 b t i S u v) (kf : ¬ y < x → LA p e s m below meth c l D cI cB cT ad1 ad2 b q i S u v) : LA p e s m below meth c l D cI cB cT ad1 ad2 b pc i (.int y :: .int x :: S) u v := by
  intro H locs ls h1 h2 h3 hl
  exact lv_icmp_gt h.1.1 h.1.2.1 hd.1 hd.2.2 (fun z => kt z H locs ls h1 h2 h3 hl) (fun z => by rw [hd.2.1]; exact kf z H locs ls h1 h2 h3 hl)
theorem la_z {x : Int32} {off : Int} (h : LOk p e s m below meth c l D cI cB cT ad1 ad2 b L xs) (hd : kJ m_L_law pc (.ifCond .eq off) off q t) (hx : x = 0) (k : LA p e s m below meth c l D cI cB cT ad1 ad2 b t i S u v) : LA p e s m below meth c l D cI cB cT ad1 ad2 b pc i (.int x :: S) u v := by
  intro H locs ls h1 h2 h3 hl
  exact lv_if_eq h.1.1 h.1.2.1 hd.1 hd.2.2 (fun _ => k H locs ls h1 h2 h3 hl) (fun z => absurd hx z)
theorem la_nz {x : Int32} {off : Int} (h : LOk p e s m below meth c l D cI cB cT ad1 ad2 b L xs) (hd : kJ m_L_law pc (.ifCond .eq off) off q t) (hx : ¬ x = 0) (k : LA p e s m below meth c l D cI cB cT ad1 ad2 b q i S u v) : LA p e s m below meth c l D cI cB cT ad1 ad2 b pc i (.int x :: S) u v := by
  intro H locs ls h1 h2 h3 hl
  exact lv_if_eq h.1.1 h.1.2.1 hd.1 hd.2.2 (fun z => absurd z hx) (fun _ => by rw [hd.2.1]; exact k H locs ls h1 h2 h3 hl)
theorem la_goto {off : Int} (h : LOk p e s m below meth c l D cI cB cT ad1 ad2 b L xs) (hd : kJ m_L_law pc (.goto off) off q t) (k : LA p e s m below meth c l D cI cB cT ad1 ad2 b t i S u v) : LA p e s m below meth c l D cI cB cT ad1 ad2 b pc i S u v := by
  intro H locs ls h1 h2 h3 hl
  exact lv_goto h.1.1 h.1.2.1 hd.1 hd.2.2 (k H locs ls h1 h2 h3 hl)
theorem la_inc {n : Nat} (h : LOk p e s m below meth c l D cI cB cT ad1 ad2 b L xs) (hd : kI m_L_law pc (.iinc 3 5) 3 q) (k : LA p e s m below meth c l D cI cB cT ad1 ad2 b q (nI (n + 5)) S u v) : LA p e s m below meth c l D cI cB cT ad1 ad2 b pc (nI n) S u v := by
  intro H locs ls h1 h2 h3 hl
  refine lv_iinc (k := 3) (v := nI (n + 5)) h.1.1 h.1.2.1 hd.1 hl rfl (by rw [← nI_add]; rfl) (by decide) rfl (fun ls' hl' => ?_)
  rw [hd.2]
  exact k H locs ls' h1 h2 h3 (lv_sub hl' [1, 2, 3, 0] rfl)
theorem la_end (h : LOk p e s m below meth c l D cI cB cT ad1 ad2 b L xs) (hd : kI m_L_law pc .ireturn 1 q) : LA p e s m below meth c l D cI cB cT ad1 ad2 b pc i [.int 1] u v := by
  intro H locs ls h1 h2 h3 hl
  refine va_forget (fun q hq => h3.2.2 q hq) (W.widen (k := 600000) (n := 7302249) (by decide) (by decide) ?_)
  exact lw_ret h.1.1 h.1.2.1 h.2.1 h.2.2.1 hd.1
theorem la_swi {x : Int32} {off : Int} (h : LOk p e s m below meth c l D cI cB cT ad1 ad2 b L xs) (hi1 : ¬ x.toInt < 0) (hi2 : ¬ 19 < x.toInt) (ho : (#[96, 129, 152, 195, 264, 297, 340, 383, 426, 495, 564, 577, 600, 633, 656, 679, 702, 735, 768, 791] : Array Int)[(x.toInt - 0).toNat]? = some off) (ht : ((32 : Nat) : Int) + off = (t : Int)) (k : LA p e s m below meth c l D cI cB cT ad1 ad2 b t i S u v) : LA p e s m below meth c l D cI cB cT ad1 ad2 b 32 i (.int x :: S) u v := by
  intro H locs ls h1 h2 h3 hl
  exact lv_tableIn h.1.1 h.1.2.1 d_L_law_32 hi1 hi2 ho ht (k H locs ls h1 h2 h3 hl)
theorem la_swo {x : Int32} (h : LOk p e s m below meth c l D cI cB cT ad1 ad2 b L xs) (hi1 : x.toInt < 0 ∨ 19 < x.toInt) (k : LA p e s m below meth c l D cI cB cT ad1 ad2 b 846 i S u v) : LA p e s m below meth c l D cI cB cT ad1 ad2 b 32 i (.int x :: S) u v := by
  intro H locs ls h1 h2 h3 hl
  exact lv_tableOut h.1.1 h.1.2.1 d_L_law_32 hi1 (by decide) (k H locs ls h1 h2 h3 hl)
theorem kB.kept {ly : kLy} {ad : Nat → Nat} {w : kSt} {H H1 : Heap} (h : kB ly D cI cB cT ad w H) (hk : ∀ k, k < ly.1 → H1[ad k]? = H[ad k]?) : kB ly D cI cB cT ad w H1 := by
  refine ⟨va_P.kept h.1 (fun k x hx => ?_), h.2⟩
  obtain ⟨g1, rfl⟩ := kCs_of hx
  exact hk k g1
/-- a call of one of the two objects; the other stays as it is -/
theorem lw_call {ly1 ly2 : kLy} {a1 a2 : Nat → Nat} {w1 w1' w2 : kSt} {y : MethodName} {mt' : kMT} {n idx d : Nat} {As rest st0 : List Value} {r : Int32} {H : Heap} {locs : List Loc} {ls : Array Slot} {Q : State → Prop}
    (h : CallFix p m c code 4 s #[Value.ref b] kWS "PagerKernelLaw") (hK : va_K D kCl (ktys cI cB cT) s) (hsz1 : ∀ k, k < ly1.1 → s.heap.size ≤ a1 k) (hdis : ∀ i j, i < ly1.1 → j < ly2.1 → a1 i ≠ a2 j)
    (hd : kI m_L_law pc (.invokevirtual idx) 3 q) (hk : Cond.methodLink "PagerKernelLaw" idx y ∈ kWS) (hm : kMv y mt' n) (hn : As.length = n) (hdd : d ≤ 8) (hS : KSp (kWl ly1 l D cI cB cT a1) y mt' d (.ref 0 :: As) w1 (some (.int r)) w1') (hv : kRcv (kWl ly1 l D cI cB cT a1) w1 0 y.cls)
    (hst : st0 = (As.map (cv a1)).reverse ++ .ref (a1 0) :: rest) (hr : (rest.map fun v => v.category).sum ≤ 8) (h1 : kB ly1 D cI cB cT a1 w1 H) (h2 : kB ly2 D cI cB cT a2 w2 H) (h3 : va_S (fun q => s.heap.size ≤ q) s.heap H locs) (hl : ls.size = 4)
    (k : ∀ (H1 : Heap) (locs1 : List Loc), kB ly1 D cI cB cT a1 w1' H1 → kB ly2 D cI cB cT a2 w2 H1 → va_S (fun q => s.heap.size ≤ q) s.heap H1 locs1 → W p l e room_1 s m #[Value.ref b] below meth c H1 locs1 49 1203 Q (F0 m q ls (.int r :: rest))) :
    W p l e room_1 s m #[Value.ref b] below meth c H locs 49 1203 Q (F0 m pc ls st0) := by
  obtain ⟨⟨hi, hc, hy, hml⟩, hin, hsel⟩ := hm
  have hts := h.2.2.2.2
  have hrun : va_Run p l e room_1 s m #[Value.ref b] below meth c H locs 49 1203 0 0 (F0 m pc ls st0) rest (kQ (kWl ly1 l D cI cB cT a1) (kA ly1 a1) (some (.int r)) w1' (Value.ref (a1 0) :: As.map (cv a1)).toArray) (kA ly1 a1) :=
    va_runV (C := y.cls) (b := a1 0) (As := As.map (cv a1)) (bytes := mt'.2.1) (maxL := mt'.2.2.1) (ret := mt'.2.2.2) (n := n) h hS ⟨callB_of n hts (kGoodIn hc) rfl rfl rfl (hts _ hi) (hts _ hk) hy ⟨by show d + 1 ≤ 9; omega, by show 8 + (mt'.2.2.1 + 11) + 32 * d ≤ 336; omega⟩, hts _ hin, hts _ hsel⟩ ⟨kBlind, hv H s h1 hK, fun U hU hW => ⟨rfl, by rw [hU]; exact h1, va_K.moved hW.alike hK⟩⟩ rfl (by simpa using hn) hl hst (lv_room hr) hd.1 ⟨by decide, by decide⟩
  intro T hT X
  obtain ⟨x, st₀, t, T', L', g0, X', hL, e1, e2, ⟨hx, hB1, hK1, hz, hkq⟩, st⟩ := hrun T hT X
  have hx2 : x = some (.int r) := Outcome.returned.inj hx
  subst hx2
  rw [g0] at hz hkq
  have hlt2 : ∀ k, k < ly2.1 → a2 k < H.size := fun k hk2 => (h2.1 k _ (kCs_at hk2)).lt
  have hB2 : kB ly2 D cI cB cT a2 w2 T'.heap := h2.kept (fun k hk2 => by
    rw [e1]
    exact hkq (a2 k) (hlt2 k hk2) (fun z => by obtain ⟨j, hj, ej⟩ := z; exact hdis j k hj hk2 ej.symm))
  have hS' : va_S (fun q => s.heap.size ≤ q) s.heap T'.heap (locs ++ L') := ⟨Nat.le_trans h3.1 (by rw [e1]; exact hz), fun q g1 g2 => by rw [e1, hkq q (Nat.lt_of_lt_of_le g1 h3.1) (fun z => by obtain ⟨j, hj, rfl⟩ := z; exact g2 (hsz1 j hj))]; exact h3.2.1 q g1 g2, fun q hq => by
      rcases List.mem_append.mp hq with g | g
      · exact h3.2.2 q g
      · obtain ⟨j, hj, ej⟩ := hL q g
        show s.heap.size ≤ q.base
        rw [ej]
        exact hsz1 j hj⟩
  obtain ⟨t2, b1, b2⟩ := k T'.heap (locs ++ L') (by rw [e1]; exact hB1) hB2 hS' T' rfl X'
  refine ⟨t2, st t2 ?_, b2⟩
  rw [← hd.2] at b1
  exact b1
theorem la_callC {y : MethodName} {mt' : kMT} {n idx d : Nat} {As rest : List Value} {r : Int32} {u' : kSt} (h : LOk p e s m below meth c l D cI cB cT ad1 ad2 b L xs) (hd : kI m_L_law pc (.invokevirtual idx) 3 q) (hk : Cond.methodLink "PagerKernelLaw" idx y ∈ kWS) (hm : kMv y mt' n) (hn : As.length = n) (hdd : d ≤ 8) (hS : KSp (kWl lyC l D cI cB cT ad1) y mt' d (.ref 0 :: As) u (some (.int r)) u') (hy : y.cls = "PagerKernel") (hst : S = (As.map (cv ad1)).reverse ++ .ref (ad1 0) :: rest) (hr : (rest.map fun v => v.category).sum ≤ 8) (k : LA p e s m below meth c l D cI cB cT ad1 ad2 b q i (.int r :: rest) u' v) : LA p e s m below meth c l D cI cB cT ad1 ad2 b pc i S u v := by
  intro H locs ls h1 h2 h3 hl
  refine lw_call (ly1 := lyC) (ly2 := lyR) (a1 := ad1) (a2 := ad2) (w2 := v) h.1 h.2.2.2.1 h.2.2.2.2.2.2.1 h.2.2.2.2.2.2.2.2 hd hk hm hn hdd hS (by rw [hy]; exact rcvK) hst hr h1 h2 h3 hl.1 (fun H1 locs1 g1 g2 g3 => ?_)
  exact k H1 locs1 ls g1 g2 g3 hl
theorem la_callR {y : MethodName} {mt' : kMT} {n idx d : Nat} {As rest : List Value} {r : Int32} {v' : kSt} (h : LOk p e s m below meth c l D cI cB cT ad1 ad2 b L xs) (hd : kI m_L_law pc (.invokevirtual idx) 3 q) (hk : Cond.methodLink "PagerKernelLaw" idx y ∈ kWS) (hm : kMv y mt' n) (hn : As.length = n) (hdd : d ≤ 8) (hS : KSp (kWl lyR l D cI cB cT ad2) y mt' d (.ref 0 :: As) v (some (.int r)) v') (hy : y.cls = "PagerKernelModel") (hst : S = (As.map (cv ad2)).reverse ++ .ref (ad2 0) :: rest) (hr : (rest.map fun v => v.category).sum ≤ 8) (k : LA p e s m below meth c l D cI cB cT ad1 ad2 b q i (.int r :: rest) u v') : LA p e s m below meth c l D cI cB cT ad1 ad2 b pc i S u v := by
  intro H locs ls h1 h2 h3 hl
  refine lw_call (ly1 := lyR) (ly2 := lyC) (a1 := ad2) (a2 := ad1) (w2 := u) h.1 h.2.2.2.1 h.2.2.2.2.2.2.2.1 (fun i j hi hj e9 => h.2.2.2.2.2.2.2.2 j i hj hi e9.symm) hd hk hm hn hdd hS (by rw [hy]; exact rcvR) hst hr h2 h1 h3 hl.1 (fun H1 locs1 g1 g2 g3 => ?_)
  exact k H1 locs1 ls g2 g1 g3 hl
end KLW
