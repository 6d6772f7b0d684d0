section KNA
abbrev ktys (cI cB cT : ClassId) : List (ClassId × FieldType) := [(cI, .int), (cB, .boolean), (cT, .object kTh)]
section
variable {p : Program} {l : Launch} {e : Env} {R : Room} {s : State} {m : MethodId} {args : Array Value} {below : List Frame} {meth : Method} {c : Code} {H : Heap} {locs : List Loc} {cells slots : Nat} {Q : State → Prop}
variable {cc : ByteArray} {pc : Nat} {ls : Array Slot} {rest : List Value} {D : va_G} {cl : List vw_C} {A : Nat → Prop} {tys : List (ClassId × FieldType)} {ws : va_W} {H0 : Heap}
theorem kn_newI (hexec : p.tables.exec = Jvm.exec) (hb : c.code = cc) (harr : (Cond.arrayClass .int).before args s = true) (hK : va_K D cl tys s) (t0 : Nat) {cI : ClassId} (ht : tys[t0]? = some (cI, .int)) (hP : va_P D cl ws H) (hD : va_D A ws) (hS : va_S A H0 H locs) (hA : ∀ q, H0.size ≤ q → A q)
    {n : Int32} {N' : Nat} (hn : ¬ n < 0) (hN : n.toNatClampNeg = N') (hbytes : N' * componentBytes .int ≤ 536870912) (hcells : cells + 1 ≤ R.cells) (hslots : slots + N' ≤ R.slots) (hdg : decode cc pc = .ok (.newarray .int, 2))
    (kk : ∀ (q : Nat) (H1 : Heap), va_P D cl (ws ++ [(q, .inl (cI, N', .inl (fun _ => (0 : Int32))))]) H1 → va_D A (ws ++ [(q, .inl (cI, N', .inl (fun _ => (0 : Int32))))]) → va_S A H0 H1 locs → W p l e R s m args below meth c H1 locs (cells + 1) (slots + N') Q (F0 m (pc + 2) ls (.ref q :: rest))) : W p l e R s m args below meth c H locs cells slots Q (F0 m pc ls (.int n :: rest)) := by
  refine va_newa (atype := .int) (ty := .int) (a0 := (N', .inl (fun _ => (0 : Int32)))) hexec hb harr rfl hK hP hD hS hA (fun cA => rfl) hn hN hbytes hcells hslots hdg (fun q cA H1 hK1 hP1 hD1 hS1 => ?_)
  have h1 : va_RA s cA .int := (hK1.2 tys.length (cA, .int) (by simp)).2
  have h2 : va_RA s cI .int := (hK.2 t0 _ ht).2
  have h3 : cA = cI := Option.some.inj (h1.symm.trans h2)
  subst h3
  exact kk q H1 hP1 hD1 hS1
theorem kn_newB (hexec : p.tables.exec = Jvm.exec) (hb : c.code = cc) (harr : (Cond.arrayClass .boolean).before args s = true) (hK : va_K D cl tys s) (t0 : Nat) {cI : ClassId} (ht : tys[t0]? = some (cI, .boolean)) (hP : va_P D cl ws H) (hD : va_D A ws) (hS : va_S A H0 H locs) (hA : ∀ q, H0.size ≤ q → A q)
    {n : Int32} {N' : Nat} (hn : ¬ n < 0) (hN : n.toNatClampNeg = N') (hbytes : N' * componentBytes .boolean ≤ 536870912) (hcells : cells + 1 ≤ R.cells) (hslots : slots + N' ≤ R.slots) (hdg : decode cc pc = .ok (.newarray .boolean, 2))
    (kk : ∀ (q : Nat) (H1 : Heap), va_P D cl (ws ++ [(q, .inl (cI, N', .inl (fun _ => (0 : Int32))))]) H1 → va_D A (ws ++ [(q, .inl (cI, N', .inl (fun _ => (0 : Int32))))]) → va_S A H0 H1 locs → W p l e R s m args below meth c H1 locs (cells + 1) (slots + N') Q (F0 m (pc + 2) ls (.ref q :: rest))) : W p l e R s m args below meth c H locs cells slots Q (F0 m pc ls (.int n :: rest)) := by
  refine va_newa (atype := .boolean) (ty := .boolean) (a0 := (N', .inl (fun _ => (0 : Int32)))) hexec hb harr rfl hK hP hD hS hA (fun cA => rfl) hn hN hbytes hcells hslots hdg (fun q cA H1 hK1 hP1 hD1 hS1 => ?_)
  have h1 : va_RA s cA .boolean := (hK1.2 tys.length (cA, .boolean) (by simp)).2
  have h2 : va_RA s cI .boolean := (hK.2 t0 _ ht).2
  have h3 : cA = cI := Option.some.inj (h1.symm.trans h2)
  subst h3
  exact kk q H1 hP1 hD1 hS1
theorem kn_newQ (hexec : p.tables.exec = Jvm.exec) (hb : c.code = cc) {own C : String} {index : Nat} (hown : s.vm.findClass own = some m.cls) (hclink : (Cond.classLink own index C).before args s = true) (hover : va_AO C s) (hK : va_K D cl tys s) (t0 : Nat) {cI : ClassId} (ht : tys[t0]? = some (cI, .object C)) (hP : va_P D cl ws H) (hD : va_D A ws) (hS : va_S A H0 H locs) (hA : ∀ q, H0.size ≤ q → A q)
    {n : Int32} {N' : Nat} (hn : ¬ n < 0) (hN : n.toNatClampNeg = N') (hbytes : N' * 4 ≤ 536870912) (hcells : cells + 1 ≤ R.cells) (hslots : slots + N' ≤ R.slots) (hdg : decode cc pc = .ok (.anewarray index, 3))
    (kk : ∀ (q : Nat) (H1 : Heap), va_P D cl (ws ++ [(q, .inl (cI, N', .inr (.inr (.inr (.inr (fun _ => none))))))]) H1 → va_D A (ws ++ [(q, .inl (cI, N', .inr (.inr (.inr (.inr (fun _ => none))))))]) → va_S A H0 H1 locs → W p l e R s m args below meth c H1 locs (cells + 1) (slots + N') Q (F0 m (pc + 3) ls (.ref q :: rest))) : W p l e R s m args below meth c H locs cells slots Q (F0 m pc ls (.int n :: rest)) := by
  refine va_newq hexec hb hown hclink hover hK hP hD hS hA hn hN hbytes hcells hslots hdg (fun q cA H1 hK1 hP1 hD1 hS1 => ?_)
  have h1 : va_RA s cA (.object C) := (hK1.2 tys.length (cA, .object C) (by simp)).2
  have h2 : va_RA s cI (.object C) := (hK.2 t0 _ ht).2
  obtain ⟨-, -, -, -, -, e1⟩ := h1
  obtain ⟨-, -, -, -, -, e2⟩ := h2
  have h3 : cA = cI := Option.some.inj (e1.symm.trans e2)
  subst h3
  exact kk q H1 hP1 hD1 hS1
theorem W.to {Q' : State → Prop} {g : JFrame} (h : W p l e R s m args below meth c H locs cells slots Q g) (hq : ∀ t, Q t → Q' t) : W p l e R s m args below meth c H locs cells slots Q' g := by
  intro T hT X
  obtain ⟨t, a1, b1⟩ := h T hT X
  exact ⟨t, a1, hq t b1⟩
end
/-- a layout's world from a list of its cells -/
theorem kB_of {ly : kLy} {D : va_G} {cI cB cT : ClassId} {ad : Nat → Nat} {u : kSt} {H : Heap} {A : Nat → Prop} (hP : va_P D kCl (kCs ly cI cB cT ad u) H) (hD : va_D A (kCs ly cI cB cT ad u)) : kB ly D cI cB cT ad u H :=
  ⟨hP, fun i j hi hj e => hD.1 i j _ _ (kCs_at hi) (kCs_at hj) e⟩
theorem arrV_congr {c : ClassId} {n : Nat} {f g : Nat → Value} (h : ∀ j, j < n → f j = g j) : arrV c n f = arrV c n g := by
  unfold arrV
  congr 2
  funext j
  exact h j.val j.isLt
theorem kB_congr {ly : kLy} {D : va_G} {cI cB cT : ClassId} {ad : Nat → Nat} {u u' : kSt} {H : Heap} (h : ∀ k j, k < ly.1 → j < ly.2.2.1 k → u k j = u' k j) (hB : kB ly D cI cB cT ad u H) : kB ly D cI cB cT ad u' H := by
  refine ⟨fun k q hq => ?_, hB.2⟩
  obtain ⟨hk, rfl⟩ := kCs_of hq
  have h1 := hB.1 k _ (kCs_at hk)
  unfold kEl at h1 ⊢
  split
  · rename_i h2
    rw [if_pos h2] at h1
    have h3 : H[ad k]? = some (arrV cI (ly.2.2.1 k) (fun j => .int (u k j))) := h1
    show H[ad k]? = some (arrV cI (ly.2.2.1 k) (fun j => .int (u' k j)))
    rw [h3, arrV_congr (fun j hj => by rw [h k j hk hj])]
  · rename_i h2
    rw [if_neg h2] at h1
    split
    · rename_i h3
      rw [if_pos h3] at h1
      have h4 : H[ad k]? = some (arrV cB (ly.2.2.1 k) (fun j => .int (u k j))) := h1
      show H[ad k]? = some (arrV cB (ly.2.2.1 k) (fun j => .int (u' k j)))
      rw [h4, arrV_congr (fun j hj => by rw [h k j hk hj])]
    · rename_i h3
      rw [if_neg h3] at h1
      split
      · rename_i h4
        rw [if_pos h4] at h1
        exact h1
      · rename_i h4
        rw [if_neg h4] at h1
        have e : (List.range (ly.2.2.1 k)).map (kVal ly ad (u k) k) = (List.range (ly.2.2.1 k)).map (kVal ly ad (u' k) k) := by
          apply List.map_congr_left
          intro j hj
          unfold kVal
          rw [h k j hk (List.mem_range.mp hj)]
        rw [← e]
        exact h1
theorem k_congr {X : Type} {w : kW X} {mt : kMT} {d pc : Nat} {L : List (Option Value)} {S : List Value} {x y x' : X} {r : Option Value} (hB : ∀ H, kwB w x H → kwB w y H) (h : KAt w mt d pc L S y r x') : KAt w mt d pc L S x r x' := by
  intro p e R s m args below meth c H locs cells slots ls A hk hb hS hl
  exact h _ _ _ _ _ _ _ _ _ _ _ _ _ _ _ hk (hB H hb) hS hl
set_option maxHeartbeats 4000000 in
set_option maxRecDepth 100000 in
theorem c_H_init (l : Launch) (D : va_G) (cI cB cT : ClassId) (h0 sz : Nat) (n : Int32) : Met l y_H_init (Cond.code y_H_init m_H_init.2.1 m_H_init.2.2.1 m_H_init.2.2.2 :: kWS) ({ frames := 1, cells := 1, slots := 4, locals := 32 }) (va_Pc [.ref h0, .int n] (fun U => U.heap.size = sz ∧ va_P D kCl [(h0, .inr (2, [.int 0, .null, .int 0, .int 0, .int 0, .int 0, .int 0, .int 0, .int 0, .int 0, .int 0, .int 0, .int 0, .int 0, .int 0, .int 0, .int 0, .int 0, .int 0]))] U.heap ∧ va_K D kCl (ktys cI cB cT) U ∧ va_D (fun _ => True) [(h0, .inr (2, [.int 0, .null, .int 0, .int 0, .int 0, .int 0, .int 0, .int 0, .int 0, .int 0, .int 0, .int 0, .int 0, .int 0, .int 0, .int 0, .int 0, .int 0, .int 0]))] ∧ True)) (va_Qv (fun _ : Nat => True) (fun q t => va_P D kCl [(h0, .inr (2, [.int n, .ref q, .int (-1), .int 0, .int 0, .int 0, .int 0, .int 0, .int 0, .int 0, .int 0, .int 0, .int 0, .int 0, .int 0, .int 0, .int 0, .int 0, .int 0])), (q, .inl (cI, 4, .inl (fun _ => (0 : Int32))))] t.heap ∧ va_K D kCl (ktys cI cB cT) t ∧ va_D (va_A [(h0, .inr (2, [.int 0, .null, .int 0, .int 0, .int 0, .int 0, .int 0, .int 0, .int 0, .int 0, .int 0, .int 0, .int 0, .int 0, .int 0, .int 0, .int 0, .int 0, .int 0]))] sz) [(h0, .inr (2, [.int n, .ref q, .int (-1), .int 0, .int 0, .int 0, .int 0, .int 0, .int 0, .int 0, .int 0, .int 0, .int 0, .int 0, .int 0, .int 0, .int 0, .int 0, .int 0])), (q, .inl (cI, 4, .inl (fun _ => (0 : Int32))))]) (va_A [(h0, .inr (2, [.int 0, .null, .int 0, .int 0, .int 0, .int 0, .int 0, .int 0, .int 0, .int 0, .int 0, .int 0, .int 0, .int 0, .int 0, .int 0, .int 0, .int 0, .int 0]))] sz)) 1 4 (va_A [(h0, .inr (2, [.int 0, .null, .int 0, .int 0, .int 0, .int 0, .int 0, .int 0, .int 0, .int 0, .int 0, .int 0, .int 0, .int 0, .int 0, .int 0, .int 0, .int 0, .int 0]))] sz) := by
  refine Met.ofW (cc := m_H_init.2.1) (maxL := 2) (ret := none) (by decide) rfl ?_
  intro p e s m args below meth c s₁ B hml hv
  obtain ⟨rfl, hsz, hP, hK, hD0, hX⟩ := hv
  have hx := B.exec
  have hb := B.bytes
  have hr := B.returns
  have hts0 := atoms_spec (ws := Cond.code y_H_init m_H_init.2.1 m_H_init.2.2.1 m_H_init.2.2.2 :: kWS) B.pre
  have hts : ∀ w ∈ kWS, w.before _ s = true := fun w h => hts0 w (List.mem_cons_of_mem _ h)
  have hown : s.vm.findClass "PagerKernel$KernelThread" = some m.cls := findClass_of_methodNamed B.named
  have hlocks := B.notSynchronized
  have hin : meth.name = "<init>" := (name_of_methodNamed B.named B.method).1
  subst hsz
  have hD := hD0.self (sz := s.heap.size)
  generalize hAe : va_A [(h0, .inr (2, [.int 0, .null, .int 0, .int 0, .int 0, .int 0, .int 0, .int 0, .int 0, .int 0, .int 0, .int 0, .int 0, .int 0, .int 0, .int 0, .int 0, .int 0, .int 0]))] s.heap.size = A at hD ⊢
  have hA : ∀ q : Nat, s.heap.size ≤ q → A q := fun q h => by rw [← hAe]; exact Or.inr h
  have hS : va_S A s.heap s.heap [] := va_S.rf
  have hP : va_P D kCl [(h0, .inr (2, [.int 0, .null, .int 0, .int 0, .int 0, .int 0, .int 0, .int 0, .int 0, .int 0, .int 0, .int 0, .int 0, .int 0, .int 0, .int 0, .int 0, .int 0, .int 0]))] s.heap := hP
  have hl := lv_entry ([.ref h0, .int n]) (n := 2) (Nat.le_of_ble_eq_true rfl)
  rw [lg_entry_eq]
  generalize (lg_sl ([.ref h0, .int n]) ++ List.replicate (2 - (lg_sl ([.ref h0, .int n])).length) Slot.unset).toArray = ls at hl ⊢
  have hl : lv_has ls 2 [(0, .ref h0), (1, .int n)] := hl
  refine lv_aload_n hx hb d_H_init_0.1 rfl (lv_at hl 0 rfl) ?_
  refine W.objInit hx hb hown (hts (.methodLink "PagerKernel$KernelThread" 3 objectInit) (kIn 75 (by decide +kernel) rfl)) (hts (.instanceMethod objectInit) (kIn 45 (by decide +kernel) rfl)) (hts (.code objectInit ⟨#[0xb1]⟩ 1 none) (kIn 46 (by decide +kernel) rfl)) rfl (by rw [hml]; exact hl.1) rfl d_H_init_1.1 (Nat.le_of_ble_eq_true rfl) (Nat.le_of_ble_eq_true rfl) ?_
  refine W.eq (g2 := F0 m 4 ls []) rfl ?_
  refine lv_aload_n hx hb d_H_init_4.1 rfl (lv_at hl 0 rfl) ?_
  refine lv_iconst (v := 4) hx hb d_H_init_5.1 (by decide) ?_
  refine kn_newI (N' := 4) hx hb (hts (.arrayClass .int) (kIn 70 (by decide +kernel) rfl)) hK 0 rfl hP hD hS hA (by decide) (by decide) (by decide) (Nat.le_of_ble_eq_true rfl) (Nat.le_of_ble_eq_true rfl) d_H_init_6.1 (fun q6 H hP hD hS => ?_)
  have hP : va_P D kCl [(h0, .inr (2, [.int 0, .null, .int 0, .int 0, .int 0, .int 0, .int 0, .int 0, .int 0, .int 0, .int 0, .int 0, .int 0, .int 0, .int 0, .int 0, .int 0, .int 0, .int 0])), (q6, .inl (cI, 4, .inl (fun _ => (0 : Int32))))] H := hP
  have hD : va_D A [(h0, .inr (2, [.int 0, .null, .int 0, .int 0, .int 0, .int 0, .int 0, .int 0, .int 0, .int 0, .int 0, .int 0, .int 0, .int 0, .int 0, .int 0, .int 0, .int 0, .int 0])), (q6, .inl (cI, 4, .inl (fun _ => (0 : Int32))))] := hD
  refine va_putF (D := D) (ci := 2) (v := .ref q6) (ty := .array .int) (C := R_H) (T := F_H) (N := 19) hx hb hts uw_H ft_H ft_H_ok fn_H hown hK hP hD hS 0 rfl rfl 1 (by decide) (hts (.fieldLink "PagerKernel$KernelThread" 9 "PagerKernel$KernelThread" "registers" "[I") (kIn 78 (by decide +kernel) rfl)) (fun _ h9 => h9) rfl hin rfl (by decide +kernel) rfl rfl (Nat.le_of_ble_eq_true rfl) d_H_init_8.1 (fun H locs hP hD hS => ?_)
  have hP : va_P D kCl [(h0, .inr (2, [.int 0, .ref q6, .int 0, .int 0, .int 0, .int 0, .int 0, .int 0, .int 0, .int 0, .int 0, .int 0, .int 0, .int 0, .int 0, .int 0, .int 0, .int 0, .int 0])), (q6, .inl (cI, 4, .inl (fun _ => (0 : Int32))))] H := hP
  have hD : va_D A [(h0, .inr (2, [.int 0, .ref q6, .int 0, .int 0, .int 0, .int 0, .int 0, .int 0, .int 0, .int 0, .int 0, .int 0, .int 0, .int 0, .int 0, .int 0, .int 0, .int 0, .int 0])), (q6, .inl (cI, 4, .inl (fun _ => (0 : Int32))))] := hD
  refine lv_aload_n hx hb d_H_init_11.1 rfl (lv_at hl 0 rfl) ?_
  refine lv_iconst (v := (-1)) hx hb d_H_init_12.1 (by decide) ?_
  refine va_put (D := D) (ci := 2) (v := .int (-1)) (ty := .int) (C := R_H) (T := F_H) (N := 19) hx hb hts uw_H ft_H ft_H_ok fn_H hown hK hP hD hS 0 rfl rfl 2 (by decide) (hts (.fieldLink "PagerKernel$KernelThread" 15 "PagerKernel$KernelThread" "state" "I") (kIn 80 (by decide +kernel) rfl)) (fun _ h9 => h9) rfl (by decide +kernel) rfl rfl (Nat.le_of_ble_eq_true rfl) d_H_init_13.1 (fun H locs hP hD hS => ?_)
  have hP : va_P D kCl [(h0, .inr (2, [.int 0, .ref q6, .int (-1), .int 0, .int 0, .int 0, .int 0, .int 0, .int 0, .int 0, .int 0, .int 0, .int 0, .int 0, .int 0, .int 0, .int 0, .int 0, .int 0])), (q6, .inl (cI, 4, .inl (fun _ => (0 : Int32))))] H := hP
  have hD : va_D A [(h0, .inr (2, [.int 0, .ref q6, .int (-1), .int 0, .int 0, .int 0, .int 0, .int 0, .int 0, .int 0, .int 0, .int 0, .int 0, .int 0, .int 0, .int 0, .int 0, .int 0, .int 0])), (q6, .inl (cI, 4, .inl (fun _ => (0 : Int32))))] := hD
  refine lv_aload_n hx hb d_H_init_16.1 rfl (lv_at hl 0 rfl) ?_
  refine lv_iload_n hx hb d_H_init_17.1 rfl (lv_at hl 1 rfl) ?_
  refine va_putF (D := D) (ci := 2) (v := .int n) (ty := .int) (C := R_H) (T := F_H) (N := 19) hx hb hts uw_H ft_H ft_H_ok fn_H hown hK hP hD hS 0 rfl rfl 0 (by decide) (hts (.fieldLink "PagerKernel$KernelThread" 19 "PagerKernel$KernelThread" "number" "I") (kIn 76 (by decide +kernel) rfl)) (fun _ h9 => h9) rfl hin rfl (by decide +kernel) rfl rfl (Nat.le_of_ble_eq_true rfl) d_H_init_18.1 (fun H locs hP hD hS => ?_)
  have hP : va_P D kCl [(h0, .inr (2, [.int n, .ref q6, .int (-1), .int 0, .int 0, .int 0, .int 0, .int 0, .int 0, .int 0, .int 0, .int 0, .int 0, .int 0, .int 0, .int 0, .int 0, .int 0, .int 0])), (q6, .inl (cI, 4, .inl (fun _ => (0 : Int32))))] H := hP
  have hD : va_D A [(h0, .inr (2, [.int n, .ref q6, .int (-1), .int 0, .int 0, .int 0, .int 0, .int 0, .int 0, .int 0, .int 0, .int 0, .int 0, .int 0, .int 0, .int 0, .int 0, .int 0, .int 0])), (q6, .inl (cI, 4, .inl (fun _ => (0 : Int32))))] := hD
  exact W.vret hx hb hr (fun t ht hW => ⟨⟨q6, rfl, trivial, by rw [ht]; exact hP, va_K.moved hW.alike hK, hD⟩, hS.F ht⟩) hS.2.2 d_H_init_21.1
/-- the mappings' own cells: 0 the object, 1 level, 2 frame, 3 depth, 4 parent -/
abbrev lyM : kLy := (5, fun k => if k = 0 then 1 else 10, fun k => if k = 0 then 4 else 96, fun k j => if k = 0 then some (j + 1) else none)
def pIni (n : Nat) : kSt := fun a b => if a = 1 then (if b < n then 2 else 0) else if a = 2 then (if b < n then nI b else 0) else if a = 4 then (if b < n then -1 else 0) else 0
theorem pIni_s (k : Nat) : kup (kup (kup (pIni k) 1 k 2) 2 k (nI k)) 4 k (-1) = pIni (k + 1) := by
  funext a b
  by_cases hb : b = k
  · subst hb
    by_cases h1 : a = 1 <;> by_cases h2 : a = 2 <;> by_cases h4 : a = 4 <;> simp_all [kup, pIni]
  · have : b < k + 1 ↔ b < k := by omega
    simp [kup, pIni, hb, this]
theorem c_P_init_loop {l : Launch} {D : va_G} {cI cB cT : ClassId} {ad : Nat → Nat} {d : Nat} {u : kSt} : ∀ (n k : Nat) (y : kSt), k + n = 16 → y = pIni k → KAt (kWl lyM l D cI cB cT ad) m_P_init d 38 [some (.ref 0), some (.int (nI k))] [] y none (pIni 16) := by
  intro n
  induction n with
  | zero =>
    intro k y hk hy
    subst hy
    obtain rfl : k = 16 := by omega
    refine k_iload_n d_P_init_38 rfl ?_
    refine k_bipush (v := 16) d_P_init_39 (by decide) ?_
    refine k_icmp_ge d_P_init_41 (fun h41 => ?_) (fun h41 => absurd h41 (fun z => z (by decide)))
    exact k_vret d_P_init_71 rfl rfl (by first | rfl | (simp [bI] <;> done) | (simp [bI, *] <;> done))
  | succ n ih =>
    intro k y hk hy
    subst hy
    have hk2 : k < 96 := by omega
    have h0 : ¬ (16 : Int32) ≤ nI k := nI_ge (a := k) (b := 16) (by omega) (by decide)
    refine k_iload_n d_P_init_38 rfl ?_
    refine k_bipush (v := 16) d_P_init_39 (by decide) ?_
    refine k_icmp_ge d_P_init_41 (fun h41 => absurd h41 h0) (fun h41 => ?_)
    refine k_aload_n d_P_init_44 rfl ?_
    refine k_getr (t := 1) d_P_init_45 f_P_9 (by decide) rfl (by decide) (by decide) rfl ?_
    refine k_iload_n d_P_init_48 rfl ?_
    refine k_iconst (v := 2) d_P_init_49 (by decide) ?_
    refine k_iastN (n := 96) d_P_init_50 (by decide) rfl rfl (by first | assumption | omega) (by decide) ?_
    refine k_aload_n d_P_init_51 rfl ?_
    refine k_getr (t := 2) d_P_init_52 f_P_15 (by decide) rfl (by decide) (by decide) rfl ?_
    refine k_iload_n d_P_init_55 rfl ?_
    refine k_iload_n d_P_init_56 rfl ?_
    refine k_iastN (n := 96) d_P_init_57 (by decide) rfl rfl (by first | assumption | omega) (by decide) ?_
    refine k_aload_n d_P_init_58 rfl ?_
    refine k_getr (t := 4) d_P_init_59 f_P_21 (by decide) rfl (by decide) (by decide) rfl ?_
    refine k_iload_n d_P_init_62 rfl ?_
    refine k_iconst (v := (-1)) d_P_init_63 (by decide) ?_
    refine k_iastN (n := 96) d_P_init_64 (by decide) rfl rfl (by first | assumption | omega) (by decide) ?_
    refine k_incN d_P_init_65 rfl (by decide) ?_
    refine k_goto d_P_init_68 ?_
    exact ih (k + 1) _ (by omega) (pIni_s k)
theorem c_P_init_rest {l : Launch} {D : va_G} {cI cB cT : ClassId} {ad : Nat → Nat} {d : Nat} {u : kSt} : KAt (kWl lyM l D cI cB cT ad) m_P_init d 36 [some (.ref 0), none] [] (fun _ _ => 0) none (pIni 16) := by
  refine k_iconst (v := 0) d_P_init_36 (by decide) ?_
  refine k_istore_n d_P_init_37 (by decide) ?_
  exact c_P_init_loop (u := fun _ _ => 0) 16 0 _ rfl (by funext a b; simp [pIni])

set_option maxHeartbeats 4000000 in
set_option maxRecDepth 100000 in
theorem c_P_init (l : Launch) (D : va_G) (cI cB cT : ClassId) (h0 sz : Nat) : Met l y_P_init (Cond.code y_P_init m_P_init.2.1 m_P_init.2.2.1 m_P_init.2.2.2 :: kWS) ({ frames := 1, cells := 4, slots := 384, locals := 32 }) (va_Pc [.ref h0] (fun U => U.heap.size = sz ∧ va_P D kCl [(h0, .inr (1, [.null, .null, .null, .null]))] U.heap ∧ va_K D kCl (ktys cI cB cT) U ∧ va_D (fun _ => True) [(h0, .inr (1, [.null, .null, .null, .null]))] ∧ True)) (va_Qv (fun _ : Nat × Nat × Nat × Nat => True) (fun q t => va_P D kCl [(h0, .inr (1, [.ref q.1, .ref q.2.1, .ref q.2.2.1, .ref q.2.2.2])), (q.1, .inl (cI, 96, .inl (fun b => if b < 16 then (2 : Int32) else 0))), (q.2.1, .inl (cI, 96, .inl (fun b => if b < 16 then nI b else 0))), (q.2.2.1, .inl (cI, 96, .inl (fun _ => (0 : Int32)))), (q.2.2.2, .inl (cI, 96, .inl (fun b => if b < 16 then (-1 : Int32) else 0)))] t.heap ∧ va_K D kCl (ktys cI cB cT) t ∧ va_D (va_A [(h0, .inr (1, [.null, .null, .null, .null]))] sz) [(h0, .inr (1, [.ref q.1, .ref q.2.1, .ref q.2.2.1, .ref q.2.2.2])), (q.1, .inl (cI, 96, .inl (fun b => if b < 16 then (2 : Int32) else 0))), (q.2.1, .inl (cI, 96, .inl (fun b => if b < 16 then nI b else 0))), (q.2.2.1, .inl (cI, 96, .inl (fun _ => (0 : Int32)))), (q.2.2.2, .inl (cI, 96, .inl (fun b => if b < 16 then (-1 : Int32) else 0)))]) (va_A [(h0, .inr (1, [.null, .null, .null, .null]))] sz)) 4 384 (va_A [(h0, .inr (1, [.null, .null, .null, .null]))] sz) := by
  refine Met.ofW (cc := m_P_init.2.1) (maxL := 2) (ret := none) (by decide) rfl ?_
  intro p e s m args below meth c s₁ B hml hv
  obtain ⟨rfl, hsz, hP, hK, hD0, hX⟩ := hv
  have hx := B.exec
  have hb := B.bytes
  have hr := B.returns
  have hts0 := atoms_spec (ws := Cond.code y_P_init m_P_init.2.1 m_P_init.2.2.1 m_P_init.2.2.2 :: kWS) B.pre
  have hts : ∀ w ∈ kWS, w.before _ s = true := fun w h => hts0 w (List.mem_cons_of_mem _ h)
  have hown : s.vm.findClass "PagerKernel$MappingTree" = some m.cls := findClass_of_methodNamed B.named
  have hlocks := B.notSynchronized
  have hin : meth.name = "<init>" := (name_of_methodNamed B.named B.method).1
  subst hsz
  have hD := hD0.self (sz := s.heap.size)
  generalize hAe : va_A [(h0, .inr (1, [.null, .null, .null, .null]))] s.heap.size = A at hD ⊢
  have hA : ∀ q : Nat, s.heap.size ≤ q → A q := fun q h => by rw [← hAe]; exact Or.inr h
  have hS : va_S A s.heap s.heap [] := va_S.rf
  have hP : va_P D kCl [(h0, .inr (1, [.null, .null, .null, .null]))] s.heap := hP
  have hl := lv_entry ([.ref h0]) (n := 2) (Nat.le_of_ble_eq_true rfl)
  rw [lg_entry_eq]
  generalize (lg_sl ([.ref h0]) ++ List.replicate (2 - (lg_sl ([.ref h0])).length) Slot.unset).toArray = ls at hl ⊢
  have hl : lv_has ls 2 [(0, .ref h0)] := hl
  refine lv_aload_n hx hb d_P_init_0.1 rfl (lv_at hl 0 rfl) ?_
  refine W.objInit hx hb hown (hts (.methodLink "PagerKernel$MappingTree" 3 objectInit) (kIn 54 (by decide +kernel) rfl)) (hts (.instanceMethod objectInit) (kIn 45 (by decide +kernel) rfl)) (hts (.code objectInit ⟨#[0xb1]⟩ 1 none) (kIn 46 (by decide +kernel) rfl)) rfl (by rw [hml]; exact hl.1) rfl d_P_init_1.1 (Nat.le_of_ble_eq_true rfl) (Nat.le_of_ble_eq_true rfl) ?_
  refine W.eq (g2 := F0 m 4 ls []) rfl ?_
  refine lv_aload_n hx hb d_P_init_4.1 rfl (lv_at hl 0 rfl) ?_
  refine lv_bipush (v := 96) hx hb d_P_init_5.1 (by decide) ?_
  refine kn_newI (N' := 96) hx hb (hts (.arrayClass .int) (kIn 70 (by decide +kernel) rfl)) hK 0 rfl hP hD hS hA (by decide) (by decide) (by decide) (Nat.le_of_ble_eq_true rfl) (Nat.le_of_ble_eq_true rfl) d_P_init_7.1 (fun q7 H hP hD hS => ?_)
  have hP : va_P D kCl [(h0, .inr (1, [.null, .null, .null, .null])), (q7, .inl (cI, 96, .inl (fun _ => (0 : Int32))))] H := hP
  have hD : va_D A [(h0, .inr (1, [.null, .null, .null, .null])), (q7, .inl (cI, 96, .inl (fun _ => (0 : Int32))))] := hD
  refine va_putF (D := D) (ci := 1) (v := .ref q7) (ty := .array .int) (C := R_P) (T := F_P) (N := 4) hx hb hts uw_P ft_P ft_P_ok fn_P hown hK hP hD hS 0 rfl rfl 0 (by decide) (hts (.fieldLink "PagerKernel$MappingTree" 9 "PagerKernel$MappingTree" "level" "[I") (kIn 55 (by decide +kernel) rfl)) (fun _ h9 => h9) rfl hin rfl (by decide +kernel) rfl rfl (Nat.le_of_ble_eq_true rfl) d_P_init_9.1 (fun H locs hP hD hS => ?_)
  have hP : va_P D kCl [(h0, .inr (1, [.ref q7, .null, .null, .null])), (q7, .inl (cI, 96, .inl (fun _ => (0 : Int32))))] H := hP
  have hD : va_D A [(h0, .inr (1, [.ref q7, .null, .null, .null])), (q7, .inl (cI, 96, .inl (fun _ => (0 : Int32))))] := hD
  refine lv_aload_n hx hb d_P_init_12.1 rfl (lv_at hl 0 rfl) ?_
  refine lv_bipush (v := 96) hx hb d_P_init_13.1 (by decide) ?_
  refine kn_newI (N' := 96) hx hb (hts (.arrayClass .int) (kIn 70 (by decide +kernel) rfl)) hK 0 rfl hP hD hS hA (by decide) (by decide) (by decide) (Nat.le_of_ble_eq_true rfl) (Nat.le_of_ble_eq_true rfl) d_P_init_15.1 (fun q15 H hP hD hS => ?_)
  have hP : va_P D kCl [(h0, .inr (1, [.ref q7, .null, .null, .null])), (q7, .inl (cI, 96, .inl (fun _ => (0 : Int32)))), (q15, .inl (cI, 96, .inl (fun _ => (0 : Int32))))] H := hP
  have hD : va_D A [(h0, .inr (1, [.ref q7, .null, .null, .null])), (q7, .inl (cI, 96, .inl (fun _ => (0 : Int32)))), (q15, .inl (cI, 96, .inl (fun _ => (0 : Int32))))] := hD
  refine va_putF (D := D) (ci := 1) (v := .ref q15) (ty := .array .int) (C := R_P) (T := F_P) (N := 4) hx hb hts uw_P ft_P ft_P_ok fn_P hown hK hP hD hS 0 rfl rfl 1 (by decide) (hts (.fieldLink "PagerKernel$MappingTree" 15 "PagerKernel$MappingTree" "frame" "[I") (kIn 57 (by decide +kernel) rfl)) (fun _ h9 => h9) rfl hin rfl (by decide +kernel) rfl rfl (Nat.le_of_ble_eq_true rfl) d_P_init_17.1 (fun H locs hP hD hS => ?_)
  have hP : va_P D kCl [(h0, .inr (1, [.ref q7, .ref q15, .null, .null])), (q7, .inl (cI, 96, .inl (fun _ => (0 : Int32)))), (q15, .inl (cI, 96, .inl (fun _ => (0 : Int32))))] H := hP
  have hD : va_D A [(h0, .inr (1, [.ref q7, .ref q15, .null, .null])), (q7, .inl (cI, 96, .inl (fun _ => (0 : Int32)))), (q15, .inl (cI, 96, .inl (fun _ => (0 : Int32))))] := hD
  refine lv_aload_n hx hb d_P_init_20.1 rfl (lv_at hl 0 rfl) ?_
  refine lv_bipush (v := 96) hx hb d_P_init_21.1 (by decide) ?_
  refine kn_newI (N' := 96) hx hb (hts (.arrayClass .int) (kIn 70 (by decide +kernel) rfl)) hK 0 rfl hP hD hS hA (by decide) (by decide) (by decide) (Nat.le_of_ble_eq_true rfl) (Nat.le_of_ble_eq_true rfl) d_P_init_23.1 (fun q23 H hP hD hS => ?_)
  have hP : va_P D kCl [(h0, .inr (1, [.ref q7, .ref q15, .null, .null])), (q7, .inl (cI, 96, .inl (fun _ => (0 : Int32)))), (q15, .inl (cI, 96, .inl (fun _ => (0 : Int32)))), (q23, .inl (cI, 96, .inl (fun _ => (0 : Int32))))] H := hP
  have hD : va_D A [(h0, .inr (1, [.ref q7, .ref q15, .null, .null])), (q7, .inl (cI, 96, .inl (fun _ => (0 : Int32)))), (q15, .inl (cI, 96, .inl (fun _ => (0 : Int32)))), (q23, .inl (cI, 96, .inl (fun _ => (0 : Int32))))] := hD
  refine va_putF (D := D) (ci := 1) (v := .ref q23) (ty := .array .int) (C := R_P) (T := F_P) (N := 4) hx hb hts uw_P ft_P ft_P_ok fn_P hown hK hP hD hS 0 rfl rfl 2 (by decide) (hts (.fieldLink "PagerKernel$MappingTree" 18 "PagerKernel$MappingTree" "depth" "[I") (kIn 59 (by decide +kernel) rfl)) (fun _ h9 => h9) rfl hin rfl (by decide +kernel) rfl rfl (Nat.le_of_ble_eq_true rfl) d_P_init_25.1 (fun H locs hP hD hS => ?_)
  have hP : va_P D kCl [(h0, .inr (1, [.ref q7, .ref q15, .ref q23, .null])), (q7, .inl (cI, 96, .inl (fun _ => (0 : Int32)))), (q15, .inl (cI, 96, .inl (fun _ => (0 : Int32)))), (q23, .inl (cI, 96, .inl (fun _ => (0 : Int32))))] H := hP
  have hD : va_D A [(h0, .inr (1, [.ref q7, .ref q15, .ref q23, .null])), (q7, .inl (cI, 96, .inl (fun _ => (0 : Int32)))), (q15, .inl (cI, 96, .inl (fun _ => (0 : Int32)))), (q23, .inl (cI, 96, .inl (fun _ => (0 : Int32))))] := hD
  refine lv_aload_n hx hb d_P_init_28.1 rfl (lv_at hl 0 rfl) ?_
  refine lv_bipush (v := 96) hx hb d_P_init_29.1 (by decide) ?_
  refine kn_newI (N' := 96) hx hb (hts (.arrayClass .int) (kIn 70 (by decide +kernel) rfl)) hK 0 rfl hP hD hS hA (by decide) (by decide) (by decide) (Nat.le_of_ble_eq_true rfl) (Nat.le_of_ble_eq_true rfl) d_P_init_31.1 (fun q31 H hP hD hS => ?_)
  have hP : va_P D kCl [(h0, .inr (1, [.ref q7, .ref q15, .ref q23, .null])), (q7, .inl (cI, 96, .inl (fun _ => (0 : Int32)))), (q15, .inl (cI, 96, .inl (fun _ => (0 : Int32)))), (q23, .inl (cI, 96, .inl (fun _ => (0 : Int32)))), (q31, .inl (cI, 96, .inl (fun _ => (0 : Int32))))] H := hP
  have hD : va_D A [(h0, .inr (1, [.ref q7, .ref q15, .ref q23, .null])), (q7, .inl (cI, 96, .inl (fun _ => (0 : Int32)))), (q15, .inl (cI, 96, .inl (fun _ => (0 : Int32)))), (q23, .inl (cI, 96, .inl (fun _ => (0 : Int32)))), (q31, .inl (cI, 96, .inl (fun _ => (0 : Int32))))] := hD
  refine va_putF (D := D) (ci := 1) (v := .ref q31) (ty := .array .int) (C := R_P) (T := F_P) (N := 4) hx hb hts uw_P ft_P ft_P_ok fn_P hown hK hP hD hS 0 rfl rfl 3 (by decide) (hts (.fieldLink "PagerKernel$MappingTree" 21 "PagerKernel$MappingTree" "parent" "[I") (kIn 60 (by decide +kernel) rfl)) (fun _ h9 => h9) rfl hin rfl (by decide +kernel) rfl rfl (Nat.le_of_ble_eq_true rfl) d_P_init_33.1 (fun H locs hP hD hS => ?_)
  have hP : va_P D kCl [(h0, .inr (1, [.ref q7, .ref q15, .ref q23, .ref q31])), (q7, .inl (cI, 96, .inl (fun _ => (0 : Int32)))), (q15, .inl (cI, 96, .inl (fun _ => (0 : Int32)))), (q23, .inl (cI, 96, .inl (fun _ => (0 : Int32)))), (q31, .inl (cI, 96, .inl (fun _ => (0 : Int32))))] H := hP
  have hD : va_D A [(h0, .inr (1, [.ref q7, .ref q15, .ref q23, .ref q31])), (q7, .inl (cI, 96, .inl (fun _ => (0 : Int32)))), (q15, .inl (cI, 96, .inl (fun _ => (0 : Int32)))), (q23, .inl (cI, 96, .inl (fun _ => (0 : Int32)))), (q31, .inl (cI, 96, .inl (fun _ => (0 : Int32))))] := hD
  have hB : kB lyM D cI cB cT (fun k => [h0, q7, q15, q23, q31].getD k 0) (fun _ _ => 0) H := kB_of hP hD
  refine W.to (c_P_init_rest (u := fun _ _ => 0) (l := l) (D := D) (cI := cI) (cB := cB) (cT := cT) (ad := (fun k => [h0, q7, q15, q23, q31].getD k 0)) (d := 0) p e _ s m _ below meth c H locs _ _ ls A ⟨⟨hx, hb, hml, hown, hts⟩, hr, hlocks, hK, ⟨Nat.zero_le _, Nat.zero_le _⟩, ⟨Nat.le_of_ble_eq_true rfl, Nat.le_of_ble_eq_true rfl⟩, fun q hq => ?_⟩ hB hS ⟨hl.1, hl.2.1, fun i v hi => ?_⟩) (fun t ht => ?_)
  · obtain ⟨k, hk, rfl⟩ := hq
    exact hD.2 k _ (kCs_at (ly := lyM) (cI := cI) (cB := cB) (cT := cT) (ad := (fun k => [h0, q7, q15, q23, q31].getD k 0)) (u := fun _ _ => 0) hk)
  · rcases i with _ | _ | i
    · cases hi; exact ⟨lv_at hl 0 rfl, rfl⟩
    · cases hi
    · cases hi
  · obtain ⟨oc, h1, h2, ⟨h3, h4, h5, h6⟩, h7⟩ := ht
    refine ⟨oc, h1, h2, ⟨⟨(q7, q15, q23, q31), h3, trivial, h4.1, h5, kCs_D (ly := lyM) (cI := cI) (cB := cB) (cT := cT) (u := pIni 16) h4.2 (fun q hq => ?_)⟩, h6⟩, h7⟩
    obtain ⟨k, hk, rfl⟩ := hq
    exact hD.2 k _ (kCs_at (ly := lyM) (cI := cI) (cB := cB) (cT := cT) (ad := (fun k => [h0, q7, q15, q23, q31].getD k 0)) (u := fun _ _ => 0) hk)
end KNA
