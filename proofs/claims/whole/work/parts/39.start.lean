set_option maxHeartbeats 4000000 in
set_option maxRecDepth 100000 in
/-- the second object, and the loop -/
theorem whole_two {p : Program} {e : Env} {s : State} {m : MethodId} {below : List Frame} {meth : Method} {c : Code} (l : Launch) {b L : Nat} {xs : Nat → Int32} (hL : L ≤ 2560) {D : va_G} {cI cB cT : ClassId} {ad1 : Nat → Nat} {H : Heap} {locs : List Loc} {ls : Array Slot}
    (hx : p.tables.exec = Jvm.exec) (hb : c.code = code) (hr : meth.sig.returnType = ret) (hml : c.maxLocals = 4) (hown : s.vm.findClass "PagerKernelLaw" = some m.cls) (hts : ∀ w ∈ kWS, w.before #[Value.ref b] s = true) (hX : va_X b L xs s s.heap) (hbl : b < s.heap.size) (hlocks : meth.locks = false) (hK : va_K D kCl (ktys cI cB cT) s) (hl : lv_has ls 4 [(0, .ref b)]) (hge1 : ∀ k, k < 24 → s.heap.size ≤ ad1 k) (hB1 : kB lyC D cI cB cT ad1 (cBegin uI 0 0 (-1)) H) (hS : va_S (fun q => s.heap.size ≤ q) s.heap H locs) :
    W p l e room_1 s m #[Value.ref b] below meth c H locs (0 + 1 + 23) (0 + 5 + 596) (lw_Z below #[Value.ref b] s) (F0 m (0 + 3 + 1 + 3) ls [.ref (ad1 0)]) := by
  refine W.eq (g2 := F0 m 7 ls [.ref (ad1 0)]) rfl ?_
  have hA : ∀ q : Nat, s.heap.size ≤ q → (fun q => s.heap.size ≤ q) q := fun q h => h
  refine lv_astore_n hx hb d_L_law_7.1 rfl hl (by decide) rfl (fun ls hl => ?_)
  have hl : lv_has ls 4 [(1, .ref (ad1 0)), (0, .ref b)] := hl
  generalize hws : kCs lyC cI cB cT ad1 (cBegin uI 0 0 (-1)) = ws
  have hws_of : ∀ (k : Nat) (q : Nat × va_E), ws[k]? = some q → k < 24 ∧ q.1 = ad1 k := fun k q hq => by
    rw [← hws] at hq
    obtain ⟨g1, g2⟩ := kCs_of hq
    exact ⟨g1, by rw [g2]⟩
  have hws_at : ∀ k, k < 24 → ∃ x, ws[k]? = some (ad1 k, x) := fun k hk => ⟨_, by rw [← hws]; exact kCs_at (ly := lyC) hk⟩
  have hP0 : va_P D kCl ws H := by rw [← hws]; exact hB1.1
  have hD0 : va_D (fun q => s.heap.size ≤ q) ws := ⟨fun i j x y h1 h2 h3 => by
      obtain ⟨g1, g2⟩ := hws_of i x h1
      obtain ⟨g3, g4⟩ := hws_of j y h2
      exact hB1.2 i j g1 g3 (by rw [← g2, ← g4]; exact h3), fun k q h => by
      obtain ⟨g1, g2⟩ := hws_of k q h
      show s.heap.size ≤ q.1
      rw [g2]
      exact hge1 k g1⟩
  have hlen : ws.length = 24 := by rw [← hws]; simp [kCs]
  refine va_new (ci := 3) (fs := [.int 0, .int 0, .null, .null, .null, .null, .null, .null, .null, .null, .null, .null, .null, .null, .null, .null, .null, .null, .null, .null, .null, .null, .null, .null, .null, .null]) (C := R_R) (T := F_R) (N := 26) hx hb hts uw_R ft_R ft_R_ok hown (hts (.classLink "PagerKernelLaw" 10 R_R) (kIn 404 (by decide +kernel) rfl)) (hts (.instantiable R_R 26) (kIn 405 (by decide +kernel) rfl)) (hts (.initialized "PagerKernelModel") (kIn 37 (by decide +kernel) rfl)) hK hP0 hD0 hS hA rfl (fun j hj => by rcases (show j = 0 ∨ j = 1 ∨ j = 2 ∨ j = 3 ∨ j = 4 ∨ j = 5 ∨ j = 6 ∨ j = 7 ∨ j = 8 ∨ j = 9 ∨ j = 10 ∨ j = 11 ∨ j = 12 ∨ j = 13 ∨ j = 14 ∨ j = 15 ∨ j = 16 ∨ j = 17 ∨ j = 18 ∨ j = 19 ∨ j = 20 ∨ j = 21 ∨ j = 22 ∨ j = 23 ∨ j = 24 ∨ j = 25 by omega) with rfl | rfl | rfl | rfl | rfl | rfl | rfl | rfl | rfl | rfl | rfl | rfl | rfl | rfl | rfl | rfl | rfl | rfl | rfl | rfl | rfl | rfl | rfl | rfl | rfl | rfl <;> rfl) (Nat.le_of_ble_eq_true rfl) (Nat.le_of_ble_eq_true rfl) d_L_law_8.1 (fun h2 H hP hD hS => ?_)
  have hlt1 : ∀ k, k < 24 → ad1 k < H.size := fun k hk => by
    obtain ⟨x, hx1⟩ := hws_at k hk
    exact (hP k (ad1 k, x) (by rw [List.getElem?_append_left (by rw [hlen]; exact hk)]; exact hx1)).lt
  have hB1 : kB lyC D cI cB cT ad1 (cBegin uI 0 0 (-1)) H := ⟨fun k q hq => by
      rw [hws] at hq
      exact hP k q (by rw [List.getElem?_append_left (List.getElem?_eq_some_iff.mp hq).1]; exact hq), hB1.2⟩
  have hlast : (ws ++ [(h2, .inr (3, [.int 0, .int 0, .null, .null, .null, .null, .null, .null, .null, .null, .null, .null, .null, .null, .null, .null, .null, .null, .null, .null, .null, .null, .null, .null, .null, .null]))])[24]? = some (h2, .inr (3, [.int 0, .int 0, .null, .null, .null, .null, .null, .null, .null, .null, .null, .null, .null, .null, .null, .null, .null, .null, .null, .null, .null, .null, .null, .null, .null, .null])) := by
    rw [List.getElem?_append_right (by omega), hlen]
    rfl
  have hne : ∀ k, k < 24 → ad1 k ≠ h2 := fun k hk e9 => by
    obtain ⟨x, hx1⟩ := hws_at k hk
    have h9 := hD.1 k 24 (ad1 k, x) (h2, .inr (3, [.int 0, .int 0, .null, .null, .null, .null, .null, .null, .null, .null, .null, .null, .null, .null, .null, .null, .null, .null, .null, .null, .null, .null, .null, .null, .null, .null])) (by rw [List.getElem?_append_left (by rw [hlen]; exact hk)]; exact hx1) hlast e9
    omega
  have hh2 : s.heap.size ≤ h2 := hD.2 24 _ hlast
  have hPc : va_P D kCl [(h2, .inr (3, [.int 0, .int 0, .null, .null, .null, .null, .null, .null, .null, .null, .null, .null, .null, .null, .null, .null, .null, .null, .null, .null, .null, .null, .null, .null, .null, .null]))] H := fun k q hq => by
    rcases k with _ | k
    · cases hq; exact hP 24 _ hlast
    · cases hq
  have hDc : va_D (fun q => s.heap.size ≤ q) [(h2, .inr (3, [.int 0, .int 0, .null, .null, .null, .null, .null, .null, .null, .null, .null, .null, .null, .null, .null, .null, .null, .null, .null, .null, .null, .null, .null, .null, .null, .null]))] := by
    refine ⟨fun i j x y g1 g2 _ => ?_, fun k q hq => ?_⟩
    · rcases i with _ | i
      · rcases j with _ | j
        · rfl
        · cases g2
      · cases g1
    · rcases k with _ | k
      · cases hq; exact hh2
      · cases hq
  have hFc := va_free (wc := [(h2, .inr (3, [.int 0, .int 0, .null, .null, .null, .null, .null, .null, .null, .null, .null, .null, .null, .null, .null, .null, .null, .null, .null, .null, .null, .null, .null, .null, .null, .null]))]) hDc hS hA [0] rfl
  refine lv_dup hx hb d_L_law_11.1 rfl ?_
  refine va_callv (A0 := fun q => s.heap.size ≤ q) (va_runI (As := []) (rest := [.ref h2]) ⟨hx, hb, hml, hown, hts⟩ (c_R_init l D cI cB cT h2 H.size) (cwI 0 hts (kGoodIn (y := y_R_init) (mt' := m_R_init) (kIn 408 (by rfl) rfl)) rfl rfl rfl (hts (.initialized "PagerKernelModel") (kIn 37 (by decide +kernel) rfl)) (hts (.methodLink "PagerKernelLaw" 12 y_R_init) (kIn 406 (by decide +kernel) rfl)) (hts (.instanceMethod y_R_init) (kIn 407 (by decide +kernel) rfl)) rfl (by decide +kernel) ⟨(Nat.le_of_ble_eq_true rfl), (Nat.le_of_ble_eq_true rfl)⟩) ⟨fun a U g mk q => by obtain ⟨q0, q1, qP, qK, qD, qX⟩ := q; exact ⟨q0, q1, qP, va_K.moved (u := U) (U := U.calling g mk a) (Vm.Alike.refl U.vm) qK, qD, qX⟩, fun U hU hW => ⟨rfl, by rw [hU], by rw [hU]; exact hPc, va_K.moved hW.alike hK, hDc.weaken (fun _ _ _ _ => trivial), trivial⟩⟩ rfl rfl hl.1 rfl (lv_room (Nat.le_of_ble_eq_true rfl)) d_L_law_12.1 ⟨(Nat.le_of_ble_eq_true rfl), (Nat.le_of_ble_eq_true rfl)⟩) hS (fun q _ h => hFc q h) hFc (fun ad2 t H1 locs1 ht hvm hw hB hz1 hk1 hS1 => ?_)
  obtain ⟨hB2, -, hA2⟩ := hB
  rw [ht] at hB2
  have hw2 : ad2 0 = h2 := hw
  have hA2' : ∀ j, j < 25 → ad2 j = h2 ∨ H.size ≤ ad2 j := fun j hj => by
    rcases hA2 _ ⟨j, hj, rfl⟩ with ⟨k, x, hq⟩ | hq
    · rcases k with _ | k
      · cases hq; exact Or.inl rfl
      · cases hq
    · exact Or.inr hq
  have hge2 : ∀ j, j < 25 → s.heap.size ≤ ad2 j := fun j hj => hFc _ (hA2 _ ⟨j, hj, rfl⟩)
  have hdis : ∀ i j, i < 24 → j < 25 → ad1 i ≠ ad2 j := fun i j hi hj e9 => by
    rcases hA2' j hj with g | g
    · exact hne i hi (e9.trans g)
    · have := hlt1 i hi
      omega
  have hB1 : kB lyC D cI cB cT ad1 (cBegin uI 0 0 (-1)) H1 := hB1.kept (fun k hk => hk1 (ad1 k) (hlt1 k hk) (fun z => by
    rcases z with ⟨j, x, hq⟩ | hq
    · rcases j with _ | j
      · cases hq; exact hne k hk rfl
      · cases hq
    · have := hlt1 k hk
      omega))
  subst hw2
  refine W.eq (g2 := F0 m 15 ls [.ref (ad2 0)]) rfl ?_
  refine lv_astore_n hx hb d_L_law_15.1 rfl hl (by decide) rfl (fun ls hl => ?_)
  have hl : lv_has ls 4 [(2, .ref (ad2 0)), (1, .ref (ad1 0)), (0, .ref b)] := hl
  refine lv_iconst (v := 0) hx hb d_L_law_16.1 (by decide) ?_
  refine lv_istore_n hx hb d_L_law_17.1 rfl hl (by decide) rfl (fun ls hl => ?_)
  have hl : lv_has ls 4 [(0, .ref b), (1, .ref (ad1 0)), (2, .ref (ad2 0)), (3, .int 0)] := lv_sub hl [3, 2, 1, 0] rfl
  have hOk : LOk p e s m below meth c l D cI cB cT ad1 ad2 b L xs := ⟨⟨hx, hb, hml, hown, hts⟩, hr, hlocks, hK, hX, hbl, hge1, hge2, hdis⟩
  exact lc_loop hOk hL (L + 1) 0 _ _ (by omega) (by omega) (Rel.start.mono (by omega) (by omega)) H1 locs1 ls hB1 hB2 hS1 hl
set_option maxHeartbeats 4000000 in
set_option maxRecDepth 100000 in
theorem whole_start {p : Program} {e : Env} {s : State} {m : MethodId} {below : List Frame} {meth : Method} {c : Code} (l : Launch) {b L : Nat} {xs : Nat → Int32} (hL : L ≤ 2560) (C0 : lw_At p s m meth c b L xs) : W p l e room_1 s m #[Value.ref b] below meth c s.heap [] 0 0 (lw_Z below #[Value.ref b] s) (entryFrame m ([Value.ref b] : List Value).toArray 4) := by
  obtain ⟨hx, hb, hr, hml, hown, htbl, hX, hbl, hlocks, -⟩ := C0
  have hts : ∀ w ∈ kWS, w.before #[Value.ref b] s = true := fun w h => htbl w (List.mem_filter.mp h).1
  obtain ⟨cK, iK, hKK⟩ := u_known hts uw_K (hts (.instantiable R_K 5) (kIn 40 (by decide +kernel) rfl))
  obtain ⟨cP, iP, hKP⟩ := u_known hts uw_P (hts (.instantiable R_P 4) (kIn 50 (by decide +kernel) rfl))
  obtain ⟨cH, iH, hKH⟩ := u_known hts uw_H (hts (.instantiable R_H 19) (kIn 71 (by decide +kernel) rfl))
  obtain ⟨cR, iR, hKR⟩ := u_known hts uw_R (hts (.instantiable R_R 26) (kIn 405 (by decide +kernel) rfl))
  obtain ⟨cI, kI0, compI, a1, a2, a3⟩ := Cond.arrayClass_spec (hts (.arrayClass .int) (kIn 70 (by decide +kernel) rfl))
  obtain ⟨cB, kB0, compB, b1, b2, b3⟩ := Cond.arrayClass_spec (hts (.arrayClass .boolean) (kIn 493 (by decide +kernel) rfl))
  have hAO0 : (Cond.arrayOver (.object kTh)).before #[Value.ref b] s = true := htbl _ (List.mem_of_getElem? (i := 48) (by decide +kernel))
  have hAO : va_AO kTh s := va_AO.of hAO0
  obtain ⟨comp, cT, kT, t1, t2, t3, t4, t5⟩ := Cond.arrayOver_spec hAO0
  obtain ⟨D, hK⟩ : ∃ D : va_G, va_K D kCl (ktys cI cB cT) s := by
    refine ⟨(fun c => match c with | 0 => cK | 1 => cP | 2 => cH | _ => cR, fun c => match c with | 0 => iK | 1 => iP | 2 => iH | _ => iR), fun c q hq => ?_, fun k q hq => ?_⟩
    · rcases c with _ | _ | _ | _ | c
      · cases hq; exact hKK
      · cases hq; exact hKP
      · cases hq; exact hKH
      · cases hq; exact hKR
      · cases hq
    · rcases k with _ | _ | _ | k
      · cases hq; exact ⟨fun n z => ⟨fun k h => (by cases h), kI0, a2, compI, a3⟩, a1⟩
      · cases hq; exact ⟨fun n z => ⟨fun k h => (by cases h), kB0, b2, compB, b3⟩, b1⟩
      · cases hq; exact ⟨fun n z => ⟨fun k h => (by cases h), kT, t3, comp, t4⟩, kT, comp, t3, t4, t1, t5⟩
      · cases hq
  have hl := lv_entry ([.ref b]) (n := 4) (Nat.le_of_ble_eq_true rfl)
  rw [lg_entry_eq]
  generalize (lg_sl ([.ref b]) ++ List.replicate (4 - (lg_sl ([.ref b])).length) Slot.unset).toArray = ls at hl ⊢
  have hl : lv_has ls 4 [(0, .ref b)] := hl
  have hS : va_S (fun q => s.heap.size ≤ q) s.heap s.heap [] := va_S.rf
  have hA : ∀ q : Nat, s.heap.size ≤ q → (fun q => s.heap.size ≤ q) q := fun q h => h
  have hP0 : va_P D kCl [] s.heap := fun k q h => by cases h
  have hD0 : va_D (fun q => s.heap.size ≤ q) [] := ⟨fun i j x y h => (by cases h), fun k q h => (by cases h)⟩
  refine va_new (ci := 0) (fs := [.null, .null, .null, .int 0, .int 0]) (C := R_K) (T := F_K) (N := 5) hx hb hts uw_K ft_K ft_K_ok hown (hts (.classLink "PagerKernelLaw" 7 R_K) (kIn 39 (by decide +kernel) rfl)) (hts (.instantiable R_K 5) (kIn 40 (by decide +kernel) rfl)) (hts (.initialized "PagerKernel") (kIn 34 (by decide +kernel) rfl)) hK hP0 hD0 hS hA rfl (fun j hj => by rcases (show j = 0 ∨ j = 1 ∨ j = 2 ∨ j = 3 ∨ j = 4 by omega) with rfl | rfl | rfl | rfl | rfl <;> rfl) (Nat.le_of_ble_eq_true rfl) (Nat.le_of_ble_eq_true rfl) d_L_law_0.1 (fun h1 H hPc hDc hS => ?_)
  have hPc : va_P D kCl [(h1, .inr (0, [.null, .null, .null, .int 0, .int 0]))] H := hPc
  have hDc : va_D (fun q => s.heap.size ≤ q) [(h1, .inr (0, [.null, .null, .null, .int 0, .int 0]))] := hDc
  have hFc := va_free (wc := [(h1, .inr (0, [.null, .null, .null, .int 0, .int 0]))]) hDc hS hA [0] rfl
  refine lv_dup hx hb d_L_law_3.1 rfl ?_
  refine va_callv (A0 := fun q => s.heap.size ≤ q) (va_runI (As := []) (rest := [.ref h1]) ⟨hx, hb, hml, hown, hts⟩ (c_K_init l D cI cB cT h1 H.size) (cwI 0 hts (kGoodIn (y := y_K_init) (mt' := m_K_init) (kIn 43 (by rfl) rfl)) rfl rfl rfl (hts (.initialized "PagerKernel") (kIn 34 (by decide +kernel) rfl)) (hts (.methodLink "PagerKernelLaw" 9 y_K_init) (kIn 41 (by decide +kernel) rfl)) (hts (.instanceMethod y_K_init) (kIn 42 (by decide +kernel) rfl)) rfl (by decide +kernel) ⟨(Nat.le_of_ble_eq_true rfl), (Nat.le_of_ble_eq_true rfl)⟩) ⟨fun a U g mk q => by obtain ⟨q0, q1, qP, qK, qD, qX⟩ := q; exact ⟨q0, q1, qP, va_K.moved (u := U) (U := U.calling g mk a) (Vm.Alike.refl U.vm) qK, qD, va_AO.moved (u := U) (U := U.calling g mk a) (Vm.Alike.refl U.vm) qX⟩, fun U hU hW => ⟨rfl, by rw [hU], by rw [hU]; exact hPc, va_K.moved hW.alike hK, hDc.weaken (fun _ _ _ _ => trivial), va_AO.moved hW.alike hAO⟩⟩ rfl rfl hl.1 rfl (lv_room (Nat.le_of_ble_eq_true rfl)) d_L_law_4.1 ⟨(Nat.le_of_ble_eq_true rfl), (Nat.le_of_ble_eq_true rfl)⟩) hS (fun q _ h => hFc q h) hFc (fun ad1 t H1 locs1 ht hvm hw hB hz1 hk1 hS1 => ?_)
  obtain ⟨hB1, -, hA1⟩ := hB
  rw [ht] at hB1
  have hw1 : ad1 0 = h1 := hw
  have hge1 : ∀ k, k < 24 → s.heap.size ≤ ad1 k := fun k hk => hFc _ (hA1 _ ⟨k, hk, rfl⟩)
  subst hw1
  exact whole_two l hL hx hb hr hml hown hts hX hbl hlocks hK hl hge1 hB1 hS1
