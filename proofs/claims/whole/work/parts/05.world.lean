section KWO
abbrev kSt : Type := Nat → Nat → Int32
/-- a layout: how many cells; a cell's kind (below 10: an object of that class; 10: ints; 11: booleans; 12: rows); how many places it has; which of them are references, and to which cell -/
abbrev kLy : Type := Nat × (Nat → Nat) × (Nat → Nat) × (Nat → Nat → Option Nat)
def kVal (ly : kLy) (ad : Nat → Nat) (f : Nat → Int32) (k j : Nat) : Value := match ly.2.2.2 k j with
  | some t => .ref (ad t)
  | none => .int (f j)
def kEl (ly : kLy) (cI cB cT : ClassId) (ad : Nat → Nat) (f : Nat → Int32) (k : Nat) : va_E :=
  if ly.2.1 k = 10 then .inl (cI, ly.2.2.1 k, .inl f)
  else if ly.2.1 k = 11 then .inl (cB, ly.2.2.1 k, .inl f)
  else if ly.2.1 k = 12 then .inl (cT, ly.2.2.1 k, .inr (.inr (.inr (.inr (fun j => (ly.2.2.2 k j).map ad)))))
  else .inr (ly.2.1 k, (List.range (ly.2.2.1 k)).map (kVal ly ad f k))
def kCs (ly : kLy) (cI cB cT : ClassId) (ad : Nat → Nat) (u : kSt) : va_W := (List.range ly.1).map fun k => (ad k, kEl ly cI cB cT ad (u k) k)
def kB (ly : kLy) (D : va_G) (cI cB cT : ClassId) (ad : Nat → Nat) (u : kSt) (H : Heap) : Prop := va_P D kCl (kCs ly cI cB cT ad u) H ∧ ∀ i j, i < ly.1 → j < ly.1 → ad i = ad j → i = j
def kA (ly : kLy) (ad : Nat → Nat) : Nat → Prop := fun q => ∃ k, k < ly.1 ∧ q = ad k
/-- the world of a layout -/
def kWl (ly : kLy) (l : Launch) (D : va_G) (cI cB cT : ClassId) (ad : Nat → Nat) : kW kSt := (l, D, [(cI, .int), (cB, .boolean), (cT, .object kTh)], ad, kB ly D cI cB cT ad, kA ly ad)
def kup (u : kSt) (k j : Nat) (v : Int32) : kSt := fun a b => if a = k ∧ b = j then v else u a b
theorem kup_row (u : kSt) (k j : Nat) (v : Int32) : kup u k j v k = upd (u k) j v := by
  funext b
  simp [kup, upd]
theorem kup_ne (u : kSt) {k a : Nat} (j : Nat) (v : Int32) (h : a ≠ k) : kup u k j v a = u a := by
  funext b
  simp [kup, h]
theorem kup_eq (u : kSt) (k j : Nat) (v : Int32) : kup u k j v k j = v := by simp [kup]
theorem kCs_at {ly : kLy} {cI cB cT : ClassId} {ad : Nat → Nat} {u : kSt} {k : Nat} (hk : k < ly.1) : (kCs ly cI cB cT ad u)[k]? = some (ad k, kEl ly cI cB cT ad (u k) k) := by
  unfold kCs
  rw [List.getElem?_map, List.getElem?_range hk]
  rfl
theorem kCs_of {ly : kLy} {cI cB cT : ClassId} {ad : Nat → Nat} {u : kSt} {k : Nat} {q : Nat × va_E} (h : (kCs ly cI cB cT ad u)[k]? = some q) : k < ly.1 ∧ q = (ad k, kEl ly cI cB cT ad (u k) k) := by
  have h1 := (List.getElem?_eq_some_iff.mp h).1
  have h2 : k < ly.1 := by simpa [kCs] using h1
  rw [kCs_at h2] at h
  exact ⟨h2, (Option.some.inj h).symm⟩
theorem kCs_D {ly : kLy} {cI cB cT : ClassId} {ad : Nat → Nat} {u : kSt} {A : Nat → Prop} (hi : ∀ i j, i < ly.1 → j < ly.1 → ad i = ad j → i = j) (hA : ∀ q, kA ly ad q → A q) : va_D A (kCs ly cI cB cT ad u) := by
  refine ⟨fun i j p q h1 h2 h3 => ?_, fun k q h => ?_⟩
  · obtain ⟨g1, rfl⟩ := kCs_of h1
    obtain ⟨g2, rfl⟩ := kCs_of h2
    exact hi i j g1 g2 h3
  · obtain ⟨g1, rfl⟩ := kCs_of h
    exact hA _ ⟨k, g1, rfl⟩
theorem kCs_set {ly : kLy} {cI cB cT : ClassId} {ad : Nat → Nat} {u : kSt} {k j : Nat} {v : Int32} {e : va_E} (hk : k < ly.1) (he : e = kEl ly cI cB cT ad (upd (u k) j v) k) : (kCs ly cI cB cT ad u).set k (ad k, e) = kCs ly cI cB cT ad (kup u k j v) := by
  subst he
  apply List.ext_getElem?
  intro i
  by_cases hik : i = k
  · subst hik
    rw [List.getElem?_set_self (by simpa [kCs] using hk), kCs_at hk, kup_row]
  · rw [List.getElem?_set_ne (Ne.symm hik)]
    by_cases hi : i < ly.1
    · rw [kCs_at hi, kCs_at hi, kup_ne u j v hik]
    · rw [List.getElem?_eq_none (by simpa [kCs] using hi), List.getElem?_eq_none (by simpa [kCs] using hi)]
theorem kEl_i {ly : kLy} {cI cB cT : ClassId} {ad : Nat → Nat} {f : Nat → Int32} {k : Nat} (h : ly.2.1 k = 10) : kEl ly cI cB cT ad f k = .inl (cI, ly.2.2.1 k, .inl f) := by simp [kEl, h]
theorem kEl_b {ly : kLy} {cI cB cT : ClassId} {ad : Nat → Nat} {f : Nat → Int32} {k : Nat} (h : ly.2.1 k = 11) : kEl ly cI cB cT ad f k = .inl (cB, ly.2.2.1 k, .inl f) := by simp [kEl, h]
theorem kEl_q {ly : kLy} {cI cB cT : ClassId} {ad : Nat → Nat} {f : Nat → Int32} {k : Nat} (h : ly.2.1 k = 12) : kEl ly cI cB cT ad f k = .inl (cT, ly.2.2.1 k, .inr (.inr (.inr (.inr (fun j => (ly.2.2.2 k j).map ad))))) := by simp [kEl, h]
theorem kEl_o {ly : kLy} {cI cB cT : ClassId} {ad : Nat → Nat} {f : Nat → Int32} {k ci : Nat} (h : ly.2.1 k = ci) (hc : ci < 10) : kEl ly cI cB cT ad f k = .inr (ci, (List.range (ly.2.2.1 k)).map (kVal ly ad f k)) := by
  subst h
  unfold kEl
  rw [if_neg (by omega), if_neg (by omega), if_neg (by omega)]
/-- a field by its link: the class's number, the field's place -/
def kF (own : String) (idx ci j : Nat) : Prop := ∃ (C : String) (T : u_T) (N : Nat), kCl[ci]? = some (C, T, N) ∧ j < N ∧ Cond.fieldLink own idx (T j).1 (T j).2.1 (T j).2.2.1 ∈ kWS ∧ ∀ q ∈ u_ws C T N, q ∈ kWS
/-- a field that may be written -/
def kFp (own : String) (idx ci j : Nat) (ty : FieldType) : Prop := ∃ (C : String) (T : u_T) (N : Nat) (ty0 : Nat → FieldType), kCl[ci]? = some (C, T, N) ∧ j < N ∧ Cond.fieldLink own idx (T j).1 (T j).2.1 (T j).2.2.1 ∈ kWS ∧ (∀ q ∈ u_ws C T N, q ∈ kWS) ∧ (∀ k, k < N → parseFieldDescriptor (T k).2.2.1 = some (ty0 k)) ∧ (∀ a, a < N → ∀ b, b < N → a ≠ b → (T a).2.1 ≠ (T b).2.1) ∧ (T j).2.2.2 = false ∧ parseFieldDescriptor (T j).2.2.1 = some ty
variable {ly : kLy} {l : Launch} {D : va_G} {cI cB cT : ClassId} {ad : Nat → Nat} {mt : kMT} {d pc q : Nat} {L : List (Option Value)} {S : List Value} {u u' : kSt} {r : Option Value}
theorem k_getf {idx ci j k : Nat} (hd : kI mt pc (.getfield idx) 3 q) (hf : kF mt.1 idx ci j) (hk : k < ly.1) (hkd : ly.2.1 k = ci) (hc : ci < 10) (hj : j < ly.2.2.1 k) (hr : ly.2.2.2 k j = none) (kk : KAt (kWl ly l D cI cB cT ad) mt d q L (.int (u k j) :: S) u r u') : KAt (kWl ly l D cI cB cT ad) mt d pc L (.ref k :: S) u r u' := by
  intro p e R s m args below meth c H locs cells slots ls A h hB hS hl
  obtain ⟨C, T, N, h1, h2, h3, h4⟩ := hf
  have hat : (kCs ly cI cB cT ad u)[k]? = some (ad k, .inr (ci, (List.range (ly.2.2.1 k)).map (kVal ly ad (u k) k))) := by rw [kCs_at hk, kEl_o hkd hc]
  refine va_get (D := D) (ci := ci) (v := .int (u k j)) (C := C) (T := T) (N := N) h.1.1 h.1.2.1 h.1.2.2.2.2 h4 h.1.2.2.2.1 h.2.2.2.1 hB.1 k hat h1 j h2 (h.1.2.2.2.2 _ h3) (fun _ z => z) (by rw [List.getElem?_map, List.getElem?_range hj]; simp [kVal, hr]) hd.1 ?_
  rw [hd.2]
  exact kk _ _ _ _ _ _ _ _ _ _ _ _ _ _ _ h hB hS hl
theorem k_getr {idx ci j k t : Nat} (hd : kI mt pc (.getfield idx) 3 q) (hf : kF mt.1 idx ci j) (hk : k < ly.1) (hkd : ly.2.1 k = ci) (hc : ci < 10) (hj : j < ly.2.2.1 k) (hr : ly.2.2.2 k j = some t) (kk : KAt (kWl ly l D cI cB cT ad) mt d q L (.ref t :: S) u r u') : KAt (kWl ly l D cI cB cT ad) mt d pc L (.ref k :: S) u r u' := by
  intro p e R s m args below meth c H locs cells slots ls A h hB hS hl
  obtain ⟨C, T, N, h1, h2, h3, h4⟩ := hf
  have hat : (kCs ly cI cB cT ad u)[k]? = some (ad k, .inr (ci, (List.range (ly.2.2.1 k)).map (kVal ly ad (u k) k))) := by rw [kCs_at hk, kEl_o hkd hc]
  refine va_get (D := D) (ci := ci) (v := .ref (ad t)) (C := C) (T := T) (N := N) h.1.1 h.1.2.1 h.1.2.2.2.2 h4 h.1.2.2.2.1 h.2.2.2.1 hB.1 k hat h1 j h2 (h.1.2.2.2.2 _ h3) (fun _ z => z) (by rw [List.getElem?_map, List.getElem?_range hj]; simp [kVal, hr]) hd.1 ?_
  rw [hd.2]
  exact kk _ _ _ _ _ _ _ _ _ _ _ _ _ _ _ h hB hS hl
theorem k_putf {idx ci j k : Nat} {ty : FieldType} {v : Int32} (hd : kI mt pc (.putfield idx) 3 q) (hf : kFp mt.1 idx ci j ty) (hk : k < ly.1) (hkd : ly.2.1 k = ci) (hc : ci < 10) (hj : j < ly.2.2.1 k) (hr : ly.2.2.2 k j = none) (hn : narrow ty (.int v) = .int v) (hfit : fits ty (.int v) = true) (kk : KAt (kWl ly l D cI cB cT ad) mt d q L S (kup u k j v) r u') : KAt (kWl ly l D cI cB cT ad) mt d pc L (.int v :: .ref k :: S) u r u' := by
  intro p e R s m args below meth c H locs cells slots ls A h hB hS hl
  obtain ⟨C, T, N, ty0, h1, h2, h3, h4, h5, h6, h7, h8⟩ := hf
  have he : (Sum.inr (ci, ((List.range (ly.2.2.1 k)).map (kVal ly ad (u k) k)).set j (.int v)) : va_E) = kEl ly cI cB cT ad (upd (u k) j v) k := by
    rw [kEl_o hkd hc]
    congr 2
    apply List.ext_getElem?
    intro i
    by_cases hij : i = j
    · subst hij
      rw [List.getElem?_set_self (by simpa using hj), List.getElem?_map, List.getElem?_range hj]
      simp [kVal, hr, upd]
    · rw [List.getElem?_set_ne (Ne.symm hij), List.getElem?_map, List.getElem?_map]
      by_cases hi : i < ly.2.2.1 k
      · rw [List.getElem?_range hi]
        simp [kVal, upd, hij]
      · rw [List.getElem?_eq_none (by simpa using hi)]
        rfl
  have hat : (kCs ly cI cB cT ad u)[k]? = some (ad k, .inr (ci, (List.range (ly.2.2.1 k)).map (kVal ly ad (u k) k))) := by rw [kCs_at hk, kEl_o hkd hc]
  refine va_put (D := D) (ci := ci) (v := .int v) (ty := ty) (C := C) (T := T) (N := N) h.1.1 h.1.2.1 h.1.2.2.2.2 h4 ty0 h5 h6 h.1.2.2.2.1 h.2.2.2.1 hB.1 (kCs_D hB.2 h.2.2.2.2.2.2) hS k hat h1 j h2 (h.1.2.2.2.2 _ h3) (fun _ z => z) h7 h8 hn hfit (by simpa using hj) hd.1 (fun H1 locs1 hP _ hS1 => ?_)
  rw [hd.2]
  rw [kCs_set (j := j) (v := v) hk he] at hP
  exact kk _ _ _ _ _ _ _ _ _ _ _ _ _ _ _ h ⟨hP, hB.2⟩ hS1 hl
theorem k_iald {k : Nat} {i : Int32} (hd : kI mt pc .iaload 1 q) (hk : k < ly.1) (hkd : ly.2.1 k = 10) (hin : vp_in i (ly.2.2.1 k)) (kk : KAt (kWl ly l D cI cB cT ad) mt d q L (.int (u k i.toNatClampNeg) :: S) u r u') : KAt (kWl ly l D cI cB cT ad) mt d pc L (.int i :: .ref k :: S) u r u' := by
  intro p e R s m args below meth c H locs cells slots ls A h hB hS hl
  have hat : (kCs ly cI cB cT ad u)[k]? = some (ad k, .inl (cI, ly.2.2.1 k, .inl (u k))) := by rw [kCs_at hk, kEl_i hkd]
  refine va_iald h.1.1 h.1.2.1 h.2.2.2.1 hB.1 k 0 hat rfl hin hd.1 ?_
  rw [hd.2]
  exact kk _ _ _ _ _ _ _ _ _ _ _ _ _ _ _ h hB hS hl
theorem k_bald {k : Nat} {i : Int32} (hd : kI mt pc .baload 1 q) (hk : k < ly.1) (hkd : ly.2.1 k = 11) (hin : vp_in i (ly.2.2.1 k)) (kk : KAt (kWl ly l D cI cB cT ad) mt d q L (.int (u k i.toNatClampNeg) :: S) u r u') : KAt (kWl ly l D cI cB cT ad) mt d pc L (.int i :: .ref k :: S) u r u' := by
  intro p e R s m args below meth c H locs cells slots ls A h hB hS hl
  have hat : (kCs ly cI cB cT ad u)[k]? = some (ad k, .inl (cB, ly.2.2.1 k, .inl (u k))) := by rw [kCs_at hk, kEl_b hkd]
  refine va_zald h.1.1 h.1.2.1 h.2.2.2.1 hB.1 k 1 hat rfl hin hd.1 ?_
  rw [hd.2]
  exact kk _ _ _ _ _ _ _ _ _ _ _ _ _ _ _ h hB hS hl
theorem k_aald {k t : Nat} {i : Int32} (hd : kI mt pc .aaload 1 q) (hk : k < ly.1) (hkd : ly.2.1 k = 12) (hin : vp_in i (ly.2.2.1 k)) (ht : ly.2.2.2 k i.toNatClampNeg = some t) (kk : KAt (kWl ly l D cI cB cT ad) mt d q L (.ref t :: S) u r u') : KAt (kWl ly l D cI cB cT ad) mt d pc L (.int i :: .ref k :: S) u r u' := by
  intro p e R s m args below meth c H locs cells slots ls A h hB hS hl
  have hat : (kCs ly cI cB cT ad u)[k]? = some (ad k, .inl (cT, ly.2.2.1 k, .inr (.inr (.inr (.inr (fun j => (ly.2.2.2 k j).map ad)))))) := by rw [kCs_at hk, kEl_q hkd]
  refine va_aldq (C := kTh) h.1.1 h.1.2.1 h.2.2.2.1 hB.1 k 2 hat rfl hin hd.1 ?_
  rw [hd.2, ht]
  exact kk _ _ _ _ _ _ _ _ _ _ _ _ _ _ _ h hB hS hl
theorem k_alen {k : Nat} {v : Int32} (hd : kI mt pc .arraylength 1 q) (hk : k < ly.1) (hkd : ly.2.1 k = 12) (hv : Int32.ofNat (ly.2.2.1 k) = v) (kk : KAt (kWl ly l D cI cB cT ad) mt d q L (.int v :: S) u r u') : KAt (kWl ly l D cI cB cT ad) mt d pc L (.ref k :: S) u r u' := by
  intro p e R s m args below meth c H locs cells slots ls A h hB hS hl
  have hat : (kCs ly cI cB cT ad u)[k]? = some (ad k, .inl (cT, ly.2.2.1 k, .inr (.inr (.inr (.inr (fun j => (ly.2.2.2 k j).map ad)))))) := by rw [kCs_at hk, kEl_q hkd]
  refine va_alen (ty := .object kTh) (v := v) h.1.1 h.1.2.1 h.2.2.2.1 hB.1 k 2 hat rfl hv hd.1 ?_
  rw [hd.2]
  exact kk _ _ _ _ _ _ _ _ _ _ _ _ _ _ _ h hB hS hl
theorem k_iast {k : Nat} {i v : Int32} (hd : kI mt pc .iastore 1 q) (hk : k < ly.1) (hkd : ly.2.1 k = 10) (hin : vp_in i (ly.2.2.1 k)) (kk : KAt (kWl ly l D cI cB cT ad) mt d q L S (kup u k i.toNatClampNeg v) r u') : KAt (kWl ly l D cI cB cT ad) mt d pc L (.int v :: .int i :: .ref k :: S) u r u' := by
  intro p e R s m args below meth c H locs cells slots ls A h hB hS hl
  have hat : (kCs ly cI cB cT ad u)[k]? = some (ad k, .inl (cI, ly.2.2.1 k, .inl (u k))) := by rw [kCs_at hk, kEl_i hkd]
  refine va_iast h.1.1 h.1.2.1 h.2.2.2.1 hB.1 (kCs_D hB.2 h.2.2.2.2.2.2) hS k 0 hat rfl hin hd.1 (fun H1 locs1 hP _ hS1 => ?_)
  rw [hd.2]
  rw [kCs_set (j := i.toNatClampNeg) (v := v) hk (by rw [kEl_i hkd])] at hP
  exact kk _ _ _ _ _ _ _ _ _ _ _ _ _ _ _ h ⟨hP, hB.2⟩ hS1 hl
theorem k_bast {k : Nat} {i v : Int32} (hd : kI mt pc .bastore 1 q) (hk : k < ly.1) (hkd : ly.2.1 k = 11) (hin : vp_in i (ly.2.2.1 k)) (hn : vp_nar .boolean v = v) (kk : KAt (kWl ly l D cI cB cT ad) mt d q L S (kup u k i.toNatClampNeg v) r u') : KAt (kWl ly l D cI cB cT ad) mt d pc L (.int v :: .int i :: .ref k :: S) u r u' := by
  intro p e R s m args below meth c H locs cells slots ls A h hB hS hl
  have hat : (kCs ly cI cB cT ad u)[k]? = some (ad k, .inl (cB, ly.2.2.1 k, .inl (u k))) := by rw [kCs_at hk, kEl_b hkd]
  refine va_zast h.1.1 h.1.2.1 h.2.2.2.1 hB.1 (kCs_D hB.2 h.2.2.2.2.2.2) hS k 1 hat rfl hin hd.1 (fun H1 locs1 hP _ hS1 => ?_)
  rw [hd.2]
  rw [hn, kCs_set (j := i.toNatClampNeg) (v := v) hk (by rw [kEl_b hkd])] at hP
  exact kk _ _ _ _ _ _ _ _ _ _ _ _ _ _ _ h ⟨hP, hB.2⟩ hS1 hl
theorem kRcv_of {C : String} {T : u_T} {N ci k : Nat} (hk : k < ly.1) (hkd : ly.2.1 k = ci) (hc : ci < 10) (h1 : kCl[ci]? = some (C, T, N)) : kRcv (kWl ly l D cI cB cT ad) u k C := by
  intro H s hB hK
  have hat : (kCs ly cI cB cT ad u)[k]? = some (ad k, .inr (ci, (List.range (ly.2.2.1 k)).map (kVal ly ad (u k) k))) := by rw [kCs_at hk, kEl_o hkd hc]
  exact va_recv hK hB.1 h1 hat
end KWO
