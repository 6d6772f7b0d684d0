section KAT
/-- a value whose references are numbers of cells, at the addresses ad -/
def cv (ad : Nat → Nat) : Value → Value
  | .ref k => .ref (ad k)
  | v => v
theorem cv_cat (ad : Nat → Nat) (v : Value) : (cv ad v).category = v.category := by cases v <;> rfl
/-- a world: launch, tables, array classes, addresses, what the heap holds, which addresses may change -/
abbrev kW (X : Type) : Type := Launch × va_G × List (ClassId × FieldType) × (Nat → Nat) × (X → Heap → Prop) × (Nat → Prop)
abbrev kwL {X : Type} (w : kW X) : Launch := w.1
abbrev kwD {X : Type} (w : kW X) : va_G := w.2.1
abbrev kwT {X : Type} (w : kW X) : List (ClassId × FieldType) := w.2.2.1
abbrev kwA {X : Type} (w : kW X) : Nat → Nat := w.2.2.2.1
abbrev kwB {X : Type} (w : kW X) : X → Heap → Prop := w.2.2.2.2.1
abbrev kwF {X : Type} (w : kW X) : Nat → Prop := w.2.2.2.2.2
/-- the locals: what is known of them -/
def kLo (ad : Nat → Nat) (ls : Array Slot) (nL : Nat) (L : List (Option Value)) : Prop := ls.size = nL ∧ lv_wf ls ∧ ∀ (i : Nat) (v : Value), L[i]? = some (some v) → ls[i]? = some (.val (cv ad v)) ∧ v.category = 1
def kLp (ad : Nat → Nat) : Nat → List (Option Value) → List (Nat × Value)
  | _, [] => []
  | i, none :: L => kLp ad (i + 1) L
  | i, some v :: L => (i, cv ad v) :: kLp ad (i + 1) L
theorem kLp_mem {ad : Nat → Nat} : ∀ (L : List (Option Value)) (i : Nat) (q : Nat × Value), q ∈ kLp ad i L → ∃ (j : Nat) (v : Value), L[j]? = some (some v) ∧ q = (i + j, cv ad v)
  | [], i, q, h => by simp [kLp] at h
  | none :: L, i, q, h => by
    obtain ⟨j, v, h1, h2⟩ := kLp_mem L (i + 1) q h
    exact ⟨j + 1, v, by simpa using h1, by rw [h2, Nat.add_assoc, Nat.add_comm 1 j]⟩
  | some v :: L, i, q, h => by
    rcases List.mem_cons.mp h with h | h
    · exact ⟨0, v, rfl, h⟩
    · obtain ⟨j, v, h1, h2⟩ := kLp_mem L (i + 1) q h
      exact ⟨j + 1, v, by simpa using h1, by rw [h2, Nat.add_assoc, Nat.add_comm 1 j]⟩
theorem kLp_at {ad : Nat → Nat} : ∀ (L : List (Option Value)) (i j : Nat) (v : Value), L[j]? = some (some v) → (i + j, cv ad v) ∈ kLp ad i L
  | [], i, j, v, h => by simp at h
  | none :: L, i, 0, v, h => by simp at h
  | none :: L, i, j + 1, v, h => by
    have h1 := kLp_at (ad := ad) L (i + 1) j v (by simpa using h)
    rw [Nat.add_assoc, Nat.add_comm 1 j] at h1
    exact h1
  | some u :: L, i, 0, v, h => by
    have h1 : u = v := by simpa using h
    subst h1
    exact List.mem_cons_self
  | some u :: L, i, j + 1, v, h => by
    have h1 := kLp_at (ad := ad) L (i + 1) j v (by simpa using h)
    rw [Nat.add_assoc, Nat.add_comm 1 j] at h1
    exact List.mem_cons_of_mem _ h1
theorem kLo.has {ad : Nat → Nat} {ls : Array Slot} {nL : Nat} {L : List (Option Value)} (h : kLo ad ls nL L) : lv_has ls nL (kLp ad 0 L) := by
  refine ⟨h.1, h.2.1, fun q hq => ?_⟩
  obtain ⟨j, v, h1, rfl⟩ := kLp_mem L 0 q hq
  rw [Nat.zero_add]
  exact (h.2.2 j v h1).1
theorem kLo.set {ad : Nat → Nat} {ls ls' : Array Slot} {nL i : Nat} {L : List (Option Value)} {v : Value} (h : kLo ad ls nL L) (hv : v.category = 1)
    (h' : lv_has ls' nL ((i, cv ad v) :: (kLp ad 0 L).filter (fun q => !(q.1 == i) && !(q.1 + 1 == i && q.2.category == 2)))) : kLo ad ls' nL (L.set i (some v)) := by
  refine ⟨h'.1, h'.2.1, fun j u hj => ?_⟩
  by_cases hij : j = i
  · subst hij
    have hlt : j < L.length := by
      have := (List.getElem?_eq_some_iff.mp hj).1
      simpa using this
    rw [List.getElem?_set_self hlt] at hj
    cases hj
    exact ⟨h'.2.2 _ List.mem_cons_self, hv⟩
  · rw [List.getElem?_set_ne (Ne.symm hij)] at hj
    have hm := kLp_at (ad := ad) L 0 j u hj
    rw [Nat.zero_add] at hm
    have hc := (h.2.2 j u hj).2
    refine ⟨h'.2.2 (j, cv ad u) (List.mem_cons_of_mem _ (List.mem_filter.mpr ⟨hm, ?_⟩)), hc⟩
    simp [hij, cv_cat, hc]
theorem kSl : ∀ (vs : List Value), (∀ v ∈ vs, v.category = 1) → lg_sl vs = vs.map Slot.val
  | [], _ => rfl
  | v :: vs, h => by
    have h1 : v.category = 1 := h v List.mem_cons_self
    have h2 := kSl vs (fun u hu => h u (List.mem_cons_of_mem _ hu))
    unfold lg_sl at h2 ⊢
    rw [List.flatMap_cons, h2]
    simp [h1]
theorem kArgs : ∀ (vs : List Value) (i j : Nat) (v : Value), (∀ u ∈ vs, u.category = 1) → vs[j]? = some v → (i + j, v) ∈ lv_args i vs
  | [], i, j, v, _, h => by simp at h
  | u :: vs, i, 0, v, _, h => by
    have h1 : u = v := by simpa using h
    subst h1
    exact List.mem_cons_self
  | u :: vs, i, j + 1, v, hc, h => by
    have h0 : u.category = 1 := hc u List.mem_cons_self
    have h1 := kArgs vs (i + 1) j v (fun z hz => hc z (List.mem_cons_of_mem _ hz)) (by simpa using h)
    rw [Nat.add_assoc, Nat.add_comm 1 j] at h1
    unfold lv_args
    rw [if_neg (by rw [h0]; decide)]
    exact List.mem_cons_of_mem _ h1
theorem kLo.entry {ad : Nat → Nat} {as : List Value} {nL : Nat} (hle : as.length ≤ nL) (hcat : ∀ v ∈ as, v.category = 1) :
    kLo ad ((lg_sl (as.map (cv ad)) ++ List.replicate (nL - (lg_sl (as.map (cv ad))).length) Slot.unset).toArray) nL (as.map some ++ List.replicate (nL - as.length) none) := by
  have hc2 : ∀ v ∈ as.map (cv ad), v.category = 1 := by
    intro v hv
    obtain ⟨u, hu, rfl⟩ := List.mem_map.mp hv
    rw [cv_cat]
    exact hcat u hu
  have hs : (lg_sl (as.map (cv ad))).length ≤ nL := by rw [kSl _ hc2]; simpa using hle
  have hl := lv_entry (as.map (cv ad)) hs
  refine ⟨hl.1, hl.2.1, fun i v hi => ?_⟩
  have hi2 : as[i]? = some v := by
    by_cases hlt : i < as.length
    · rw [List.getElem?_append_left (by simpa using hlt), List.getElem?_map] at hi
      cases ha : as[i]? with
      | none => rw [ha] at hi; cases hi
      | some u => rw [ha] at hi; simpa using hi
    · rw [List.getElem?_append_right (by simpa using Nat.le_of_not_lt hlt)] at hi
      have := List.mem_of_getElem? hi
      rw [List.mem_replicate] at this
      cases this.2
  have hm := kArgs (as.map (cv ad)) 0 i (cv ad v) hc2 (by rw [List.getElem?_map, hi2]; rfl)
  rw [Nat.zero_add] at hm
  exact ⟨hl.2.2 _ hm, hcat v (List.mem_of_getElem? hi2)⟩
/-- the tables, at a world -/
def kK {X : Type} (w : kW X) (U : State) : Prop := va_K (kwD w) kCl (kwT w) U
theorem kK.moved {X : Type} {w : kW X} {u U : State} (h : u.vm.Alike U.vm) (hK : kK w u) : kK w U := va_K.moved h hK
def kOk {X : Type} (w : kW X) (mt : kMT) (d : Nat) (p : Program) (R : Room) (s : State) (m : MethodId) (args : Array Value) (meth : Method) (c : Code) (cells slots : Nat) (A : Nat → Prop) : Prop :=
  CallFix p m c mt.2.1 mt.2.2.1 s args kWS mt.1 ∧ meth.sig.returnType = mt.2.2.2 ∧ meth.locks = false ∧ kK w s ∧ (d ≤ R.frames ∧ 32 * d ≤ R.locals) ∧ (cells ≤ R.cells ∧ slots ≤ R.slots) ∧ ∀ q, kwF w q → A q
/-- a method's end: its answer, and what the heap holds then -/
def kQ {X : Type} (w : kW X) (A : Nat → Prop) (r : Option Value) (x' : X) : Array Value → State → Outcome → State → Prop := fun _ st oc t =>
  oc = .returned (r.map (cv (kwA w))) ∧ kwB w x' t.heap ∧ kK w t ∧ va_F A st t
/-- from here the method answers r, and the world is x' then -/
def KAt {X : Type} (w : kW X) (mt : kMT) (d pc : Nat) (L : List (Option Value)) (S : List Value) (x : X) (r : Option Value) (x' : X) : Prop :=
  ∀ (p : Program) (e : Env) (R : Room) (s : State) (m : MethodId) (args : Array Value) (below : List Frame) (meth : Method) (c : Code) (H : Heap) (locs : List Loc) (cells slots : Nat) (ls : Array Slot) (A : Nat → Prop),
    kOk w mt d p R s m args meth c cells slots A → kwB w x H → va_S A s.heap H locs → kLo (kwA w) ls mt.2.2.1 L →
    W p (kwL w) e R s m args below meth c H locs cells slots (MQ below (kQ w A r x') args s cells slots A) (F0 m pc ls (S.map (cv (kwA w))))
def kRm (d : Nat) : Room := { frames := d, cells := 0, slots := 0, locals := 32 * d }
/-- a method's contract -/
def KSp {X : Type} (w : kW X) (y : MethodName) (mt : kMT) (d : Nat) (as : List Value) (x : X) (r : Option Value) (x' : X) : Prop :=
  Met (kwL w) y (Cond.code y mt.2.1 mt.2.2.1 mt.2.2.2 :: kWS) (kRm d) (va_Pc (as.map (cv (kwA w))) (fun U => kwB w x U.heap ∧ kK w U)) (kQ w (kwF w) r x') 0 0 (kwF w)
theorem KSp.of {X : Type} {w : kW X} {y : MethodName} {mt : kMT} {d : Nat} {as : List Value} {x x' : X} {r : Option Value} (hy : plainName y.cls = true) (hyc : y.cls = mt.1) (hle : as.length ≤ mt.2.2.1) (hcat : as.all (fun v => v.category == 1) = true)
    (h : KAt w mt d 0 (as.map some ++ List.replicate (mt.2.2.1 - as.length) none) [] x r x') : KSp w y mt d as x r x' := by
  refine Met.ofW (cc := mt.2.1) (maxL := mt.2.2.1) (ret := mt.2.2.2) hy rfl ?_
  intro p e s m args below meth c s₁ B hml hv
  obtain ⟨rfl, hB, hK⟩ := hv
  have hts := atoms_spec (ws := Cond.code y mt.2.1 mt.2.2.1 mt.2.2.2 :: kWS) B.pre
  rw [lg_entry_eq]
  exact h p e _ s m _ below meth c _ _ _ _ _ (kwF w) ⟨⟨B.exec, B.bytes, hml, by rw [← hyc]; exact findClass_of_methodNamed B.named, fun q hq => hts q (List.mem_cons_of_mem _ hq)⟩, B.returns, B.notSynchronized, hK, ⟨Nat.le_refl _, Nat.le_refl _⟩, ⟨Nat.zero_le _, Nat.zero_le _⟩, fun _ h => h⟩ hB va_S.rf (kLo.entry hle (fun v hv => by simpa using (List.all_eq_true.mp hcat) v hv))
/-- an instruction, and the place of the next; a jump's instruction, the place of the next, and where it goes -/
def kI (mt : kMT) (pc : Nat) (i : Instr) (n q : Nat) : Prop := decode mt.2.1 pc = .ok (i, n) ∧ pc + n = q
def kJ (mt : kMT) (pc : Nat) (i : Instr) (off : Int) (q t : Nat) : Prop := decode mt.2.1 pc = .ok (i, 3) ∧ pc + 3 = q ∧ (pc : Int) + off = (t : Int)
end KAT
