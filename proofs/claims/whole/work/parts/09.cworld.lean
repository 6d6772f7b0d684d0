section KCW
/-- the class's cells: 0 the kernel, 1 its threads, 2 its mappings, 3 words, 4 level, 5 frame, 6 depth, 7 parent, 8 + i thread i, 16 + i its registers -/
abbrev lyC : kLy := (24,
  fun k => if k = 0 then 0 else if k = 1 then 12 else if k = 2 then 1 else if k < 8 then 10 else if k < 16 then 2 else 10,
  fun k => if k = 0 then 5 else if k = 1 then 8 else if k = 2 then 4 else if k = 3 then 16 else if k < 8 then 96 else if k < 16 then 19 else 4,
  fun k j => if k = 0 then (if j < 3 then some (j + 1) else none) else if k = 1 then some (8 + j) else if k = 2 then some (4 + j) else if k < 8 then none else if k < 16 then (if j = 1 then some (k + 8) else none) else none)
/-- the reference's cells: 0 the object, then its arrays in their order -/
abbrev lyR : kLy := (25,
  fun k => if k = 0 then 3 else if k = 1 then 11 else if k = 7 then 11 else if k = 18 then 11 else 10,
  fun k => if k = 0 then 26 else if k = 4 then 32 else if k < 20 then 8 else if k < 24 then 96 else 16,
  fun k j => if k = 0 then (if j < 2 then none else some (j - 1)) else none)
theorem kdT {i : Nat} (hi : i < 8) : lyC.2.1 (8 + i) = 2 := by
  show (if 8 + i = 0 then 0 else if 8 + i = 1 then 12 else if 8 + i = 2 then 1 else if 8 + i < 8 then 10 else if 8 + i < 16 then 2 else 10) = 2
  rw [if_neg (by omega), if_neg (by omega), if_neg (by omega), if_neg (by omega), if_pos (by omega)]
theorem lnT {i : Nat} (hi : i < 8) : lyC.2.2.1 (8 + i) = 19 := by
  show (if 8 + i = 0 then 5 else if 8 + i = 1 then 8 else if 8 + i = 2 then 4 else if 8 + i = 3 then 16 else if 8 + i < 8 then 96 else if 8 + i < 16 then 19 else 4) = 19
  rw [if_neg (by omega), if_neg (by omega), if_neg (by omega), if_neg (by omega), if_neg (by omega), if_pos (by omega)]
theorem rfT {i j : Nat} (hi : i < 8) (hj : j ≠ 1) : lyC.2.2.2 (8 + i) j = none := by
  show (if 8 + i = 0 then (if j < 3 then some (j + 1) else none) else if 8 + i = 1 then some (8 + j) else if 8 + i = 2 then some (4 + j) else if 8 + i < 8 then none else if 8 + i < 16 then (if j = 1 then some (8 + i + 8) else none) else none) = none
  rw [if_neg (by omega), if_neg (by omega), if_neg (by omega), if_neg (by omega), if_pos (by omega), if_neg hj]
theorem rfT1 {i : Nat} (hi : i < 8) : lyC.2.2.2 (8 + i) 1 = some (16 + i) := by
  show (if 8 + i = 0 then (if 1 < 3 then some (1 + 1) else none) else if 8 + i = 1 then some (8 + 1) else if 8 + i = 2 then some (4 + 1) else if 8 + i < 8 then none else if 8 + i < 16 then (if 1 = 1 then some (8 + i + 8) else none) else none) = some (16 + i)
  rw [if_neg (by omega), if_neg (by omega), if_neg (by omega), if_neg (by omega), if_pos (by omega), if_pos rfl]
  congr 1
  omega
theorem kdR {i : Nat} : lyC.2.1 (16 + i) = 10 := by
  show (if 16 + i = 0 then 0 else if 16 + i = 1 then 12 else if 16 + i = 2 then 1 else if 16 + i < 8 then 10 else if 16 + i < 16 then 2 else 10) = 10
  rw [if_neg (by omega), if_neg (by omega), if_neg (by omega), if_neg (by omega), if_neg (by omega)]
theorem lnR {i : Nat} : lyC.2.2.1 (16 + i) = 4 := by
  show (if 16 + i = 0 then 5 else if 16 + i = 1 then 8 else if 16 + i = 2 then 4 else if 16 + i = 3 then 16 else if 16 + i < 8 then 96 else if 16 + i < 16 then 19 else 4) = 4
  rw [if_neg (by omega), if_neg (by omega), if_neg (by omega), if_neg (by omega), if_neg (by omega), if_neg (by omega)]
def bI (b : Bool) : Int32 := if b = true then 1 else 0
abbrev ix (v : Int32) : Nat := v.toNatClampNeg
theorem kup_o {u : kSt} {k j a b : Nat} {v : Int32} (h : a ≠ k) : kup u k j v a b = u a b := by simp [kup, h]
theorem kup_j {u : kSt} {k j a b : Nat} {v : Int32} (h : b ≠ j) : kup u k j v a b = u a b := by simp [kup, h]
theorem ix0 : ix 0 = 0 := by decide
theorem ix1 : ix 1 = 1 := by decide
theorem ix2 : ix 2 = 2 := by decide
theorem ix3 : ix 3 = 3 := by decide
theorem nb_bI (b : Bool) : narrow .boolean (.int (bI b)) = .int (bI b) := by cases b <;> rfl
theorem bI_0 (b : Bool) : bI b = 0 ↔ b = false := by cases b <;> decide
theorem bI_n0 (b : Bool) : ¬ bI b = 0 ↔ b = true := by cases b <;> decide
/-- a place within a row, by its two comparisons; by its number -/
theorem vin {v : Int32} {n : Nat} {m : Int32} (h0 : ¬ v < 0) (h1 : ¬ m ≤ v) (hm : m.toInt = n := by decide) : vp_in v n := by
  rw [vp_in_iff]
  rw [Int32.lt_iff_toInt_lt, Int32.toInt_zero] at h0
  rw [Int32.le_iff_toInt_le, hm] at h1
  omega
theorem vin_le {v : Int32} {n : Nat} {m : Int32} (h0 : ¬ v < 0) (h1 : ¬ m < v) (hm : m.toInt + 1 = n := by decide) : vp_in v n := by
  rw [vp_in_iff]
  rw [Int32.lt_iff_toInt_lt, Int32.toInt_zero] at h0
  rw [Int32.lt_iff_toInt_lt] at h1
  omega
theorem vin_n {k n : Nat} (h : k < n) (hn : n < 2 ^ 31 := by decide) : vp_in (nI k) n := vp_in_nI h hn
theorem vin_lt {v : Int32} {n : Nat} (h : vp_in v n) : ix v < n := Nat.not_le.mp fun q => h (Or.inr q)
theorem vin_eq {v : Int32} {n : Nat} (h : vp_in v n) (hn : n < 2 ^ 31 := by decide) : v = nI (ix v) := by
  obtain ⟨j, hj, rfl⟩ := vp_in_of h hn
  rw [show ix (nI j) = j from nI_clamp (by omega)]
theorem ix_nI {n : Nat} (h : n < 2 ^ 31) : ix (nI n) = n := nI_clamp h
section
variable {X : Type} {w : kW X} {mt : kMT} {d pc q t : Nat} {L : List (Option Value)} {S : List Value} {x x' : X} {r : Option Value}
theorem KAt.to {r' : Option Value} {z : X} (h : KAt w mt d pc L S x r x') (hr : r = r') (hx : x' = z) : KAt w mt d pc L S x r' z := hr ▸ hx ▸ h
theorem k_forget (i : Nat) (h : KAt w mt d pc (L.set i none) S x r x') : KAt w mt d pc L S x r x' := by
  intro p e R s m args below meth c H locs cells slots ls A hk hB hS hl
  refine h _ _ _ _ _ _ _ _ _ _ _ _ _ _ _ hk hB hS ⟨hl.1, hl.2.1, fun j v hj => ?_⟩
  by_cases hij : j = i
  · subst hij
    by_cases hlt : j < L.length
    · rw [List.getElem?_set_self hlt] at hj
      cases hj
    · rw [List.getElem?_eq_none (by simpa using hlt)] at hj
      cases hj
  · rw [List.getElem?_set_ne (Ne.symm hij)] at hj
    exact hl.2.2 j v hj
theorem k_if_eqB {b : Bool} {off : Int} (hd : kJ mt pc (.ifCond .eq off) off q t) (kt : b = false → KAt w mt d t L S x r x') (kf : b = true → KAt w mt d q L S x r x') : KAt w mt d pc L (.int (bI b) :: S) x r x' :=
  k_if_eq hd (fun h => kt ((bI_0 b).mp h)) (fun h => kf ((bI_n0 b).mp h))
theorem k_if_neB {b : Bool} {off : Int} (hd : kJ mt pc (.ifCond .ne off) off q t) (kt : b = true → KAt w mt d t L S x r x') (kf : b = false → KAt w mt d q L S x r x') : KAt w mt d pc L (.int (bI b) :: S) x r x' :=
  k_if_ne hd (fun h => kt ((bI_n0 b).mp h)) (fun h => kf ((bI_0 b).mp h))
theorem k_inc1 {i : Nat} {v : Int32} (hd : kI mt pc (.iinc i 1) 3 q) (hl : L[i]? = some (some (.int v))) (hn : i < mt.2.2.1) (kk : KAt w mt d q (L.set i (some (.int (v + 1)))) S x r x') : KAt w mt d pc L S x r x' :=
  k_iinc hd hl rfl hn kk
theorem k_incN {i n : Nat} (hd : kI mt pc (.iinc i 1) 3 q) (hl : L[i]? = some (some (.int (nI n)))) (hn : i < mt.2.2.1) (kk : KAt w mt d q (L.set i (some (.int (nI (n + 1))))) S x r x') : KAt w mt d pc L S x r x' :=
  k_iinc hd hl (nI_1 n) hn kk
theorem k_dec1 {i : Nat} {v : Int32} (hd : kI mt pc (.iinc i (-1)) 3 q) (hl : L[i]? = some (some (.int v))) (hn : i < mt.2.2.1) (kk : KAt w mt d q (L.set i (some (.int (v + (-1))))) S x r x') : KAt w mt d pc L S x r x' :=
  k_iinc hd hl rfl hn kk
theorem k_decN {i n : Nat} (hd : kI mt pc (.iinc i (-1)) 3 q) (hl : L[i]? = some (some (.int (nI (n + 1))))) (hn : i < mt.2.2.1) (kk : KAt w mt d q (L.set i (some (.int (nI n)))) S x r x') : KAt w mt d pc L S x r x' :=
  k_iinc hd hl (pk_m1 n) hn kk
end
section
variable {ly : kLy} {l : Launch} {D : va_G} {cI cB cT : ClassId} {ad : Nat → Nat} {mt : kMT} {d pc q : Nat} {L : List (Option Value)} {S : List Value} {u u' : kSt} {r : Option Value}
/-- an array's place by its number -/
theorem k_ialdN {k j n : Nat} (hd : kI mt pc .iaload 1 q) (hk : k < ly.1) (hkd : ly.2.1 k = 10) (hn : ly.2.2.1 k = n) (hj : j < n) (hb : n < 2 ^ 31) (kk : KAt (kWl ly l D cI cB cT ad) mt d q L (.int (u k j) :: S) u r u') : KAt (kWl ly l D cI cB cT ad) mt d pc L (.int (nI j) :: .ref k :: S) u r u' :=
  k_iald hd hk hkd (by rw [hn]; exact vp_in_nI hj hb) (by rw [nI_clamp (by omega)]; exact kk)
theorem k_baldN {k j n : Nat} (hd : kI mt pc .baload 1 q) (hk : k < ly.1) (hkd : ly.2.1 k = 11) (hn : ly.2.2.1 k = n) (hj : j < n) (hb : n < 2 ^ 31) (kk : KAt (kWl ly l D cI cB cT ad) mt d q L (.int (u k j) :: S) u r u') : KAt (kWl ly l D cI cB cT ad) mt d pc L (.int (nI j) :: .ref k :: S) u r u' :=
  k_bald hd hk hkd (by rw [hn]; exact vp_in_nI hj hb) (by rw [nI_clamp (by omega)]; exact kk)
theorem k_iastN {k j n : Nat} {v : Int32} (hd : kI mt pc .iastore 1 q) (hk : k < ly.1) (hkd : ly.2.1 k = 10) (hn : ly.2.2.1 k = n) (hj : j < n) (hb : n < 2 ^ 31) (kk : KAt (kWl ly l D cI cB cT ad) mt d q L S (kup u k j v) r u') : KAt (kWl ly l D cI cB cT ad) mt d pc L (.int v :: .int (nI j) :: .ref k :: S) u r u' :=
  k_iast hd hk hkd (by rw [hn]; exact vp_in_nI hj hb) (by rw [nI_clamp (by omega)]; exact kk)
theorem k_bastN {k j n : Nat} {v : Int32} (hd : kI mt pc .bastore 1 q) (hk : k < ly.1) (hkd : ly.2.1 k = 11) (hn : ly.2.2.1 k = n) (hj : j < n) (hb : n < 2 ^ 31) (hv : vp_nar .boolean v = v) (kk : KAt (kWl ly l D cI cB cT ad) mt d q L S (kup u k j v) r u') : KAt (kWl ly l D cI cB cT ad) mt d pc L (.int v :: .int (nI j) :: .ref k :: S) u r u' :=
  k_bast hd hk hkd (by rw [hn]; exact vp_in_nI hj hb) hv (by rw [nI_clamp (by omega)]; exact kk)
end
/-- Math.min -/
def kMin (own : String) (idx : Nat) : Prop := Cond.methodLink own idx Lib.Math.min.name ∈ kWS ∧ Cond.static Lib.Math.min.name ∈ kWS ∧ Cond.initialized "java/lang/Math" ∈ kWS ∧ Cond.code Lib.Math.min.name Lib.Math.min.code 2 (some .int) ∈ kWS
theorem lm_P_43 : kMin "PagerKernel$MappingTree" 43 := ⟨(kIn 280 (by decide +kernel) rfl), (kIn 281 (by decide +kernel) rfl), (kIn 38 (by decide +kernel) rfl), (kIn 282 (by decide +kernel) rfl)⟩
theorem k_min {X : Type} {w : kW X} {mt : kMT} {d pc q : Nat} {L : List (Option Value)} {S : List Value} {x x' : X} {r : Option Value} {idx : Nat} {a b : Int32} (hd : kI mt pc (.invokestatic idx) 3 q) (hm : kMin mt.1 idx) (hr : (S.map fun v => v.category).sum ≤ 8) (k : KAt w mt (d + 1) q L (.int (if b < a then b else a) :: S) x r x') : KAt w mt (d + 1) pc L (.int b :: .int a :: S) x r x' := by
  intro p e R s m args below meth c H locs cells slots ls A h hB hS hl
  obtain ⟨h1, h2, h3, h4⟩ := hm
  have hts := h.1.2.2.2.2
  have hfr := h.2.2.2.2.1
  have hcs := h.2.2.2.2.2.1
  have hr2 : ((S.map (cv (kwA w))).map fun v => v.category).sum ≤ 8 := by
    rw [List.map_map]
    have : ((fun v : Value => v.category) ∘ cv (kwA w)) = fun v => v.category := funext fun v => cv_cat _ v
    rw [this]
    exact hr
  refine va_mmin h.1.1 h.1.2.1 (h.1.2.2.1.trans hl.1.symm) h.1.2.2.2.1 (hts _ h1) (hts _ h2) (hts _ h3) (hts _ h4) (by omega) (by omega) hcs.1 hcs.2 hd.1 ?_
  rw [hd.2]
  exact k _ _ _ _ _ _ _ _ _ _ _ _ _ _ _ h hB hS hl
section
variable {l : Launch} {D : va_G} {cI cB cT : ClassId} {ad : Nat → Nat} {mt : kMT} {d pc q : Nat} {L : List (Option Value)} {S : List Value} {u u' : kSt} {r : Option Value}
theorem cT_get {i j idx : Nat} (hd : kI mt pc (.getfield idx) 3 q) (hf : kF mt.1 idx 2 j) (hi : i < 8) (hj : j ≠ 1) (hj2 : j < 19) (kk : KAt (kWl lyC l D cI cB cT ad) mt d q L (.int (u (8 + i) j) :: S) u r u') : KAt (kWl lyC l D cI cB cT ad) mt d pc L (.ref (8 + i) :: S) u r u' :=
  k_getf hd hf (by show 8 + i < 24; omega) (kdT hi) (by decide) (by rw [lnT hi]; exact hj2) (rfT hi hj) kk
theorem cT_num {i idx : Nat} (hd : kI mt pc (.getfield idx) 3 q) (hf : kF mt.1 idx 2 0) (hi : i < 8) (hn : u (8 + i) 0 = nI i) (kk : KAt (kWl lyC l D cI cB cT ad) mt d q L (.int (nI i) :: S) u r u') : KAt (kWl lyC l D cI cB cT ad) mt d pc L (.ref (8 + i) :: S) u r u' :=
  cT_get hd hf hi (by decide) (by decide) (by rw [hn]; exact kk)
theorem cT_reg {i idx : Nat} (hd : kI mt pc (.getfield idx) 3 q) (hf : kF mt.1 idx 2 1) (hi : i < 8) (kk : KAt (kWl lyC l D cI cB cT ad) mt d q L (.ref (16 + i) :: S) u r u') : KAt (kWl lyC l D cI cB cT ad) mt d pc L (.ref (8 + i) :: S) u r u' :=
  k_getr hd hf (by show 8 + i < 24; omega) (kdT hi) (by decide) (by rw [lnT hi]; decide) (rfT1 hi) kk
theorem cT_put {i j idx : Nat} {ty : FieldType} {v : Int32} (hd : kI mt pc (.putfield idx) 3 q) (hf : kFp mt.1 idx 2 j ty) (hi : i < 8) (hj : j ≠ 1) (hj2 : j < 19) (hn : narrow ty (.int v) = .int v) (hfit : fits ty (.int v) = true) (kk : KAt (kWl lyC l D cI cB cT ad) mt d q L S (kup u (8 + i) j v) r u') : KAt (kWl lyC l D cI cB cT ad) mt d pc L (.int v :: .ref (8 + i) :: S) u r u' :=
  k_putf hd hf (by show 8 + i < 24; omega) (kdT hi) (by decide) (by rw [lnT hi]; exact hj2) (rfT hi hj) hn hfit kk
theorem cR_ald {i : Nat} {v : Int32} (hd : kI mt pc .iaload 1 q) (hi : i < 8) (hin : vp_in v 4) (kk : KAt (kWl lyC l D cI cB cT ad) mt d q L (.int (u (16 + i) (ix v)) :: S) u r u') : KAt (kWl lyC l D cI cB cT ad) mt d pc L (.int v :: .ref (16 + i) :: S) u r u' :=
  k_iald hd (by show 16 + i < 24; omega) kdR (by rw [lnR]; exact hin) kk
theorem cR_ast {i : Nat} {v z : Int32} (hd : kI mt pc .iastore 1 q) (hi : i < 8) (hin : vp_in v 4) (kk : KAt (kWl lyC l D cI cB cT ad) mt d q L S (kup u (16 + i) (ix v) z) r u') : KAt (kWl lyC l D cI cB cT ad) mt d pc L (.int z :: .int v :: .ref (16 + i) :: S) u r u' :=
  k_iast hd (by show 16 + i < 24; omega) kdR (by rw [lnR]; exact hin) kk
theorem cA_ald {v : Int32} (hd : kI mt pc .aaload 1 q) (hin : vp_in v 8) (kk : ix v < 8 → KAt (kWl lyC l D cI cB cT ad) mt d q L (.ref (8 + ix v) :: S) u r u') : KAt (kWl lyC l D cI cB cT ad) mt d pc L (.int v :: .ref 1 :: S) u r u' :=
  k_aald (t := 8 + ix v) hd (by decide) rfl hin rfl (kk (vin_lt hin))
theorem cA_aldN {k : Nat} (hd : kI mt pc .aaload 1 q) (hk : k < 8) (kk : KAt (kWl lyC l D cI cB cT ad) mt d q L (.ref (8 + k) :: S) u r u') : KAt (kWl lyC l D cI cB cT ad) mt d pc L (.int (nI k) :: .ref 1 :: S) u r u' :=
  cA_ald hd (vin_n hk) (fun _ => by rw [ix_nI (by omega)]; exact kk)
theorem rcvP : kRcv (kWl lyC l D cI cB cT ad) u 2 "PagerKernel$MappingTree" := kRcv_of (T := F_P) (N := 4) (by decide) rfl (by decide) rfl
theorem rcvK : kRcv (kWl lyC l D cI cB cT ad) u 0 "PagerKernel" := kRcv_of (T := F_K) (N := 5) (by decide) rfl (by decide) rfl
theorem rcvR : kRcv (kWl lyR l D cI cB cT ad) u 0 "PagerKernelModel" := kRcv_of (T := F_R) (N := 26) (by decide) rfl (by decide) rfl
theorem rcvT {i : Nat} (hi : i < 8) : kRcv (kWl lyC l D cI cB cT ad) u (8 + i) "PagerKernel$KernelThread" :=
  kRcv_of (T := F_H) (N := 19) (by show 8 + i < 24; omega) (kdT hi) (by decide) rfl
end
end KCW
