section KRU
variable {X : Type} {w : kW X} {mt : kMT} {d pc q t : Nat} {L : List (Option Value)} {S : List Value} {x x' : X} {r : Option Value}
theorem k_iconst {n : Int} {v : Int32} (hd : kI mt pc (.iconst n) 1 q) (hv : Int32.ofInt n = v) (k : KAt w mt d q L (.int v :: S) x r x') : KAt w mt d pc L S x r x' := by
  intro p e R s m args below meth c H locs cells slots ls A h hB hS hl
  exact lv_iconst h.1.1 h.1.2.1 hd.1 hv (by rw [hd.2]; exact k _ _ _ _ _ _ _ _ _ _ _ _ _ _ _ h hB hS hl)
theorem k_bipush {n : Int} {v : Int32} (hd : kI mt pc (.bipush n) 2 q) (hv : (Int8.ofInt n).toInt32 = v) (k : KAt w mt d q L (.int v :: S) x r x') : KAt w mt d pc L S x r x' := by
  intro p e R s m args below meth c H locs cells slots ls A h hB hS hl
  exact lv_bipush h.1.1 h.1.2.1 hd.1 hv (by rw [hd.2]; exact k _ _ _ _ _ _ _ _ _ _ _ _ _ _ _ h hB hS hl)
theorem k_sipush {n : Int} {v : Int32} (hd : kI mt pc (.sipush n) 3 q) (hv : (Int16.ofInt n).toInt32 = v) (k : KAt w mt d q L (.int v :: S) x r x') : KAt w mt d pc L S x r x' := by
  intro p e R s m args below meth c H locs cells slots ls A h hB hS hl
  exact lv_sipush h.1.1 h.1.2.1 hd.1 hv (by rw [hd.2]; exact k _ _ _ _ _ _ _ _ _ _ _ _ _ _ _ h hB hS hl)
theorem k_null (hd : kI mt pc .aconst_null 1 q) (k : KAt w mt d q L (.null :: S) x r x') : KAt w mt d pc L S x r x' := by
  intro p e R s m args below meth c H locs cells slots ls A h hB hS hl
  exact lv_null h.1.1 h.1.2.1 hd.1 (by rw [hd.2]; exact k _ _ _ _ _ _ _ _ _ _ _ _ _ _ _ h hB hS hl)
theorem k_iload_n {k : Fin 4} {v : Int32} (hd : kI mt pc (.iload_n k) 1 q) (hl : L[(k : Nat)]? = some (some (.int v))) (kk : KAt w mt d q L (.int v :: S) x r x') : KAt w mt d pc L S x r x' := by
  intro p e R s m args below meth c H locs cells slots ls A h hB hS hlo
  exact lv_iload_n h.1.1 h.1.2.1 hd.1 rfl (hlo.2.2 _ _ hl).1 (by rw [hd.2]; exact kk _ _ _ _ _ _ _ _ _ _ _ _ _ _ _ h hB hS hlo)
theorem k_iload {i : Nat} {v : Int32} (hd : kI mt pc (.iload i) 2 q) (hl : L[i]? = some (some (.int v))) (kk : KAt w mt d q L (.int v :: S) x r x') : KAt w mt d pc L S x r x' := by
  intro p e R s m args below meth c H locs cells slots ls A h hB hS hlo
  exact lv_iload h.1.1 h.1.2.1 hd.1 (hlo.2.2 _ _ hl).1 (by rw [hd.2]; exact kk _ _ _ _ _ _ _ _ _ _ _ _ _ _ _ h hB hS hlo)
theorem k_aload_n {k : Fin 4} {v : Nat} (hd : kI mt pc (.aload_n k) 1 q) (hl : L[(k : Nat)]? = some (some (.ref v))) (kk : KAt w mt d q L (.ref v :: S) x r x') : KAt w mt d pc L S x r x' := by
  intro p e R s m args below meth c H locs cells slots ls A h hB hS hlo
  exact lv_aload_n h.1.1 h.1.2.1 hd.1 rfl (hlo.2.2 _ _ hl).1 (by rw [hd.2]; exact kk _ _ _ _ _ _ _ _ _ _ _ _ _ _ _ h hB hS hlo)
theorem k_aload {i : Nat} {v : Nat} (hd : kI mt pc (.aload i) 2 q) (hl : L[i]? = some (some (.ref v))) (kk : KAt w mt d q L (.ref v :: S) x r x') : KAt w mt d pc L S x r x' := by
  intro p e R s m args below meth c H locs cells slots ls A h hB hS hlo
  exact lv_aload h.1.1 h.1.2.1 hd.1 (hlo.2.2 _ _ hl).1 (by rw [hd.2]; exact kk _ _ _ _ _ _ _ _ _ _ _ _ _ _ _ h hB hS hlo)
theorem k_aload_nN {k : Fin 4} (hd : kI mt pc (.aload_n k) 1 q) (hl : L[(k : Nat)]? = some (some .null)) (kk : KAt w mt d q L (.null :: S) x r x') : KAt w mt d pc L S x r x' := by
  intro p e R s m args below meth c H locs cells slots ls A h hB hS hlo
  exact lv_aload_nN h.1.1 h.1.2.1 hd.1 rfl (hlo.2.2 _ _ hl).1 (by rw [hd.2]; exact kk _ _ _ _ _ _ _ _ _ _ _ _ _ _ _ h hB hS hlo)
theorem k_aloadN {i : Nat} (hd : kI mt pc (.aload i) 2 q) (hl : L[i]? = some (some .null)) (kk : KAt w mt d q L (.null :: S) x r x') : KAt w mt d pc L S x r x' := by
  intro p e R s m args below meth c H locs cells slots ls A h hB hS hlo
  exact lv_aloadN h.1.1 h.1.2.1 hd.1 (hlo.2.2 _ _ hl).1 (by rw [hd.2]; exact kk _ _ _ _ _ _ _ _ _ _ _ _ _ _ _ h hB hS hlo)
theorem k_istore_n {k : Fin 4} {v : Int32} (hd : kI mt pc (.istore_n k) 1 q) (hn : (k : Nat) < mt.2.2.1) (kk : KAt w mt d q (L.set (k : Nat) (some (.int v))) S x r x') : KAt w mt d pc L (.int v :: S) x r x' := by
  intro p e R s m args below meth c H locs cells slots ls A h hB hS hlo
  exact lv_istore_n h.1.1 h.1.2.1 hd.1 rfl hlo.has hn rfl (fun ls' hl' => by rw [hd.2]; exact kk _ _ _ _ _ _ _ _ _ _ _ _ _ _ _ h hB hS (hlo.set (v := .int v) rfl hl'))
theorem k_istore {i : Nat} {v : Int32} (hd : kI mt pc (.istore i) 2 q) (hn : i < mt.2.2.1) (kk : KAt w mt d q (L.set i (some (.int v))) S x r x') : KAt w mt d pc L (.int v :: S) x r x' := by
  intro p e R s m args below meth c H locs cells slots ls A h hB hS hlo
  exact lv_istore h.1.1 h.1.2.1 hd.1 hlo.has hn rfl (fun ls' hl' => by rw [hd.2]; exact kk _ _ _ _ _ _ _ _ _ _ _ _ _ _ _ h hB hS (hlo.set (v := .int v) rfl hl'))
theorem k_astore_n {k : Fin 4} {v : Nat} (hd : kI mt pc (.astore_n k) 1 q) (hn : (k : Nat) < mt.2.2.1) (kk : KAt w mt d q (L.set (k : Nat) (some (.ref v))) S x r x') : KAt w mt d pc L (.ref v :: S) x r x' := by
  intro p e R s m args below meth c H locs cells slots ls A h hB hS hlo
  exact lv_astore_n h.1.1 h.1.2.1 hd.1 rfl hlo.has hn rfl (fun ls' hl' => by rw [hd.2]; exact kk _ _ _ _ _ _ _ _ _ _ _ _ _ _ _ h hB hS (hlo.set (v := .ref v) rfl hl'))
theorem k_astore {i : Nat} {v : Nat} (hd : kI mt pc (.astore i) 2 q) (hn : i < mt.2.2.1) (kk : KAt w mt d q (L.set i (some (.ref v))) S x r x') : KAt w mt d pc L (.ref v :: S) x r x' := by
  intro p e R s m args below meth c H locs cells slots ls A h hB hS hlo
  exact lv_astore h.1.1 h.1.2.1 hd.1 hlo.has hn rfl (fun ls' hl' => by rw [hd.2]; exact kk _ _ _ _ _ _ _ _ _ _ _ _ _ _ _ h hB hS (hlo.set (v := .ref v) rfl hl'))
theorem k_astore_nN {k : Fin 4}  (hd : kI mt pc (.astore_n k) 1 q) (hn : (k : Nat) < mt.2.2.1) (kk : KAt w mt d q (L.set (k : Nat) (some (.null))) S x r x') : KAt w mt d pc L (.null :: S) x r x' := by
  intro p e R s m args below meth c H locs cells slots ls A h hB hS hlo
  exact lv_astore_nN h.1.1 h.1.2.1 hd.1 rfl hlo.has hn rfl (fun ls' hl' => by rw [hd.2]; exact kk _ _ _ _ _ _ _ _ _ _ _ _ _ _ _ h hB hS (hlo.set (v := .null) rfl hl'))
theorem k_astoreN {i : Nat}  (hd : kI mt pc (.astore i) 2 q) (hn : i < mt.2.2.1) (kk : KAt w mt d q (L.set i (some (.null))) S x r x') : KAt w mt d pc L (.null :: S) x r x' := by
  intro p e R s m args below meth c H locs cells slots ls A h hB hS hlo
  exact lv_astoreN h.1.1 h.1.2.1 hd.1 hlo.has hn rfl (fun ls' hl' => by rw [hd.2]; exact kk _ _ _ _ _ _ _ _ _ _ _ _ _ _ _ h hB hS (hlo.set (v := .null) rfl hl'))
theorem k_iinc {i : Nat} {n : Int} {v u : Int32} (hd : kI mt pc (.iinc i n) 3 q) (hl : L[i]? = some (some (.int v))) (hv : v + Int32.ofInt n = u) (hn : i < mt.2.2.1) (kk : KAt w mt d q (L.set i (some (.int u))) S x r x') : KAt w mt d pc L S x r x' := by
  intro p e R s m args below meth c H locs cells slots ls A h hB hS hlo
  have hm := kLp_at (ad := kwA w) L 0 i (.int v) hl
  rw [Nat.zero_add] at hm
  obtain ⟨k, hk⟩ := List.getElem?_of_mem hm
  exact lv_iinc h.1.1 h.1.2.1 hd.1 hlo.has hk hv hn rfl (fun ls' hl' => by rw [hd.2]; exact kk _ _ _ _ _ _ _ _ _ _ _ _ _ _ _ h hB hS (hlo.set (v := .int u) rfl hl'))
theorem k_iadd {a b : Int32} (hd : kI mt pc .iadd 1 q) (k : KAt w mt d q L (.int (a + b) :: S) x r x') : KAt w mt d pc L (.int b :: .int a :: S) x r x' := by
  intro p e R s m args below meth c H locs cells slots ls A h hB hS hl
  exact lv_iadd h.1.1 h.1.2.1 hd.1 (by rw [hd.2]; exact k _ _ _ _ _ _ _ _ _ _ _ _ _ _ _ h hB hS hl)
theorem k_isub {a b : Int32} (hd : kI mt pc .isub 1 q) (k : KAt w mt d q L (.int (a - b) :: S) x r x') : KAt w mt d pc L (.int b :: .int a :: S) x r x' := by
  intro p e R s m args below meth c H locs cells slots ls A h hB hS hl
  exact lv_isub h.1.1 h.1.2.1 hd.1 (by rw [hd.2]; exact k _ _ _ _ _ _ _ _ _ _ _ _ _ _ _ h hB hS hl)
theorem k_imul {a b : Int32} (hd : kI mt pc .imul 1 q) (k : KAt w mt d q L (.int (a * b) :: S) x r x') : KAt w mt d pc L (.int b :: .int a :: S) x r x' := by
  intro p e R s m args below meth c H locs cells slots ls A h hB hS hl
  exact lv_imul h.1.1 h.1.2.1 hd.1 (by rw [hd.2]; exact k _ _ _ _ _ _ _ _ _ _ _ _ _ _ _ h hB hS hl)
theorem k_iand {a b : Int32} (hd : kI mt pc .iand 1 q) (k : KAt w mt d q L (.int (a &&& b) :: S) x r x') : KAt w mt d pc L (.int b :: .int a :: S) x r x' := by
  intro p e R s m args below meth c H locs cells slots ls A h hB hS hl
  exact lv_iand h.1.1 h.1.2.1 hd.1 (by rw [hd.2]; exact k _ _ _ _ _ _ _ _ _ _ _ _ _ _ _ h hB hS hl)
theorem k_dup {a : Value} (hd : kI mt pc .dup 1 q) (ha : a.category = 1) (k : KAt w mt d q L (a :: a :: S) x r x') : KAt w mt d pc L (a :: S) x r x' := by
  intro p e R s m args below meth c H locs cells slots ls A h hB hS hl
  exact lv_dup h.1.1 h.1.2.1 hd.1 ((cv_cat _ a).trans ha) (by rw [hd.2]; exact k _ _ _ _ _ _ _ _ _ _ _ _ _ _ _ h hB hS hl)
theorem k_pop {a : Value} (hd : kI mt pc .pop 1 q) (ha : a.category = 1) (k : KAt w mt d q L S x r x') : KAt w mt d pc L (a :: S) x r x' := by
  intro p e R s m args below meth c H locs cells slots ls A h hB hS hl
  exact lv_pop h.1.1 h.1.2.1 hd.1 ((cv_cat _ a).trans ha) (by rw [hd.2]; exact k _ _ _ _ _ _ _ _ _ _ _ _ _ _ _ h hB hS hl)
theorem k_dup_x1 {a b : Value} (hd : kI mt pc .dup_x1 1 q) (ha : a.category = 1) (hb : b.category = 1) (k : KAt w mt d q L (a :: b :: a :: S) x r x') : KAt w mt d pc L (a :: b :: S) x r x' := by
  intro p e R s m args below meth c H locs cells slots ls A h hB hS hl
  exact lv_dup_x1 h.1.1 h.1.2.1 hd.1 ((cv_cat _ a).trans ha) ((cv_cat _ b).trans hb) (by rw [hd.2]; exact k _ _ _ _ _ _ _ _ _ _ _ _ _ _ _ h hB hS hl)
theorem k_dup2 {a b : Value} (hd : kI mt pc .dup2 1 q) (ha : a.category = 1) (hb : b.category = 1) (k : KAt w mt d q L (a :: b :: a :: b :: S) x r x') : KAt w mt d pc L (a :: b :: S) x r x' := by
  intro p e R s m args below meth c H locs cells slots ls A h hB hS hl
  exact lv_dup2_11 h.1.1 h.1.2.1 hd.1 ((cv_cat _ a).trans ha) ((cv_cat _ b).trans hb) (by rw [hd.2]; exact k _ _ _ _ _ _ _ _ _ _ _ _ _ _ _ h hB hS hl)
theorem k_if_eq {a : Int32} {off : Int} (hd : kJ mt pc (.ifCond .eq off) off q t) (kt : a = 0 → KAt w mt d t L S x r x') (kf : ¬ a = 0 → KAt w mt d q L S x r x') : KAt w mt d pc L (.int a :: S) x r x' := by
  intro p e R s m args below meth c H locs cells slots ls A h hB hS hl
  exact lv_if_eq h.1.1 h.1.2.1 hd.1 hd.2.2 (fun z => kt z _ _ _ _ _ _ _ _ _ _ _ _ _ _ _ h hB hS hl) (fun z => by rw [hd.2.1]; exact kf z _ _ _ _ _ _ _ _ _ _ _ _ _ _ _ h hB hS hl)
theorem k_if_ne {a : Int32} {off : Int} (hd : kJ mt pc (.ifCond .ne off) off q t) (kt : ¬ a = 0 → KAt w mt d t L S x r x') (kf : a = 0 → KAt w mt d q L S x r x') : KAt w mt d pc L (.int a :: S) x r x' := by
  intro p e R s m args below meth c H locs cells slots ls A h hB hS hl
  exact lv_if_ne h.1.1 h.1.2.1 hd.1 hd.2.2 (fun z => kt z _ _ _ _ _ _ _ _ _ _ _ _ _ _ _ h hB hS hl) (fun z => by rw [hd.2.1]; exact kf z _ _ _ _ _ _ _ _ _ _ _ _ _ _ _ h hB hS hl)
theorem k_if_lt {a : Int32} {off : Int} (hd : kJ mt pc (.ifCond .lt off) off q t) (kt : a < 0 → KAt w mt d t L S x r x') (kf : ¬ a < 0 → KAt w mt d q L S x r x') : KAt w mt d pc L (.int a :: S) x r x' := by
  intro p e R s m args below meth c H locs cells slots ls A h hB hS hl
  exact lv_if_lt h.1.1 h.1.2.1 hd.1 hd.2.2 (fun z => kt z _ _ _ _ _ _ _ _ _ _ _ _ _ _ _ h hB hS hl) (fun z => by rw [hd.2.1]; exact kf z _ _ _ _ _ _ _ _ _ _ _ _ _ _ _ h hB hS hl)
theorem k_if_ge {a : Int32} {off : Int} (hd : kJ mt pc (.ifCond .ge off) off q t) (kt : 0 ≤ a → KAt w mt d t L S x r x') (kf : ¬ 0 ≤ a → KAt w mt d q L S x r x') : KAt w mt d pc L (.int a :: S) x r x' := by
  intro p e R s m args below meth c H locs cells slots ls A h hB hS hl
  exact lv_if_ge h.1.1 h.1.2.1 hd.1 hd.2.2 (fun z => kt z _ _ _ _ _ _ _ _ _ _ _ _ _ _ _ h hB hS hl) (fun z => by rw [hd.2.1]; exact kf z _ _ _ _ _ _ _ _ _ _ _ _ _ _ _ h hB hS hl)
theorem k_if_gt {a : Int32} {off : Int} (hd : kJ mt pc (.ifCond .gt off) off q t) (kt : 0 < a → KAt w mt d t L S x r x') (kf : ¬ 0 < a → KAt w mt d q L S x r x') : KAt w mt d pc L (.int a :: S) x r x' := by
  intro p e R s m args below meth c H locs cells slots ls A h hB hS hl
  exact lv_if_gt h.1.1 h.1.2.1 hd.1 hd.2.2 (fun z => kt z _ _ _ _ _ _ _ _ _ _ _ _ _ _ _ h hB hS hl) (fun z => by rw [hd.2.1]; exact kf z _ _ _ _ _ _ _ _ _ _ _ _ _ _ _ h hB hS hl)
theorem k_if_le {a : Int32} {off : Int} (hd : kJ mt pc (.ifCond .le off) off q t) (kt : a ≤ 0 → KAt w mt d t L S x r x') (kf : ¬ a ≤ 0 → KAt w mt d q L S x r x') : KAt w mt d pc L (.int a :: S) x r x' := by
  intro p e R s m args below meth c H locs cells slots ls A h hB hS hl
  exact lv_if_le h.1.1 h.1.2.1 hd.1 hd.2.2 (fun z => kt z _ _ _ _ _ _ _ _ _ _ _ _ _ _ _ h hB hS hl) (fun z => by rw [hd.2.1]; exact kf z _ _ _ _ _ _ _ _ _ _ _ _ _ _ _ h hB hS hl)
theorem k_icmp_eq {a b : Int32} {off : Int} (hd : kJ mt pc (.if_icmp .eq off) off q t) (kt : a = b → KAt w mt d t L S x r x') (kf : ¬ a = b → KAt w mt d q L S x r x') : KAt w mt d pc L (.int b :: .int a :: S) x r x' := by
  intro p e R s m args below meth c H locs cells slots ls A h hB hS hl
  exact lv_icmp_eq h.1.1 h.1.2.1 hd.1 hd.2.2 (fun z => kt z _ _ _ _ _ _ _ _ _ _ _ _ _ _ _ h hB hS hl) (fun z => by rw [hd.2.1]; exact kf z _ _ _ _ _ _ _ _ _ _ _ _ _ _ _ h hB hS hl)
theorem k_icmp_ne {a b : Int32} {off : Int} (hd : kJ mt pc (.if_icmp .ne off) off q t) (kt : ¬ a = b → KAt w mt d t L S x r x') (kf : a = b → KAt w mt d q L S x r x') : KAt w mt d pc L (.int b :: .int a :: S) x r x' := by
  intro p e R s m args below meth c H locs cells slots ls A h hB hS hl
  exact lv_icmp_ne h.1.1 h.1.2.1 hd.1 hd.2.2 (fun z => kt z _ _ _ _ _ _ _ _ _ _ _ _ _ _ _ h hB hS hl) (fun z => by rw [hd.2.1]; exact kf z _ _ _ _ _ _ _ _ _ _ _ _ _ _ _ h hB hS hl)
theorem k_icmp_lt {a b : Int32} {off : Int} (hd : kJ mt pc (.if_icmp .lt off) off q t) (kt : a < b → KAt w mt d t L S x r x') (kf : ¬ a < b → KAt w mt d q L S x r x') : KAt w mt d pc L (.int b :: .int a :: S) x r x' := by
  intro p e R s m args below meth c H locs cells slots ls A h hB hS hl
  exact lv_icmp_lt h.1.1 h.1.2.1 hd.1 hd.2.2 (fun z => kt z _ _ _ _ _ _ _ _ _ _ _ _ _ _ _ h hB hS hl) (fun z => by rw [hd.2.1]; exact kf z _ _ _ _ _ _ _ _ _ _ _ _ _ _ _ h hB hS hl)
theorem k_icmp_ge {a b : Int32} {off : Int} (hd : kJ mt pc (.if_icmp .ge off) off q t) (kt : b ≤ a → KAt w mt d t L S x r x') (kf : ¬ b ≤ a → KAt w mt d q L S x r x') : KAt w mt d pc L (.int b :: .int a :: S) x r x' := by
  intro p e R s m args below meth c H locs cells slots ls A h hB hS hl
  exact lv_icmp_ge h.1.1 h.1.2.1 hd.1 hd.2.2 (fun z => kt z _ _ _ _ _ _ _ _ _ _ _ _ _ _ _ h hB hS hl) (fun z => by rw [hd.2.1]; exact kf z _ _ _ _ _ _ _ _ _ _ _ _ _ _ _ h hB hS hl)
theorem k_icmp_gt {a b : Int32} {off : Int} (hd : kJ mt pc (.if_icmp .gt off) off q t) (kt : b < a → KAt w mt d t L S x r x') (kf : ¬ b < a → KAt w mt d q L S x r x') : KAt w mt d pc L (.int b :: .int a :: S) x r x' := by
  intro p e R s m args below meth c H locs cells slots ls A h hB hS hl
  exact lv_icmp_gt h.1.1 h.1.2.1 hd.1 hd.2.2 (fun z => kt z _ _ _ _ _ _ _ _ _ _ _ _ _ _ _ h hB hS hl) (fun z => by rw [hd.2.1]; exact kf z _ _ _ _ _ _ _ _ _ _ _ _ _ _ _ h hB hS hl)
theorem k_icmp_le {a b : Int32} {off : Int} (hd : kJ mt pc (.if_icmp .le off) off q t) (kt : a ≤ b → KAt w mt d t L S x r x') (kf : ¬ a ≤ b → KAt w mt d q L S x r x') : KAt w mt d pc L (.int b :: .int a :: S) x r x' := by
  intro p e R s m args below meth c H locs cells slots ls A h hB hS hl
  exact lv_icmp_le h.1.1 h.1.2.1 hd.1 hd.2.2 (fun z => kt z _ _ _ _ _ _ _ _ _ _ _ _ _ _ _ h hB hS hl) (fun z => by rw [hd.2.1]; exact kf z _ _ _ _ _ _ _ _ _ _ _ _ _ _ _ h hB hS hl)
theorem k_goto {off : Int} (hd : kJ mt pc (.goto off) off q t) (k : KAt w mt d t L S x r x') : KAt w mt d pc L S x r x' := by
  intro p e R s m args below meth c H locs cells slots ls A h hB hS hl
  exact lv_goto h.1.1 h.1.2.1 hd.1 hd.2.2 (k _ _ _ _ _ _ _ _ _ _ _ _ _ _ _ h hB hS hl)
theorem k_ifnonnull {a : Nat} {off : Int} (hd : kJ mt pc (.ifnonnull off) off q t) (k : KAt w mt d t L S x r x') : KAt w mt d pc L (.ref a :: S) x r x' := by
  intro p e R s m args below meth c H locs cells slots ls A h hB hS hl
  exact lv_ifnonnull h.1.1 h.1.2.1 hd.1 hd.2.2 (k _ _ _ _ _ _ _ _ _ _ _ _ _ _ _ h hB hS hl)
theorem k_ifnonnullN {off : Int} (hd : kJ mt pc (.ifnonnull off) off q t) (k : KAt w mt d q L S x r x') : KAt w mt d pc L (.null :: S) x r x' := by
  intro p e R s m args below meth c H locs cells slots ls A h hB hS hl
  exact lv_ifnonnullN h.1.1 h.1.2.1 hd.1 (by rw [hd.2.1]; exact k _ _ _ _ _ _ _ _ _ _ _ _ _ _ _ h hB hS hl)
theorem k_ifnull {a : Nat} {off : Int} (hd : kJ mt pc (.ifnull off) off q t) (k : KAt w mt d q L S x r x') : KAt w mt d pc L (.ref a :: S) x r x' := by
  intro p e R s m args below meth c H locs cells slots ls A h hB hS hl
  exact lv_ifnull h.1.1 h.1.2.1 hd.1 (by rw [hd.2.1]; exact k _ _ _ _ _ _ _ _ _ _ _ _ _ _ _ h hB hS hl)
theorem k_ifnullN {off : Int} (hd : kJ mt pc (.ifnull off) off q t) (k : KAt w mt d t L S x r x') : KAt w mt d pc L (.null :: S) x r x' := by
  intro p e R s m args below meth c H locs cells slots ls A h hB hS hl
  exact lv_ifnullN h.1.1 h.1.2.1 hd.1 hd.2.2 (k _ _ _ _ _ _ _ _ _ _ _ _ _ _ _ h hB hS hl)
theorem k_iret {v : Int32} (hd : kI mt pc .ireturn 1 q) (hr : mt.2.2.2 = some .int) (h1 : r = some (.int v)) (h2 : x' = x) : KAt w mt d pc L [.int v] x r x' := by
  subst h1; subst h2
  intro p e R s m args below meth c H locs cells slots ls A h hB hS hl
  exact W.iret h.1.1 h.1.2.1 (h.2.1.trans hr) (fun t ht hW => ⟨rfl, by rw [ht]; exact hB, h.2.2.2.1.moved hW.alike, hS.F ht⟩) hS.2.2 hd.1 h.2.2.1
theorem k_zret {v : Int32} (hd : kI mt pc .ireturn 1 q) (hr : mt.2.2.2 = some .boolean) (hn : narrow .boolean (.int v) = .int v) (h1 : r = some (.int v)) (h2 : x' = x) : KAt w mt d pc L [.int v] x r x' := by
  subst h1; subst h2
  intro p e R s m args below meth c H locs cells slots ls A h hB hS hl
  exact W.zret h.1.1 h.1.2.1 (h.2.1.trans hr) hn (fun t ht hW => ⟨rfl, by rw [ht]; exact hB, h.2.2.2.1.moved hW.alike, hS.F ht⟩) hS.2.2 hd.1 h.2.2.1
theorem k_vret (hd : kI mt pc .return_ 1 q) (hr : mt.2.2.2 = none) (h1 : r = none) (h2 : x' = x) : KAt w mt d pc L [] x r x' := by
  subst h1; subst h2
  intro p e R s m args below meth c H locs cells slots ls A h hB hS hl
  exact W.vret h.1.1 h.1.2.1 (h.2.1.trans hr) (fun t ht hW => ⟨rfl, by rw [ht]; exact hB, h.2.2.2.1.moved hW.alike, hS.F ht⟩) hS.2.2 hd.1 h.2.2.1
theorem k_aret {a : Nat} {C : String} (hd : kI mt pc .areturn 1 q) (hr : mt.2.2.2 = some (.object C)) (h1 : r = some (.ref a)) (h2 : x' = x) : KAt w mt d pc L [.ref a] x r x' := by
  subst h1; subst h2
  intro p e R s m args below meth c H locs cells slots ls A h hB hS hl
  exact W.aret h.1.1 h.1.2.1 (h.2.1.trans hr) (Or.inl ⟨_, rfl⟩) (Or.inr ⟨_, rfl⟩) (fun t ht hW => ⟨rfl, by rw [ht]; exact hB, h.2.2.2.1.moved hW.alike, hS.F ht⟩) hS.2.2 hd.1 h.2.2.1
theorem k_aretN {C : String} (hd : kI mt pc .areturn 1 q) (hr : mt.2.2.2 = some (.object C)) (h1 : r = some .null) (h2 : x' = x) : KAt w mt d pc L [.null] x r x' := by
  subst h1; subst h2
  intro p e R s m args below meth c H locs cells slots ls A h hB hS hl
  exact W.aret h.1.1 h.1.2.1 (h.2.1.trans hr) (Or.inl ⟨_, rfl⟩) (Or.inl rfl) (fun t ht hW => ⟨rfl, by rw [ht]; exact hB, h.2.2.2.1.moved hW.alike, hS.F ht⟩) hS.2.2 hd.1 h.2.2.1
/-- what a call needs to know of a method; of its receiver -/
def kM (y : MethodName) (mt' : kMT) (n : Nat) : Prop := Cond.initialized y.cls ∈ kWS ∧ Cond.code y mt'.2.1 mt'.2.2.1 mt'.2.2.2 ∈ kWS ∧ (y.cls ≠ "java/lang/invoke/MethodHandle" ∧ y.cls ≠ "java/lang/invoke/VarHandle" ∧ (parseMethodDescriptor y.desc).map (fun d => d.parameters.length) = some n) ∧ mt'.2.2.1 ≤ 13
def kMv (y : MethodName) (mt' : kMT) (n : Nat) : Prop := kM y mt' n ∧ Cond.instanceMethod y ∈ kWS ∧ Cond.selects y.cls y y ∈ kWS
def kMs (y : MethodName) (mt' : kMT) (n : Nat) : Prop := kM y mt' n ∧ Cond.static y ∈ kWS
def kRcv (w : kW X) (x : X) (b : Nat) (C : String) : Prop := ∀ (H : Heap) (s : State), kwB w x H → kK w s → ∃ cell : Cell, H[kwA w b]? = some cell ∧ cell.vm.isStatics = false ∧ s.vm.findClass C = some cell.cls
theorem kGoodIn {y : MethodName} {mt' : kMT} (h : Cond.code y mt'.2.1 mt'.2.2.1 mt'.2.2.2 ∈ kWS) : GoodIn kWS (Cond.code y mt'.2.1 mt'.2.2.1 mt'.2.2.2 :: kWS) := by
  intro c hc
  rcases List.mem_cons.mp hc with rfl | hc
  · exact ⟨h, good_of_word (kGood _ h)⟩
  · exact ⟨hc, good_of_word (kGood _ hc)⟩
theorem kBlind {as : List Value} : FrameBlind (va_Pc as (fun U => kwB w x U.heap ∧ kK w U)) := by
  intro a U g mk hq
  obtain ⟨q0, q1, q2⟩ := hq
  exact ⟨q0, q1, kK.moved (u := U) (U := U.calling g mk a) (Vm.Alike.refl U.vm) q2⟩
theorem kBehind {p : Program} {e : Env} {R : Room} {s : State} {m : MethodId} {args : Array Value} {below : List Frame} {meth : Method} {c : Code} {H : Heap} {locs : List Loc} {cells slots : Nat} {ls : Array Slot} {A : Nat → Prop} {d0 : Nat} {st0 S' : List Value} {a : Array Value} {x1 : X} {r1 : Option Value}
    (hrun : va_Run p (kwL w) e R s m args below meth c H locs cells slots 0 0 (F0 m pc ls st0) (S'.map (cv (kwA w))) (kQ w (kwF w) r1 x1 a) (kwF w))
    (h : kOk w mt d0 p R s m args meth c cells slots A) (hS : va_S A s.heap H locs) (hl : kLo (kwA w) ls mt.2.2.1 L) (k : KAt w mt d0 (pc + 3) L (r1.toList ++ S') x1 r x') :
    W p (kwL w) e R s m args below meth c H locs cells slots (MQ below (kQ w A r x') args s cells slots A) (F0 m pc ls st0) := by
  intro T hT X
  obtain ⟨v, st₀, t, T', L', h0, X', hL, e1, e2, ⟨hv, hB1, hK1, hz, hk⟩, st⟩ := hrun T hT X
  have hv2 : v = r1.map (cv (kwA w)) := Outcome.returned.inj hv
  subst hv2
  rw [h0] at hz hk
  have hA := h.2.2.2.2.2.2
  have hS' : va_S A s.heap T'.heap (locs ++ L') := ⟨Nat.le_trans hS.1 (by rw [e1]; exact hz), fun q h1 h2 => by rw [e1, hk q (Nat.lt_of_lt_of_le h1 hS.1) (fun z => h2 (hA q z))]; exact hS.2.1 q h1 h2, fun q hq => by
      rcases List.mem_append.mp hq with h | h
      · exact hS.2.2 q h
      · exact hA _ (hL q h)⟩
  have hst : (r1.map (cv (kwA w))).toList ++ S'.map (cv (kwA w)) = (r1.toList ++ S').map (cv (kwA w)) := by cases r1 <;> simp
  obtain ⟨t2, a1, b1⟩ := k _ _ _ _ _ _ _ _ _ _ _ _ _ _ _ h (by rw [e1]; exact hB1) hS' hl T' rfl X'
  refine ⟨t2, st t2 ?_, b1⟩
  rw [← hst] at a1
  exact a1
theorem k_virt {y : MethodName} {mt' : kMT} {n idx b : Nat} {As S' : List Value} {x1 : X} {r1 : Option Value} (hd : kI mt pc (.invokevirtual idx) 3 q) (hk : Cond.methodLink mt.1 idx y ∈ kWS) (hm : kMv y mt' n) (hn : As.length = n) (hS : KSp w y mt' d (.ref b :: As) x r1 x1) (hv : kRcv w x b y.cls) (hr : (S'.map fun v => v.category).sum ≤ 8)
    (k : KAt w mt (d + 1) q L (r1.toList ++ S') x1 r x') : KAt w mt (d + 1) pc L (As.reverse ++ .ref b :: S') x r x' := by
  intro p e R s m args below meth c H locs cells slots ls A h hB hS0 hl
  obtain ⟨⟨hi, hc, hy, hml⟩, hin, hsel⟩ := hm
  have hts := h.1.2.2.2.2
  have hK := h.2.2.2.1
  have hfr := h.2.2.2.2.1
  have hcs := h.2.2.2.2.2.1
  have hr2 : ((S'.map (cv (kwA w))).map fun v => v.category).sum ≤ 8 := by
    rw [List.map_map]
    have : ((fun v : Value => v.category) ∘ cv (kwA w)) = fun v => v.category := funext fun v => cv_cat _ v
    rw [this]
    exact hr
  refine kBehind (S' := S') (r1 := r1) (x1 := x1) (va_runV (C := y.cls) (b := kwA w b) (As := As.map (cv (kwA w))) (bytes := mt'.2.1) (maxL := mt'.2.2.1) (ret := mt'.2.2.2) (n := n) h.1 hS ⟨callB_of n hts (kGoodIn hc) rfl rfl rfl (hts _ hi) (hts _ hk) hy ⟨by show d + 1 ≤ R.frames; exact hfr.1, by show 8 + (mt'.2.2.1 + 11) + 32 * d ≤ R.locals; omega⟩, hts _ hin, hts _ hsel⟩ ⟨kBlind, hv H s hB hK, fun U hU hW => ⟨rfl, by rw [hU]; exact hB, hK.moved hW.alike⟩⟩ rfl (by simpa using hn) (hl.1) (by simp [cv]) (lv_room hr2) hd.1 ⟨hcs.1, hcs.2⟩) h hS0 hl (by rw [hd.2]; exact k)
theorem k_stat {y : MethodName} {mt' : kMT} {n idx : Nat} {As S' : List Value} {x1 : X} {r1 : Option Value} (hd : kI mt pc (.invokestatic idx) 3 q) (hk : Cond.methodLink mt.1 idx y ∈ kWS) (hm : kMs y mt' n) (hn : As.length = n) (hS : KSp w y mt' d As x r1 x1) (hr : (S'.map fun v => v.category).sum ≤ 8)
    (k : KAt w mt (d + 1) q L (r1.toList ++ S') x1 r x') : KAt w mt (d + 1) pc L (As.reverse ++ S') x r x' := by
  intro p e R s m args below meth c H locs cells slots ls A h hB hS0 hl
  obtain ⟨⟨hi, hc, hy, hml⟩, hst⟩ := hm
  have hts := h.1.2.2.2.2
  have hK := h.2.2.2.1
  have hfr := h.2.2.2.2.1
  have hcs := h.2.2.2.2.2.1
  have hr2 : ((S'.map (cv (kwA w))).map fun v => v.category).sum ≤ 8 := by
    rw [List.map_map]
    have : ((fun v : Value => v.category) ∘ cv (kwA w)) = fun v => v.category := funext fun v => cv_cat _ v
    rw [this]
    exact hr
  refine kBehind (S' := S') (r1 := r1) (x1 := x1) (va_runS (As := As.map (cv (kwA w))) (bytes := mt'.2.1) (maxL := mt'.2.2.1) (ret := mt'.2.2.2) (n := n) h.1 hS ⟨callB_of n hts (kGoodIn hc) rfl rfl rfl (hts _ hi) (hts _ hk) hy ⟨by show d + 1 ≤ R.frames; exact hfr.1, by show 8 + (mt'.2.2.1 + 11) + 32 * d ≤ R.locals; omega⟩, hts _ hst⟩ ⟨kBlind, fun U hU hW => ⟨rfl, by rw [hU]; exact hB, hK.moved hW.alike⟩⟩ rfl (by simpa using hn) (hl.1) (by simp) (lv_room hr2) hd.1 ⟨hcs.1, hcs.2⟩) h hS0 hl (by rw [hd.2]; exact k)
theorem k_virt0 {y : MethodName} {mt' : kMT} {idx b : Nat} {x1 : X} {r1 : Option Value} (hd : kI mt pc (.invokevirtual idx) 3 q) (hk : Cond.methodLink mt.1 idx y ∈ kWS) (hm : kMv y mt' 0) (hS : KSp w y mt' d (.ref b :: []) x r1 x1) (hv : kRcv w x b y.cls) (hr : (S.map fun v => v.category).sum ≤ 8) (k : KAt w mt (d + 1) q L (r1.toList ++ S) x1 r x') : KAt w mt (d + 1) pc L (.ref b :: S) x r x' :=
  k_virt (As := []) (S' := S) hd hk hm rfl hS hv hr k
theorem k_stat0 {y : MethodName} {mt' : kMT} {idx : Nat} {x1 : X} {r1 : Option Value} (hd : kI mt pc (.invokestatic idx) 3 q) (hk : Cond.methodLink mt.1 idx y ∈ kWS) (hm : kMs y mt' 0) (hS : KSp w y mt' d [] x r1 x1) (hr : (S.map fun v => v.category).sum ≤ 8) (k : KAt w mt (d + 1) q L (r1.toList ++ S) x1 r x') : KAt w mt (d + 1) pc L (S) x r x' :=
  k_stat (As := []) (S' := S) hd hk hm rfl hS hr k
theorem k_virt1 {a0 : Value} {y : MethodName} {mt' : kMT} {idx b : Nat} {x1 : X} {r1 : Option Value} (hd : kI mt pc (.invokevirtual idx) 3 q) (hk : Cond.methodLink mt.1 idx y ∈ kWS) (hm : kMv y mt' 1) (hS : KSp w y mt' d (.ref b :: [a0]) x r1 x1) (hv : kRcv w x b y.cls) (hr : (S.map fun v => v.category).sum ≤ 8) (k : KAt w mt (d + 1) q L (r1.toList ++ S) x1 r x') : KAt w mt (d + 1) pc L (a0 :: .ref b :: S) x r x' :=
  k_virt (As := [a0]) (S' := S) hd hk hm rfl hS hv hr k
theorem k_stat1 {a0 : Value} {y : MethodName} {mt' : kMT} {idx : Nat} {x1 : X} {r1 : Option Value} (hd : kI mt pc (.invokestatic idx) 3 q) (hk : Cond.methodLink mt.1 idx y ∈ kWS) (hm : kMs y mt' 1) (hS : KSp w y mt' d [a0] x r1 x1) (hr : (S.map fun v => v.category).sum ≤ 8) (k : KAt w mt (d + 1) q L (r1.toList ++ S) x1 r x') : KAt w mt (d + 1) pc L (a0 :: S) x r x' :=
  k_stat (As := [a0]) (S' := S) hd hk hm rfl hS hr k
theorem k_virt2 {a0 a1 : Value} {y : MethodName} {mt' : kMT} {idx b : Nat} {x1 : X} {r1 : Option Value} (hd : kI mt pc (.invokevirtual idx) 3 q) (hk : Cond.methodLink mt.1 idx y ∈ kWS) (hm : kMv y mt' 2) (hS : KSp w y mt' d (.ref b :: [a0, a1]) x r1 x1) (hv : kRcv w x b y.cls) (hr : (S.map fun v => v.category).sum ≤ 8) (k : KAt w mt (d + 1) q L (r1.toList ++ S) x1 r x') : KAt w mt (d + 1) pc L (a1 :: a0 :: .ref b :: S) x r x' :=
  k_virt (As := [a0, a1]) (S' := S) hd hk hm rfl hS hv hr k
theorem k_stat2 {a0 a1 : Value} {y : MethodName} {mt' : kMT} {idx : Nat} {x1 : X} {r1 : Option Value} (hd : kI mt pc (.invokestatic idx) 3 q) (hk : Cond.methodLink mt.1 idx y ∈ kWS) (hm : kMs y mt' 2) (hS : KSp w y mt' d [a0, a1] x r1 x1) (hr : (S.map fun v => v.category).sum ≤ 8) (k : KAt w mt (d + 1) q L (r1.toList ++ S) x1 r x') : KAt w mt (d + 1) pc L (a1 :: a0 :: S) x r x' :=
  k_stat (As := [a0, a1]) (S' := S) hd hk hm rfl hS hr k
theorem k_virt3 {a0 a1 a2 : Value} {y : MethodName} {mt' : kMT} {idx b : Nat} {x1 : X} {r1 : Option Value} (hd : kI mt pc (.invokevirtual idx) 3 q) (hk : Cond.methodLink mt.1 idx y ∈ kWS) (hm : kMv y mt' 3) (hS : KSp w y mt' d (.ref b :: [a0, a1, a2]) x r1 x1) (hv : kRcv w x b y.cls) (hr : (S.map fun v => v.category).sum ≤ 8) (k : KAt w mt (d + 1) q L (r1.toList ++ S) x1 r x') : KAt w mt (d + 1) pc L (a2 :: a1 :: a0 :: .ref b :: S) x r x' :=
  k_virt (As := [a0, a1, a2]) (S' := S) hd hk hm rfl hS hv hr k
theorem k_stat3 {a0 a1 a2 : Value} {y : MethodName} {mt' : kMT} {idx : Nat} {x1 : X} {r1 : Option Value} (hd : kI mt pc (.invokestatic idx) 3 q) (hk : Cond.methodLink mt.1 idx y ∈ kWS) (hm : kMs y mt' 3) (hS : KSp w y mt' d [a0, a1, a2] x r1 x1) (hr : (S.map fun v => v.category).sum ≤ 8) (k : KAt w mt (d + 1) q L (r1.toList ++ S) x1 r x') : KAt w mt (d + 1) pc L (a2 :: a1 :: a0 :: S) x r x' :=
  k_stat (As := [a0, a1, a2]) (S' := S) hd hk hm rfl hS hr k
theorem k_virt4 {a0 a1 a2 a3 : Value} {y : MethodName} {mt' : kMT} {idx b : Nat} {x1 : X} {r1 : Option Value} (hd : kI mt pc (.invokevirtual idx) 3 q) (hk : Cond.methodLink mt.1 idx y ∈ kWS) (hm : kMv y mt' 4) (hS : KSp w y mt' d (.ref b :: [a0, a1, a2, a3]) x r1 x1) (hv : kRcv w x b y.cls) (hr : (S.map fun v => v.category).sum ≤ 8) (k : KAt w mt (d + 1) q L (r1.toList ++ S) x1 r x') : KAt w mt (d + 1) pc L (a3 :: a2 :: a1 :: a0 :: .ref b :: S) x r x' :=
  k_virt (As := [a0, a1, a2, a3]) (S' := S) hd hk hm rfl hS hv hr k
theorem k_stat4 {a0 a1 a2 a3 : Value} {y : MethodName} {mt' : kMT} {idx : Nat} {x1 : X} {r1 : Option Value} (hd : kI mt pc (.invokestatic idx) 3 q) (hk : Cond.methodLink mt.1 idx y ∈ kWS) (hm : kMs y mt' 4) (hS : KSp w y mt' d [a0, a1, a2, a3] x r1 x1) (hr : (S.map fun v => v.category).sum ≤ 8) (k : KAt w mt (d + 1) q L (r1.toList ++ S) x1 r x') : KAt w mt (d + 1) pc L (a3 :: a2 :: a1 :: a0 :: S) x r x' :=
  k_stat (As := [a0, a1, a2, a3]) (S' := S) hd hk hm rfl hS hr k
theorem k_virt5 {a0 a1 a2 a3 a4 : Value} {y : MethodName} {mt' : kMT} {idx b : Nat} {x1 : X} {r1 : Option Value} (hd : kI mt pc (.invokevirtual idx) 3 q) (hk : Cond.methodLink mt.1 idx y ∈ kWS) (hm : kMv y mt' 5) (hS : KSp w y mt' d (.ref b :: [a0, a1, a2, a3, a4]) x r1 x1) (hv : kRcv w x b y.cls) (hr : (S.map fun v => v.category).sum ≤ 8) (k : KAt w mt (d + 1) q L (r1.toList ++ S) x1 r x') : KAt w mt (d + 1) pc L (a4 :: a3 :: a2 :: a1 :: a0 :: .ref b :: S) x r x' :=
  k_virt (As := [a0, a1, a2, a3, a4]) (S' := S) hd hk hm rfl hS hv hr k
theorem k_stat5 {a0 a1 a2 a3 a4 : Value} {y : MethodName} {mt' : kMT} {idx : Nat} {x1 : X} {r1 : Option Value} (hd : kI mt pc (.invokestatic idx) 3 q) (hk : Cond.methodLink mt.1 idx y ∈ kWS) (hm : kMs y mt' 5) (hS : KSp w y mt' d [a0, a1, a2, a3, a4] x r1 x1) (hr : (S.map fun v => v.category).sum ≤ 8) (k : KAt w mt (d + 1) q L (r1.toList ++ S) x1 r x') : KAt w mt (d + 1) pc L (a4 :: a3 :: a2 :: a1 :: a0 :: S) x r x' :=
  k_stat (As := [a0, a1, a2, a3, a4]) (S' := S) hd hk hm rfl hS hr k
theorem k_virt6 {a0 a1 a2 a3 a4 a5 : Value} {y : MethodName} {mt' : kMT} {idx b : Nat} {x1 : X} {r1 : Option Value} (hd : kI mt pc (.invokevirtual idx) 3 q) (hk : Cond.methodLink mt.1 idx y ∈ kWS) (hm : kMv y mt' 6) (hS : KSp w y mt' d (.ref b :: [a0, a1, a2, a3, a4, a5]) x r1 x1) (hv : kRcv w x b y.cls) (hr : (S.map fun v => v.category).sum ≤ 8) (k : KAt w mt (d + 1) q L (r1.toList ++ S) x1 r x') : KAt w mt (d + 1) pc L (a5 :: a4 :: a3 :: a2 :: a1 :: a0 :: .ref b :: S) x r x' :=
  k_virt (As := [a0, a1, a2, a3, a4, a5]) (S' := S) hd hk hm rfl hS hv hr k
theorem k_stat6 {a0 a1 a2 a3 a4 a5 : Value} {y : MethodName} {mt' : kMT} {idx : Nat} {x1 : X} {r1 : Option Value} (hd : kI mt pc (.invokestatic idx) 3 q) (hk : Cond.methodLink mt.1 idx y ∈ kWS) (hm : kMs y mt' 6) (hS : KSp w y mt' d [a0, a1, a2, a3, a4, a5] x r1 x1) (hr : (S.map fun v => v.category).sum ≤ 8) (k : KAt w mt (d + 1) q L (r1.toList ++ S) x1 r x') : KAt w mt (d + 1) pc L (a5 :: a4 :: a3 :: a2 :: a1 :: a0 :: S) x r x' :=
  k_stat (As := [a0, a1, a2, a3, a4, a5]) (S' := S) hd hk hm rfl hS hr k
theorem k_virt0v {y : MethodName} {mt' : kMT} {idx b : Nat} {x1 : X} (hd : kI mt pc (.invokevirtual idx) 3 q) (hk : Cond.methodLink mt.1 idx y ∈ kWS) (hm : kMv y mt' 0) (hS : KSp w y mt' d (.ref b :: []) x none x1) (hv : kRcv w x b y.cls) (hr : (S.map fun v => v.category).sum ≤ 8) (k : KAt w mt (d + 1) q L S x1 r x') : KAt w mt (d + 1) pc L (.ref b :: S) x r x' :=
  k_virt0 hd hk hm hS hv hr k
theorem k_stat0v {y : MethodName} {mt' : kMT} {idx : Nat} {x1 : X} (hd : kI mt pc (.invokestatic idx) 3 q) (hk : Cond.methodLink mt.1 idx y ∈ kWS) (hm : kMs y mt' 0) (hS : KSp w y mt' d [] x none x1) (hr : (S.map fun v => v.category).sum ≤ 8) (k : KAt w mt (d + 1) q L S x1 r x') : KAt w mt (d + 1) pc L (S) x r x' :=
  k_stat0 hd hk hm hS hr k
theorem k_virt0s {v : Value} {y : MethodName} {mt' : kMT} {idx b : Nat} {x1 : X} (hd : kI mt pc (.invokevirtual idx) 3 q) (hk : Cond.methodLink mt.1 idx y ∈ kWS) (hm : kMv y mt' 0) (hS : KSp w y mt' d (.ref b :: []) x (some v) x1) (hv : kRcv w x b y.cls) (hr : (S.map fun v => v.category).sum ≤ 8) (k : KAt w mt (d + 1) q L (v :: S) x1 r x') : KAt w mt (d + 1) pc L (.ref b :: S) x r x' :=
  k_virt0 hd hk hm hS hv hr k
theorem k_stat0s {v : Value} {y : MethodName} {mt' : kMT} {idx : Nat} {x1 : X} (hd : kI mt pc (.invokestatic idx) 3 q) (hk : Cond.methodLink mt.1 idx y ∈ kWS) (hm : kMs y mt' 0) (hS : KSp w y mt' d [] x (some v) x1) (hr : (S.map fun v => v.category).sum ≤ 8) (k : KAt w mt (d + 1) q L (v :: S) x1 r x') : KAt w mt (d + 1) pc L (S) x r x' :=
  k_stat0 hd hk hm hS hr k
theorem k_virt1v {a0 : Value} {y : MethodName} {mt' : kMT} {idx b : Nat} {x1 : X} (hd : kI mt pc (.invokevirtual idx) 3 q) (hk : Cond.methodLink mt.1 idx y ∈ kWS) (hm : kMv y mt' 1) (hS : KSp w y mt' d (.ref b :: [a0]) x none x1) (hv : kRcv w x b y.cls) (hr : (S.map fun v => v.category).sum ≤ 8) (k : KAt w mt (d + 1) q L S x1 r x') : KAt w mt (d + 1) pc L (a0 :: .ref b :: S) x r x' :=
  k_virt1 hd hk hm hS hv hr k
theorem k_stat1v {a0 : Value} {y : MethodName} {mt' : kMT} {idx : Nat} {x1 : X} (hd : kI mt pc (.invokestatic idx) 3 q) (hk : Cond.methodLink mt.1 idx y ∈ kWS) (hm : kMs y mt' 1) (hS : KSp w y mt' d [a0] x none x1) (hr : (S.map fun v => v.category).sum ≤ 8) (k : KAt w mt (d + 1) q L S x1 r x') : KAt w mt (d + 1) pc L (a0 :: S) x r x' :=
  k_stat1 hd hk hm hS hr k
theorem k_virt1s {a0 : Value} {v : Value} {y : MethodName} {mt' : kMT} {idx b : Nat} {x1 : X} (hd : kI mt pc (.invokevirtual idx) 3 q) (hk : Cond.methodLink mt.1 idx y ∈ kWS) (hm : kMv y mt' 1) (hS : KSp w y mt' d (.ref b :: [a0]) x (some v) x1) (hv : kRcv w x b y.cls) (hr : (S.map fun v => v.category).sum ≤ 8) (k : KAt w mt (d + 1) q L (v :: S) x1 r x') : KAt w mt (d + 1) pc L (a0 :: .ref b :: S) x r x' :=
  k_virt1 hd hk hm hS hv hr k
theorem k_stat1s {a0 : Value} {v : Value} {y : MethodName} {mt' : kMT} {idx : Nat} {x1 : X} (hd : kI mt pc (.invokestatic idx) 3 q) (hk : Cond.methodLink mt.1 idx y ∈ kWS) (hm : kMs y mt' 1) (hS : KSp w y mt' d [a0] x (some v) x1) (hr : (S.map fun v => v.category).sum ≤ 8) (k : KAt w mt (d + 1) q L (v :: S) x1 r x') : KAt w mt (d + 1) pc L (a0 :: S) x r x' :=
  k_stat1 hd hk hm hS hr k
theorem k_virt2v {a0 a1 : Value} {y : MethodName} {mt' : kMT} {idx b : Nat} {x1 : X} (hd : kI mt pc (.invokevirtual idx) 3 q) (hk : Cond.methodLink mt.1 idx y ∈ kWS) (hm : kMv y mt' 2) (hS : KSp w y mt' d (.ref b :: [a0, a1]) x none x1) (hv : kRcv w x b y.cls) (hr : (S.map fun v => v.category).sum ≤ 8) (k : KAt w mt (d + 1) q L S x1 r x') : KAt w mt (d + 1) pc L (a1 :: a0 :: .ref b :: S) x r x' :=
  k_virt2 hd hk hm hS hv hr k
theorem k_stat2v {a0 a1 : Value} {y : MethodName} {mt' : kMT} {idx : Nat} {x1 : X} (hd : kI mt pc (.invokestatic idx) 3 q) (hk : Cond.methodLink mt.1 idx y ∈ kWS) (hm : kMs y mt' 2) (hS : KSp w y mt' d [a0, a1] x none x1) (hr : (S.map fun v => v.category).sum ≤ 8) (k : KAt w mt (d + 1) q L S x1 r x') : KAt w mt (d + 1) pc L (a1 :: a0 :: S) x r x' :=
  k_stat2 hd hk hm hS hr k
theorem k_virt2s {a0 a1 : Value} {v : Value} {y : MethodName} {mt' : kMT} {idx b : Nat} {x1 : X} (hd : kI mt pc (.invokevirtual idx) 3 q) (hk : Cond.methodLink mt.1 idx y ∈ kWS) (hm : kMv y mt' 2) (hS : KSp w y mt' d (.ref b :: [a0, a1]) x (some v) x1) (hv : kRcv w x b y.cls) (hr : (S.map fun v => v.category).sum ≤ 8) (k : KAt w mt (d + 1) q L (v :: S) x1 r x') : KAt w mt (d + 1) pc L (a1 :: a0 :: .ref b :: S) x r x' :=
  k_virt2 hd hk hm hS hv hr k
theorem k_stat2s {a0 a1 : Value} {v : Value} {y : MethodName} {mt' : kMT} {idx : Nat} {x1 : X} (hd : kI mt pc (.invokestatic idx) 3 q) (hk : Cond.methodLink mt.1 idx y ∈ kWS) (hm : kMs y mt' 2) (hS : KSp w y mt' d [a0, a1] x (some v) x1) (hr : (S.map fun v => v.category).sum ≤ 8) (k : KAt w mt (d + 1) q L (v :: S) x1 r x') : KAt w mt (d + 1) pc L (a1 :: a0 :: S) x r x' :=
  k_stat2 hd hk hm hS hr k
theorem k_virt3v {a0 a1 a2 : Value} {y : MethodName} {mt' : kMT} {idx b : Nat} {x1 : X} (hd : kI mt pc (.invokevirtual idx) 3 q) (hk : Cond.methodLink mt.1 idx y ∈ kWS) (hm : kMv y mt' 3) (hS : KSp w y mt' d (.ref b :: [a0, a1, a2]) x none x1) (hv : kRcv w x b y.cls) (hr : (S.map fun v => v.category).sum ≤ 8) (k : KAt w mt (d + 1) q L S x1 r x') : KAt w mt (d + 1) pc L (a2 :: a1 :: a0 :: .ref b :: S) x r x' :=
  k_virt3 hd hk hm hS hv hr k
theorem k_stat3v {a0 a1 a2 : Value} {y : MethodName} {mt' : kMT} {idx : Nat} {x1 : X} (hd : kI mt pc (.invokestatic idx) 3 q) (hk : Cond.methodLink mt.1 idx y ∈ kWS) (hm : kMs y mt' 3) (hS : KSp w y mt' d [a0, a1, a2] x none x1) (hr : (S.map fun v => v.category).sum ≤ 8) (k : KAt w mt (d + 1) q L S x1 r x') : KAt w mt (d + 1) pc L (a2 :: a1 :: a0 :: S) x r x' :=
  k_stat3 hd hk hm hS hr k
theorem k_virt3s {a0 a1 a2 : Value} {v : Value} {y : MethodName} {mt' : kMT} {idx b : Nat} {x1 : X} (hd : kI mt pc (.invokevirtual idx) 3 q) (hk : Cond.methodLink mt.1 idx y ∈ kWS) (hm : kMv y mt' 3) (hS : KSp w y mt' d (.ref b :: [a0, a1, a2]) x (some v) x1) (hv : kRcv w x b y.cls) (hr : (S.map fun v => v.category).sum ≤ 8) (k : KAt w mt (d + 1) q L (v :: S) x1 r x') : KAt w mt (d + 1) pc L (a2 :: a1 :: a0 :: .ref b :: S) x r x' :=
  k_virt3 hd hk hm hS hv hr k
theorem k_stat3s {a0 a1 a2 : Value} {v : Value} {y : MethodName} {mt' : kMT} {idx : Nat} {x1 : X} (hd : kI mt pc (.invokestatic idx) 3 q) (hk : Cond.methodLink mt.1 idx y ∈ kWS) (hm : kMs y mt' 3) (hS : KSp w y mt' d [a0, a1, a2] x (some v) x1) (hr : (S.map fun v => v.category).sum ≤ 8) (k : KAt w mt (d + 1) q L (v :: S) x1 r x') : KAt w mt (d + 1) pc L (a2 :: a1 :: a0 :: S) x r x' :=
  k_stat3 hd hk hm hS hr k
theorem k_virt4v {a0 a1 a2 a3 : Value} {y : MethodName} {mt' : kMT} {idx b : Nat} {x1 : X} (hd : kI mt pc (.invokevirtual idx) 3 q) (hk : Cond.methodLink mt.1 idx y ∈ kWS) (hm : kMv y mt' 4) (hS : KSp w y mt' d (.ref b :: [a0, a1, a2, a3]) x none x1) (hv : kRcv w x b y.cls) (hr : (S.map fun v => v.category).sum ≤ 8) (k : KAt w mt (d + 1) q L S x1 r x') : KAt w mt (d + 1) pc L (a3 :: a2 :: a1 :: a0 :: .ref b :: S) x r x' :=
  k_virt4 hd hk hm hS hv hr k
theorem k_stat4v {a0 a1 a2 a3 : Value} {y : MethodName} {mt' : kMT} {idx : Nat} {x1 : X} (hd : kI mt pc (.invokestatic idx) 3 q) (hk : Cond.methodLink mt.1 idx y ∈ kWS) (hm : kMs y mt' 4) (hS : KSp w y mt' d [a0, a1, a2, a3] x none x1) (hr : (S.map fun v => v.category).sum ≤ 8) (k : KAt w mt (d + 1) q L S x1 r x') : KAt w mt (d + 1) pc L (a3 :: a2 :: a1 :: a0 :: S) x r x' :=
  k_stat4 hd hk hm hS hr k
theorem k_virt4s {a0 a1 a2 a3 : Value} {v : Value} {y : MethodName} {mt' : kMT} {idx b : Nat} {x1 : X} (hd : kI mt pc (.invokevirtual idx) 3 q) (hk : Cond.methodLink mt.1 idx y ∈ kWS) (hm : kMv y mt' 4) (hS : KSp w y mt' d (.ref b :: [a0, a1, a2, a3]) x (some v) x1) (hv : kRcv w x b y.cls) (hr : (S.map fun v => v.category).sum ≤ 8) (k : KAt w mt (d + 1) q L (v :: S) x1 r x') : KAt w mt (d + 1) pc L (a3 :: a2 :: a1 :: a0 :: .ref b :: S) x r x' :=
  k_virt4 hd hk hm hS hv hr k
theorem k_stat4s {a0 a1 a2 a3 : Value} {v : Value} {y : MethodName} {mt' : kMT} {idx : Nat} {x1 : X} (hd : kI mt pc (.invokestatic idx) 3 q) (hk : Cond.methodLink mt.1 idx y ∈ kWS) (hm : kMs y mt' 4) (hS : KSp w y mt' d [a0, a1, a2, a3] x (some v) x1) (hr : (S.map fun v => v.category).sum ≤ 8) (k : KAt w mt (d + 1) q L (v :: S) x1 r x') : KAt w mt (d + 1) pc L (a3 :: a2 :: a1 :: a0 :: S) x r x' :=
  k_stat4 hd hk hm hS hr k
theorem k_virt5v {a0 a1 a2 a3 a4 : Value} {y : MethodName} {mt' : kMT} {idx b : Nat} {x1 : X} (hd : kI mt pc (.invokevirtual idx) 3 q) (hk : Cond.methodLink mt.1 idx y ∈ kWS) (hm : kMv y mt' 5) (hS : KSp w y mt' d (.ref b :: [a0, a1, a2, a3, a4]) x none x1) (hv : kRcv w x b y.cls) (hr : (S.map fun v => v.category).sum ≤ 8) (k : KAt w mt (d + 1) q L S x1 r x') : KAt w mt (d + 1) pc L (a4 :: a3 :: a2 :: a1 :: a0 :: .ref b :: S) x r x' :=
  k_virt5 hd hk hm hS hv hr k
theorem k_stat5v {a0 a1 a2 a3 a4 : Value} {y : MethodName} {mt' : kMT} {idx : Nat} {x1 : X} (hd : kI mt pc (.invokestatic idx) 3 q) (hk : Cond.methodLink mt.1 idx y ∈ kWS) (hm : kMs y mt' 5) (hS : KSp w y mt' d [a0, a1, a2, a3, a4] x none x1) (hr : (S.map fun v => v.category).sum ≤ 8) (k : KAt w mt (d + 1) q L S x1 r x') : KAt w mt (d + 1) pc L (a4 :: a3 :: a2 :: a1 :: a0 :: S) x r x' :=
  k_stat5 hd hk hm hS hr k
theorem k_virt5s {a0 a1 a2 a3 a4 : Value} {v : Value} {y : MethodName} {mt' : kMT} {idx b : Nat} {x1 : X} (hd : kI mt pc (.invokevirtual idx) 3 q) (hk : Cond.methodLink mt.1 idx y ∈ kWS) (hm : kMv y mt' 5) (hS : KSp w y mt' d (.ref b :: [a0, a1, a2, a3, a4]) x (some v) x1) (hv : kRcv w x b y.cls) (hr : (S.map fun v => v.category).sum ≤ 8) (k : KAt w mt (d + 1) q L (v :: S) x1 r x') : KAt w mt (d + 1) pc L (a4 :: a3 :: a2 :: a1 :: a0 :: .ref b :: S) x r x' :=
  k_virt5 hd hk hm hS hv hr k
theorem k_stat5s {a0 a1 a2 a3 a4 : Value} {v : Value} {y : MethodName} {mt' : kMT} {idx : Nat} {x1 : X} (hd : kI mt pc (.invokestatic idx) 3 q) (hk : Cond.methodLink mt.1 idx y ∈ kWS) (hm : kMs y mt' 5) (hS : KSp w y mt' d [a0, a1, a2, a3, a4] x (some v) x1) (hr : (S.map fun v => v.category).sum ≤ 8) (k : KAt w mt (d + 1) q L (v :: S) x1 r x') : KAt w mt (d + 1) pc L (a4 :: a3 :: a2 :: a1 :: a0 :: S) x r x' :=
  k_stat5 hd hk hm hS hr k
theorem k_virt6v {a0 a1 a2 a3 a4 a5 : Value} {y : MethodName} {mt' : kMT} {idx b : Nat} {x1 : X} (hd : kI mt pc (.invokevirtual idx) 3 q) (hk : Cond.methodLink mt.1 idx y ∈ kWS) (hm : kMv y mt' 6) (hS : KSp w y mt' d (.ref b :: [a0, a1, a2, a3, a4, a5]) x none x1) (hv : kRcv w x b y.cls) (hr : (S.map fun v => v.category).sum ≤ 8) (k : KAt w mt (d + 1) q L S x1 r x') : KAt w mt (d + 1) pc L (a5 :: a4 :: a3 :: a2 :: a1 :: a0 :: .ref b :: S) x r x' :=
  k_virt6 hd hk hm hS hv hr k
theorem k_stat6v {a0 a1 a2 a3 a4 a5 : Value} {y : MethodName} {mt' : kMT} {idx : Nat} {x1 : X} (hd : kI mt pc (.invokestatic idx) 3 q) (hk : Cond.methodLink mt.1 idx y ∈ kWS) (hm : kMs y mt' 6) (hS : KSp w y mt' d [a0, a1, a2, a3, a4, a5] x none x1) (hr : (S.map fun v => v.category).sum ≤ 8) (k : KAt w mt (d + 1) q L S x1 r x') : KAt w mt (d + 1) pc L (a5 :: a4 :: a3 :: a2 :: a1 :: a0 :: S) x r x' :=
  k_stat6 hd hk hm hS hr k
theorem k_virt6s {a0 a1 a2 a3 a4 a5 : Value} {v : Value} {y : MethodName} {mt' : kMT} {idx b : Nat} {x1 : X} (hd : kI mt pc (.invokevirtual idx) 3 q) (hk : Cond.methodLink mt.1 idx y ∈ kWS) (hm : kMv y mt' 6) (hS : KSp w y mt' d (.ref b :: [a0, a1, a2, a3, a4, a5]) x (some v) x1) (hv : kRcv w x b y.cls) (hr : (S.map fun v => v.category).sum ≤ 8) (k : KAt w mt (d + 1) q L (v :: S) x1 r x') : KAt w mt (d + 1) pc L (a5 :: a4 :: a3 :: a2 :: a1 :: a0 :: .ref b :: S) x r x' :=
  k_virt6 hd hk hm hS hv hr k
theorem k_stat6s {a0 a1 a2 a3 a4 a5 : Value} {v : Value} {y : MethodName} {mt' : kMT} {idx : Nat} {x1 : X} (hd : kI mt pc (.invokestatic idx) 3 q) (hk : Cond.methodLink mt.1 idx y ∈ kWS) (hm : kMs y mt' 6) (hS : KSp w y mt' d [a0, a1, a2, a3, a4, a5] x (some v) x1) (hr : (S.map fun v => v.category).sum ≤ 8) (k : KAt w mt (d + 1) q L (v :: S) x1 r x') : KAt w mt (d + 1) pc L (a5 :: a4 :: a3 :: a2 :: a1 :: a0 :: S) x r x' :=
  k_stat6 hd hk hm hS hr k
end KRU
