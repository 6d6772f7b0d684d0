section
-- ===== PART A: goes FIRST, ahead of the names: the tables' words, and 'selects' of the private methods out of them =====
/-- a private method of a class that the tables say can be made, by its rows of tables_1 -/
def lw_okq (q : MethodName × Nat) : Prop := (q.1.cls ≠ "java/lang/invoke/MethodHandle" ∧ q.1.cls ≠ "java/lang/invoke/VarHandle") ∧ Cond.instantiable q.1.cls q.2 ∈ tables_1 ∧ Cond.privateMethod q.1 ∈ tables_1 ∧ Cond.instanceMethod q.1 ∈ tables_1
theorem lw_p0 : lw_okq (⟨"PagerKernel", "isThread", "(I)Z"⟩, 5) := ⟨⟨by decide +kernel, by decide +kernel⟩, List.mem_of_getElem? (i := 7) (by decide +kernel), List.mem_of_getElem? (i := 141) (by decide +kernel), List.mem_of_getElem? (i := 142) (by decide +kernel)⟩
theorem lw_p1 : lw_okq (⟨"PagerKernel", "leastFreeNumber", "()I"⟩, 5) := ⟨⟨by decide +kernel, by decide +kernel⟩, List.mem_of_getElem? (i := 7) (by decide +kernel), List.mem_of_getElem? (i := 145) (by decide +kernel), List.mem_of_getElem? (i := 146) (by decide +kernel)⟩
theorem lw_p2 : lw_okq (⟨"PagerKernel", "isRunning", "(I)Z"⟩, 5) := ⟨⟨by decide +kernel, by decide +kernel⟩, List.mem_of_getElem? (i := 7) (by decide +kernel), List.mem_of_getElem? (i := 169) (by decide +kernel), List.mem_of_getElem? (i := 170) (by decide +kernel)⟩
theorem lw_p3 : lw_okq (⟨"PagerKernel", "maySend", "(III)Z"⟩, 5) := ⟨⟨by decide +kernel, by decide +kernel⟩, List.mem_of_getElem? (i := 7) (by decide +kernel), List.mem_of_getElem? (i := 194) (by decide +kernel), List.mem_of_getElem? (i := 195) (by decide +kernel)⟩
theorem lw_p4 : lw_okq (⟨"PagerKernel", "passMessage", "(LPagerKernel$KernelThread;LPagerKernel$KernelThread;Z)V"⟩, 5) := ⟨⟨by decide +kernel, by decide +kernel⟩, List.mem_of_getElem? (i := 7) (by decide +kernel), List.mem_of_getElem? (i := 209) (by decide +kernel), List.mem_of_getElem? (i := 210) (by decide +kernel)⟩
theorem lw_p5 : lw_okq (⟨"PagerKernel", "passOffer", "(LPagerKernel$KernelThread;LPagerKernel$KernelThread;)V"⟩, 5) := ⟨⟨by decide +kernel, by decide +kernel⟩, List.mem_of_getElem? (i := 7) (by decide +kernel), List.mem_of_getElem? (i := 217) (by decide +kernel), List.mem_of_getElem? (i := 218) (by decide +kernel)⟩
theorem lw_p6 : lw_okq (⟨"PagerKernel", "tryAccess", "(LPagerKernel$KernelThread;)V"⟩, 5) := ⟨⟨by decide +kernel, by decide +kernel⟩, List.mem_of_getElem? (i := 7) (by decide +kernel), List.mem_of_getElem? (i := 260) (by decide +kernel), List.mem_of_getElem? (i := 261) (by decide +kernel)⟩
theorem lw_p7 : lw_okq (⟨"PagerKernel", "doAccess", "(LPagerKernel$KernelThread;I)V"⟩, 5) := ⟨⟨by decide +kernel, by decide +kernel⟩, List.mem_of_getElem? (i := 7) (by decide +kernel), List.mem_of_getElem? (i := 264) (by decide +kernel), List.mem_of_getElem? (i := 265) (by decide +kernel)⟩
theorem lw_p8 : lw_okq (⟨"PagerKernel", "fault", "(LPagerKernel$KernelThread;LPagerKernel$KernelThread;)V"⟩, 5) := ⟨⟨by decide +kernel, by decide +kernel⟩, List.mem_of_getElem? (i := 7) (by decide +kernel), List.mem_of_getElem? (i := 268) (by decide +kernel), List.mem_of_getElem? (i := 269) (by decide +kernel)⟩
theorem lw_p9 : lw_okq (⟨"PagerKernel", "joinLine", "(LPagerKernel$KernelThread;III)V"⟩, 5) := ⟨⟨by decide +kernel, by decide +kernel⟩, List.mem_of_getElem? (i := 7) (by decide +kernel), List.mem_of_getElem? (i := 272) (by decide +kernel), List.mem_of_getElem? (i := 273) (by decide +kernel)⟩
theorem lw_p10 : lw_okq (⟨"PagerKernel", "passFault", "(LPagerKernel$KernelThread;LPagerKernel$KernelThread;)V"⟩, 5) := ⟨⟨by decide +kernel, by decide +kernel⟩, List.mem_of_getElem? (i := 7) (by decide +kernel), List.mem_of_getElem? (i := 277) (by decide +kernel), List.mem_of_getElem? (i := 278) (by decide +kernel)⟩
theorem lw_p11 : lw_okq (⟨"PagerKernel", "waitToSend", "(LPagerKernel$KernelThread;III)I"⟩, 5) := ⟨⟨by decide +kernel, by decide +kernel⟩, List.mem_of_getElem? (i := 7) (by decide +kernel), List.mem_of_getElem? (i := 281) (by decide +kernel), List.mem_of_getElem? (i := 282) (by decide +kernel)⟩
theorem lw_p12 : lw_okq (⟨"PagerKernel", "deadline", "(I)I"⟩, 5) := ⟨⟨by decide +kernel, by decide +kernel⟩, List.mem_of_getElem? (i := 7) (by decide +kernel), List.mem_of_getElem? (i := 288) (by decide +kernel), List.mem_of_getElem? (i := 289) (by decide +kernel)⟩
theorem lw_p13 : lw_okq (⟨"PagerKernel", "longestWaiting", "(II)LPagerKernel$KernelThread;"⟩, 5) := ⟨⟨by decide +kernel, by decide +kernel⟩, List.mem_of_getElem? (i := 7) (by decide +kernel), List.mem_of_getElem? (i := 300) (by decide +kernel), List.mem_of_getElem? (i := 301) (by decide +kernel)⟩
theorem lw_p14 : lw_okq (⟨"PagerKernel", "takeWaitingMessage", "(LPagerKernel$KernelThread;LPagerKernel$KernelThread;)V"⟩, 5) := ⟨⟨by decide +kernel, by decide +kernel⟩, List.mem_of_getElem? (i := 7) (by decide +kernel), List.mem_of_getElem? (i := 308) (by decide +kernel), List.mem_of_getElem? (i := 309) (by decide +kernel)⟩
theorem lw_p15 : lw_okq (⟨"PagerKernelModel", "begin", "(III)V"⟩, 26) := ⟨⟨by decide +kernel, by decide +kernel⟩, List.mem_of_getElem? (i := 372) (by decide +kernel), List.mem_of_getElem? (i := 378) (by decide +kernel), List.mem_of_getElem? (i := 379) (by decide +kernel)⟩
def lw_privs_1 : List (MethodName × Nat) := [(⟨"PagerKernel", "isThread", "(I)Z"⟩, 5), (⟨"PagerKernel", "leastFreeNumber", "()I"⟩, 5), (⟨"PagerKernel", "isRunning", "(I)Z"⟩, 5), (⟨"PagerKernel", "maySend", "(III)Z"⟩, 5), (⟨"PagerKernel", "passMessage", "(LPagerKernel$KernelThread;LPagerKernel$KernelThread;Z)V"⟩, 5), (⟨"PagerKernel", "passOffer", "(LPagerKernel$KernelThread;LPagerKernel$KernelThread;)V"⟩, 5), (⟨"PagerKernel", "tryAccess", "(LPagerKernel$KernelThread;)V"⟩, 5), (⟨"PagerKernel", "doAccess", "(LPagerKernel$KernelThread;I)V"⟩, 5), (⟨"PagerKernel", "fault", "(LPagerKernel$KernelThread;LPagerKernel$KernelThread;)V"⟩, 5), (⟨"PagerKernel", "joinLine", "(LPagerKernel$KernelThread;III)V"⟩, 5), (⟨"PagerKernel", "passFault", "(LPagerKernel$KernelThread;LPagerKernel$KernelThread;)V"⟩, 5), (⟨"PagerKernel", "waitToSend", "(LPagerKernel$KernelThread;III)I"⟩, 5), (⟨"PagerKernel", "deadline", "(I)I"⟩, 5), (⟨"PagerKernel", "longestWaiting", "(II)LPagerKernel$KernelThread;"⟩, 5), (⟨"PagerKernel", "takeWaitingMessage", "(LPagerKernel$KernelThread;LPagerKernel$KernelThread;)V"⟩, 5), (⟨"PagerKernelModel", "begin", "(III)V"⟩, 26)]
theorem lw_r1 : ∀ q ∈ lw_privs_1, lw_okq q := List.forall_mem_cons.mpr ⟨lw_p0, List.forall_mem_cons.mpr ⟨lw_p1, List.forall_mem_cons.mpr ⟨lw_p2, List.forall_mem_cons.mpr ⟨lw_p3, List.forall_mem_cons.mpr ⟨lw_p4, List.forall_mem_cons.mpr ⟨lw_p5, List.forall_mem_cons.mpr ⟨lw_p6, List.forall_mem_cons.mpr ⟨lw_p7, List.forall_mem_cons.mpr ⟨lw_p8, List.forall_mem_cons.mpr ⟨lw_p9, List.forall_mem_cons.mpr ⟨lw_p10, List.forall_mem_cons.mpr ⟨lw_p11, List.forall_mem_cons.mpr ⟨lw_p12, List.forall_mem_cons.mpr ⟨lw_p13, List.forall_mem_cons.mpr ⟨lw_p14, List.forall_mem_cons.mpr ⟨lw_p15, fun _ h => absurd h List.not_mem_nil⟩⟩⟩⟩⟩⟩⟩⟩⟩⟩⟩⟩⟩⟩⟩⟩
theorem lw_p16 : lw_okq (⟨"PagerKernelModel", "thread", "(I)Z"⟩, 26) := ⟨⟨by decide +kernel, by decide +kernel⟩, List.mem_of_getElem? (i := 372) (by decide +kernel), List.mem_of_getElem? (i := 466) (by decide +kernel), List.mem_of_getElem? (i := 467) (by decide +kernel)⟩
theorem lw_p17 : lw_okq (⟨"PagerKernelModel", "run", "(II)V"⟩, 26) := ⟨⟨by decide +kernel, by decide +kernel⟩, List.mem_of_getElem? (i := 372) (by decide +kernel), List.mem_of_getElem? (i := 474) (by decide +kernel), List.mem_of_getElem? (i := 475) (by decide +kernel)⟩
theorem lw_p18 : lw_okq (⟨"PagerKernelModel", "running", "(I)Z"⟩, 26) := ⟨⟨by decide +kernel, by decide +kernel⟩, List.mem_of_getElem? (i := 372) (by decide +kernel), List.mem_of_getElem? (i := 482) (by decide +kernel), List.mem_of_getElem? (i := 483) (by decide +kernel)⟩
theorem lw_p19 : lw_okq (⟨"PagerKernelModel", "speak", "(IIIZ)I"⟩, 26) := ⟨⟨by decide +kernel, by decide +kernel⟩, List.mem_of_getElem? (i := 372) (by decide +kernel), List.mem_of_getElem? (i := 498) (by decide +kernel), List.mem_of_getElem? (i := 499) (by decide +kernel)⟩
theorem lw_p20 : lw_okq (⟨"PagerKernelModel", "takes", "(II)Z"⟩, 26) := ⟨⟨by decide +kernel, by decide +kernel⟩, List.mem_of_getElem? (i := 372) (by decide +kernel), List.mem_of_getElem? (i := 502) (by decide +kernel), List.mem_of_getElem? (i := 503) (by decide +kernel)⟩
theorem lw_p21 : lw_okq (⟨"PagerKernelModel", "message", "(IIZ)V"⟩, 26) := ⟨⟨by decide +kernel, by decide +kernel⟩, List.mem_of_getElem? (i := 372) (by decide +kernel), List.mem_of_getElem? (i := 506) (by decide +kernel), List.mem_of_getElem? (i := 507) (by decide +kernel)⟩
theorem lw_p22 : lw_okq (⟨"PagerKernelModel", "take", "(IIIIII)V"⟩, 26) := ⟨⟨by decide +kernel, by decide +kernel⟩, List.mem_of_getElem? (i := 372) (by decide +kernel), List.mem_of_getElem? (i := 510) (by decide +kernel), List.mem_of_getElem? (i := 511) (by decide +kernel)⟩
theorem lw_p23 : lw_okq (⟨"PagerKernelModel", "handOn", "(III)V"⟩, 26) := ⟨⟨by decide +kernel, by decide +kernel⟩, List.mem_of_getElem? (i := 372) (by decide +kernel), List.mem_of_getElem? (i := 514) (by decide +kernel), List.mem_of_getElem? (i := 515) (by decide +kernel)⟩
theorem lw_p24 : lw_okq (⟨"PagerKernelModel", "removeBelow", "(I)I"⟩, 26) := ⟨⟨by decide +kernel, by decide +kernel⟩, List.mem_of_getElem? (i := 372) (by decide +kernel), List.mem_of_getElem? (i := 518) (by decide +kernel), List.mem_of_getElem? (i := 519) (by decide +kernel)⟩
theorem lw_p25 : lw_okq (⟨"PagerKernelModel", "descends", "(II)Z"⟩, 26) := ⟨⟨by decide +kernel, by decide +kernel⟩, List.mem_of_getElem? (i := 372) (by decide +kernel), List.mem_of_getElem? (i := 522) (by decide +kernel), List.mem_of_getElem? (i := 523) (by decide +kernel)⟩
theorem lw_p26 : lw_okq (⟨"PagerKernelModel", "move", "(II)V"⟩, 26) := ⟨⟨by decide +kernel, by decide +kernel⟩, List.mem_of_getElem? (i := 372) (by decide +kernel), List.mem_of_getElem? (i := 526) (by decide +kernel), List.mem_of_getElem? (i := 527) (by decide +kernel)⟩
theorem lw_p27 : lw_okq (⟨"PagerKernelModel", "linger", "(IIII)V"⟩, 26) := ⟨⟨by decide +kernel, by decide +kernel⟩, List.mem_of_getElem? (i := 372) (by decide +kernel), List.mem_of_getElem? (i := 530) (by decide +kernel), List.mem_of_getElem? (i := 531) (by decide +kernel)⟩
theorem lw_p28 : lw_okq (⟨"PagerKernelModel", "attempt", "(I)V"⟩, 26) := ⟨⟨by decide +kernel, by decide +kernel⟩, List.mem_of_getElem? (i := 372) (by decide +kernel), List.mem_of_getElem? (i := 534) (by decide +kernel), List.mem_of_getElem? (i := 535) (by decide +kernel)⟩
theorem lw_p29 : lw_okq (⟨"PagerKernelModel", "report", "(I)V"⟩, 26) := ⟨⟨by decide +kernel, by decide +kernel⟩, List.mem_of_getElem? (i := 372) (by decide +kernel), List.mem_of_getElem? (i := 538) (by decide +kernel), List.mem_of_getElem? (i := 539) (by decide +kernel)⟩
theorem lw_p30 : lw_okq (⟨"PagerKernelModel", "waitsFor", "(II)Z"⟩, 26) := ⟨⟨by decide +kernel, by decide +kernel⟩, List.mem_of_getElem? (i := 372) (by decide +kernel), List.mem_of_getElem? (i := 550) (by decide +kernel), List.mem_of_getElem? (i := 551) (by decide +kernel)⟩
theorem lw_p31 : lw_okq (⟨"PagerKernelModel", "place", "(II)I"⟩, 26) := ⟨⟨by decide +kernel, by decide +kernel⟩, List.mem_of_getElem? (i := 372) (by decide +kernel), List.mem_of_getElem? (i := 590) (by decide +kernel), List.mem_of_getElem? (i := 591) (by decide +kernel)⟩
def lw_privs_2 : List (MethodName × Nat) := [(⟨"PagerKernelModel", "thread", "(I)Z"⟩, 26), (⟨"PagerKernelModel", "run", "(II)V"⟩, 26), (⟨"PagerKernelModel", "running", "(I)Z"⟩, 26), (⟨"PagerKernelModel", "speak", "(IIIZ)I"⟩, 26), (⟨"PagerKernelModel", "takes", "(II)Z"⟩, 26), (⟨"PagerKernelModel", "message", "(IIZ)V"⟩, 26), (⟨"PagerKernelModel", "take", "(IIIIII)V"⟩, 26), (⟨"PagerKernelModel", "handOn", "(III)V"⟩, 26), (⟨"PagerKernelModel", "removeBelow", "(I)I"⟩, 26), (⟨"PagerKernelModel", "descends", "(II)Z"⟩, 26), (⟨"PagerKernelModel", "move", "(II)V"⟩, 26), (⟨"PagerKernelModel", "linger", "(IIII)V"⟩, 26), (⟨"PagerKernelModel", "attempt", "(I)V"⟩, 26), (⟨"PagerKernelModel", "report", "(I)V"⟩, 26), (⟨"PagerKernelModel", "waitsFor", "(II)Z"⟩, 26), (⟨"PagerKernelModel", "place", "(II)I"⟩, 26)]
theorem lw_r2 : ∀ q ∈ lw_privs_2, lw_okq q := List.forall_mem_cons.mpr ⟨lw_p16, List.forall_mem_cons.mpr ⟨lw_p17, List.forall_mem_cons.mpr ⟨lw_p18, List.forall_mem_cons.mpr ⟨lw_p19, List.forall_mem_cons.mpr ⟨lw_p20, List.forall_mem_cons.mpr ⟨lw_p21, List.forall_mem_cons.mpr ⟨lw_p22, List.forall_mem_cons.mpr ⟨lw_p23, List.forall_mem_cons.mpr ⟨lw_p24, List.forall_mem_cons.mpr ⟨lw_p25, List.forall_mem_cons.mpr ⟨lw_p26, List.forall_mem_cons.mpr ⟨lw_p27, List.forall_mem_cons.mpr ⟨lw_p28, List.forall_mem_cons.mpr ⟨lw_p29, List.forall_mem_cons.mpr ⟨lw_p30, List.forall_mem_cons.mpr ⟨lw_p31, fun _ h => absurd h List.not_mem_nil⟩⟩⟩⟩⟩⟩⟩⟩⟩⟩⟩⟩⟩⟩⟩⟩
theorem lw_p32 : lw_okq (⟨"PagerKernelModel", "descendants", "(I)I"⟩, 26) := ⟨⟨by decide +kernel, by decide +kernel⟩, List.mem_of_getElem? (i := 372) (by decide +kernel), List.mem_of_getElem? (i := 598) (by decide +kernel), List.mem_of_getElem? (i := 599) (by decide +kernel)⟩
def lw_privs_3 : List (MethodName × Nat) := [(⟨"PagerKernelModel", "descendants", "(I)I"⟩, 26)]
theorem lw_r3 : ∀ q ∈ lw_privs_3, lw_okq q := List.forall_mem_cons.mpr ⟨lw_p32, fun _ h => absurd h List.not_mem_nil⟩
def lw_privs : List (MethodName × Nat) := lw_privs_1 ++ (lw_privs_2 ++ (lw_privs_3))
def lw_tbl : List Cond := k2_sels lw_privs ++ tables_1
theorem lw_privs_ok : ∀ q ∈ lw_privs, lw_okq q := by
  show ∀ q ∈ lw_privs_1 ++ (lw_privs_2 ++ (lw_privs_3)), lw_okq q
  exact List.forall_mem_append.mpr ⟨lw_r1, List.forall_mem_append.mpr ⟨lw_r2, lw_r3⟩⟩
end
section
/-- a method: its class, its code, how many locals, what it answers -/
abbrev kMT : Type := String × ByteArray × Nat × Option FieldType
def R_K : String := "PagerKernel"
def F_K : u_T := fun k => match k with
  | 0 => ("PagerKernel", "threads", "[LPagerKernel$KernelThread;", true)
  | 1 => ("PagerKernel", "mappings", "LPagerKernel$MappingTree;", true)
  | 2 => ("PagerKernel", "words", "[I", true)
  | 3 => ("PagerKernel", "now", "I", false)
  | _ => ("PagerKernel", "arrivals", "I", false)
def ft_K : Nat → FieldType := fun k => match k with
  | 0 => .array (.object "PagerKernel$KernelThread")
  | 1 => .object "PagerKernel$MappingTree"
  | 2 => .array .int
  | 3 => .int
  | _ => .int
def R_P : String := "PagerKernel$MappingTree"
def F_P : u_T := fun k => match k with
  | 0 => ("PagerKernel$MappingTree", "level", "[I", true)
  | 1 => ("PagerKernel$MappingTree", "frame", "[I", true)
  | 2 => ("PagerKernel$MappingTree", "depth", "[I", true)
  | _ => ("PagerKernel$MappingTree", "parent", "[I", true)
def ft_P : Nat → FieldType := fun k => match k with
  | 0 => .array .int
  | 1 => .array .int
  | 2 => .array .int
  | _ => .array .int
def R_H : String := "PagerKernel$KernelThread"
def F_H : u_T := fun k => match k with
  | 0 => ("PagerKernel$KernelThread", "number", "I", true)
  | 1 => ("PagerKernel$KernelThread", "registers", "[I", true)
  | 2 => ("PagerKernel$KernelThread", "state", "I", false)
  | 3 => ("PagerKernel$KernelThread", "space", "I", false)
  | 4 => ("PagerKernel$KernelThread", "pager", "I", false)
  | 5 => ("PagerKernel$KernelThread", "offerPage", "I", false)
  | 6 => ("PagerKernel$KernelThread", "offerLevel", "I", false)
  | 7 => ("PagerKernel$KernelThread", "offerGrant", "Z", false)
  | 8 => ("PagerKernel$KernelThread", "windowPage", "I", false)
  | 9 => ("PagerKernel$KernelThread", "lastOutcome", "I", false)
  | 10 => ("PagerKernel$KernelThread", "lastSender", "I", false)
  | 11 => ("PagerKernel$KernelThread", "lastValue", "I", false)
  | 12 => ("PagerKernel$KernelThread", "messagesTaken", "I", false)
  | 13 => ("PagerKernel$KernelThread", "partner", "I", false)
  | 14 => ("PagerKernel$KernelThread", "deadline", "I", false)
  | 15 => ("PagerKernel$KernelThread", "arrival", "I", false)
  | 16 => ("PagerKernel$KernelThread", "wantedPage", "I", false)
  | 17 => ("PagerKernel$KernelThread", "wantedLevel", "I", false)
  | _ => ("PagerKernel$KernelThread", "wantedWord", "I", false)
def ft_H : Nat → FieldType := fun k => match k with
  | 0 => .int
  | 1 => .array .int
  | 2 => .int
  | 3 => .int
  | 4 => .int
  | 5 => .int
  | 6 => .int
  | 7 => .boolean
  | 8 => .int
  | 9 => .int
  | 10 => .int
  | 11 => .int
  | 12 => .int
  | 13 => .int
  | 14 => .int
  | 15 => .int
  | 16 => .int
  | 17 => .int
  | _ => .int
def R_R : String := "PagerKernelModel"
def F_R : u_T := fun k => match k with
  | 0 => ("PagerKernelModel", "now", "I", false)
  | 1 => ("PagerKernelModel", "clock", "I", false)
  | 2 => ("PagerKernelModel", "alive", "[Z", false)
  | 3 => ("PagerKernelModel", "space", "[I", false)
  | 4 => ("PagerKernelModel", "pager", "[I", false)
  | 5 => ("PagerKernelModel", "registers", "[I", false)
  | 6 => ("PagerKernelModel", "offered", "[I", false)
  | 7 => ("PagerKernelModel", "offeredLevel", "[I", false)
  | 8 => ("PagerKernelModel", "granted", "[Z", false)
  | 9 => ("PagerKernelModel", "windows", "[I", false)
  | 10 => ("PagerKernelModel", "outcomes", "[I", false)
  | 11 => ("PagerKernelModel", "senders", "[I", false)
  | 12 => ("PagerKernelModel", "values", "[I", false)
  | 13 => ("PagerKernelModel", "counts", "[I", false)
  | 14 => ("PagerKernelModel", "states", "[I", false)
  | 15 => ("PagerKernelModel", "other", "[I", false)
  | 16 => ("PagerKernelModel", "until", "[I", false)
  | 17 => ("PagerKernelModel", "since", "[I", false)
  | 18 => ("PagerKernelModel", "wanted", "[I", false)
  | 19 => ("PagerKernelModel", "storing", "[Z", false)
  | 20 => ("PagerKernelModel", "stored", "[I", false)
  | 21 => ("PagerKernelModel", "frames", "[I", false)
  | 22 => ("PagerKernelModel", "levels", "[I", false)
  | 23 => ("PagerKernelModel", "depths", "[I", false)
  | 24 => ("PagerKernelModel", "parents", "[I", false)
  | _ => ("PagerKernelModel", "words", "[I", false)
def ft_R : Nat → FieldType := fun k => match k with
  | 0 => .int
  | 1 => .int
  | 2 => .array .boolean
  | 3 => .array .int
  | 4 => .array .int
  | 5 => .array .int
  | 6 => .array .int
  | 7 => .array .int
  | 8 => .array .boolean
  | 9 => .array .int
  | 10 => .array .int
  | 11 => .array .int
  | 12 => .array .int
  | 13 => .array .int
  | 14 => .array .int
  | 15 => .array .int
  | 16 => .array .int
  | 17 => .array .int
  | 18 => .array .int
  | 19 => .array .boolean
  | 20 => .array .int
  | 21 => .array .int
  | 22 => .array .int
  | 23 => .array .int
  | 24 => .array .int
  | _ => .array .int
/-- the classes whose objects the worlds hold: an object names its class by its place here -/
abbrev kCl : List vw_C := [(R_K, F_K, 5), (R_P, F_P, 4), (R_H, F_H, 19), (R_R, F_R, 26)]
def kTh : String := "PagerKernel$KernelThread"
/-- the words that every method of the system rests on -/
def kWS : List Cond := lw_tbl.filter goodWord
theorem kGood : ∀ q ∈ kWS, goodWord q = true := fun q h => (List.mem_filter.mp h).2
theorem kIn {q : Cond} (i : Nat) (h : lw_tbl[i]? = some q) (hg : goodWord q = true) : q ∈ kWS := List.mem_filter.mpr ⟨List.mem_of_getElem? h, hg⟩
theorem fn_K : ∀ a, a < 5 → ∀ b, b < 5 → a ≠ b → (F_K a).2.1 ≠ (F_K b).2.1 := by decide +kernel
theorem ft_K_ok : ∀ k, k < 5 → parseFieldDescriptor (F_K k).2.2.1 = some (ft_K k) := by decide +kernel
theorem uw_K : ∀ q ∈ u_ws R_K F_K 5, q ∈ kWS := by decide +kernel
theorem fn_P : ∀ a, a < 4 → ∀ b, b < 4 → a ≠ b → (F_P a).2.1 ≠ (F_P b).2.1 := by decide +kernel
theorem ft_P_ok : ∀ k, k < 4 → parseFieldDescriptor (F_P k).2.2.1 = some (ft_P k) := by decide +kernel
theorem uw_P : ∀ q ∈ u_ws R_P F_P 4, q ∈ kWS := by decide +kernel
theorem fn_H : ∀ a, a < 19 → ∀ b, b < 19 → a ≠ b → (F_H a).2.1 ≠ (F_H b).2.1 := by decide +kernel
theorem ft_H_ok : ∀ k, k < 19 → parseFieldDescriptor (F_H k).2.2.1 = some (ft_H k) := by decide +kernel
theorem uw_H : ∀ q ∈ u_ws R_H F_H 19, q ∈ kWS := by decide +kernel
theorem fn_R : ∀ a, a < 26 → ∀ b, b < 26 → a ≠ b → (F_R a).2.1 ≠ (F_R b).2.1 := by decide +kernel
theorem ft_R_ok : ∀ k, k < 26 → parseFieldDescriptor (F_R k).2.2.1 = some (ft_R k) := by decide +kernel
theorem uw_R : ∀ q ∈ u_ws R_R F_R 26, q ∈ kWS := by decide +kernel
abbrev y_K_init : MethodName := ⟨"PagerKernel", "<init>", "()V"⟩
abbrev m_K_init : kMT := ("PagerKernel", prog_1_method_1_code, 2, none)
abbrev y_K_spawn : MethodName := ⟨"PagerKernel", "spawn", "(II)I"⟩
abbrev m_K_spawn : kMT := ("PagerKernel", prog_1_method_2_code, 4, some .int)
abbrev y_K_delete : MethodName := ⟨"PagerKernel", "delete", "(I)Z"⟩
abbrev m_K_delete : kMT := ("PagerKernel", prog_1_method_3_code, 6, some .boolean)
abbrev y_K_load : MethodName := ⟨"PagerKernel", "load", "(III)Z"⟩
abbrev m_K_load : kMT := ("PagerKernel", prog_1_method_4_code, 4, some .boolean)
abbrev y_K_offer : MethodName := ⟨"PagerKernel", "offer", "(IIIZ)Z"⟩
abbrev m_K_offer : kMT := ("PagerKernel", prog_1_method_5_code, 6, some .boolean)
abbrev y_K_window : MethodName := ⟨"PagerKernel", "window", "(II)Z"⟩
abbrev m_K_window : kMT := ("PagerKernel", prog_1_method_6_code, 3, some .boolean)
abbrev y_K_send : MethodName := ⟨"PagerKernel", "send", "(III)I"⟩
abbrev m_K_send : kMT := ("PagerKernel", prog_1_method_7_code, 4, some .int)
abbrev y_K_call : MethodName := ⟨"PagerKernel", "call", "(III)I"⟩
abbrev m_K_call : kMT := ("PagerKernel", prog_1_method_8_code, 4, some .int)
abbrev y_K_receive : MethodName := ⟨"PagerKernel", "receive", "(III)I"⟩
abbrev m_K_receive : kMT := ("PagerKernel", prog_1_method_9_code, 6, some .int)
abbrev y_K_access : MethodName := ⟨"PagerKernel", "access", "(IIZI)I"⟩
abbrev m_K_access : kMT := ("PagerKernel", prog_1_method_10_code, 6, some .int)
abbrev y_K_unmap : MethodName := ⟨"PagerKernel", "unmap", "(IIIZ)I"⟩
abbrev m_K_unmap : kMT := ("PagerKernel", prog_1_method_11_code, 7, some .int)
abbrev y_K_tick : MethodName := ⟨"PagerKernel", "tick", "()I"⟩
abbrev m_K_tick : kMT := ("PagerKernel", prog_1_method_12_code, 6, some .int)
abbrev y_K_state : MethodName := ⟨"PagerKernel", "state", "(I)I"⟩
abbrev m_K_state : kMT := ("PagerKernel", prog_1_method_13_code, 2, some .int)
abbrev y_K_register : MethodName := ⟨"PagerKernel", "register", "(II)I"⟩
abbrev m_K_register : kMT := ("PagerKernel", prog_1_method_14_code, 3, some .int)
abbrev y_K_outcome : MethodName := ⟨"PagerKernel", "outcome", "(I)I"⟩
abbrev m_K_outcome : kMT := ("PagerKernel", prog_1_method_15_code, 2, some .int)
abbrev y_K_value : MethodName := ⟨"PagerKernel", "value", "(I)I"⟩
abbrev m_K_value : kMT := ("PagerKernel", prog_1_method_16_code, 2, some .int)
abbrev y_K_sender : MethodName := ⟨"PagerKernel", "sender", "(I)I"⟩
abbrev m_K_sender : kMT := ("PagerKernel", prog_1_method_17_code, 2, some .int)
abbrev y_K_mapping : MethodName := ⟨"PagerKernel", "mapping", "(II)I"⟩
abbrev m_K_mapping : kMT := ("PagerKernel", prog_1_method_18_code, 3, some .int)
abbrev y_K_heirs : MethodName := ⟨"PagerKernel", "heirs", "(II)I"⟩
abbrev m_K_heirs : kMT := ("PagerKernel", prog_1_method_19_code, 3, some .int)
abbrev y_K_waiting : MethodName := ⟨"PagerKernel", "waiting", "(I)I"⟩
abbrev m_K_waiting : kMT := ("PagerKernel", prog_1_method_20_code, 7, some .int)
abbrev y_K_word : MethodName := ⟨"PagerKernel", "word", "(I)I"⟩
abbrev m_K_word : kMT := ("PagerKernel", prog_1_method_21_code, 2, some .int)
abbrev y_K_isThread : MethodName := ⟨"PagerKernel", "isThread", "(I)Z"⟩
abbrev m_K_isThread : kMT := ("PagerKernel", prog_1_method_22_code, 2, some .boolean)
abbrev y_K_isRunning : MethodName := ⟨"PagerKernel", "isRunning", "(I)Z"⟩
abbrev m_K_isRunning : kMT := ("PagerKernel", prog_1_method_23_code, 2, some .boolean)
abbrev y_K_maySend : MethodName := ⟨"PagerKernel", "maySend", "(III)Z"⟩
abbrev m_K_maySend : kMT := ("PagerKernel", prog_1_method_24_code, 4, some .boolean)
abbrev y_K_isSpace : MethodName := ⟨"PagerKernel", "isSpace", "(I)Z"⟩
abbrev m_K_isSpace : kMT := ("PagerKernel", prog_1_method_25_code, 1, some .boolean)
abbrev y_K_isPage : MethodName := ⟨"PagerKernel", "isPage", "(I)Z"⟩
abbrev m_K_isPage : kMT := ("PagerKernel", prog_1_method_26_code, 1, some .boolean)
abbrev y_K_isPageOrNone : MethodName := ⟨"PagerKernel", "isPageOrNone", "(I)Z"⟩
abbrev m_K_isPageOrNone : kMT := ("PagerKernel", prog_1_method_27_code, 1, some .boolean)
abbrev y_K_isLevel : MethodName := ⟨"PagerKernel", "isLevel", "(I)Z"⟩
abbrev m_K_isLevel : kMT := ("PagerKernel", prog_1_method_28_code, 1, some .boolean)
abbrev y_K_isLimit : MethodName := ⟨"PagerKernel", "isLimit", "(I)Z"⟩
abbrev m_K_isLimit : kMT := ("PagerKernel", prog_1_method_29_code, 1, some .boolean)
abbrev y_K_slotOf : MethodName := ⟨"PagerKernel", "slotOf", "(II)I"⟩
abbrev m_K_slotOf : kMT := ("PagerKernel", prog_1_method_30_code, 2, some .int)
abbrev y_K_deadline : MethodName := ⟨"PagerKernel", "deadline", "(I)I"⟩
abbrev m_K_deadline : kMT := ("PagerKernel", prog_1_method_31_code, 2, some .int)
abbrev y_K_leastFreeNumber : MethodName := ⟨"PagerKernel", "leastFreeNumber", "()I"⟩
abbrev m_K_leastFreeNumber : kMT := ("PagerKernel", prog_1_method_32_code, 2, some .int)
abbrev y_K_longestWaiting : MethodName := ⟨"PagerKernel", "longestWaiting", "(II)LPagerKernel$KernelThread;"⟩
abbrev m_K_longestWaiting : kMT := ("PagerKernel", prog_1_method_33_code, 9, some (.object "PagerKernel$KernelThread"))
abbrev y_K_waitToSend : MethodName := ⟨"PagerKernel", "waitToSend", "(LPagerKernel$KernelThread;III)I"⟩
abbrev m_K_waitToSend : kMT := ("PagerKernel", prog_1_method_34_code, 5, some .int)
abbrev y_K_giveUp : MethodName := ⟨"PagerKernel", "giveUp", "(LPagerKernel$KernelThread;)I"⟩
abbrev m_K_giveUp : kMT := ("PagerKernel", prog_1_method_35_code, 1, some .int)
abbrev y_K_joinLine : MethodName := ⟨"PagerKernel", "joinLine", "(LPagerKernel$KernelThread;III)V"⟩
abbrev m_K_joinLine : kMT := ("PagerKernel", prog_1_method_36_code, 5, none)
abbrev y_K_takeWaitingMessage : MethodName := ⟨"PagerKernel", "takeWaitingMessage", "(LPagerKernel$KernelThread;LPagerKernel$KernelThread;)V"⟩
abbrev m_K_takeWaitingMessage : kMT := ("PagerKernel", prog_1_method_37_code, 3, none)
abbrev y_K_passMessage : MethodName := ⟨"PagerKernel", "passMessage", "(LPagerKernel$KernelThread;LPagerKernel$KernelThread;Z)V"⟩
abbrev m_K_passMessage : kMT := ("PagerKernel", prog_1_method_38_code, 6, none)
abbrev y_K_passOffer : MethodName := ⟨"PagerKernel", "passOffer", "(LPagerKernel$KernelThread;LPagerKernel$KernelThread;)V"⟩
abbrev m_K_passOffer : kMT := ("PagerKernel", prog_1_method_39_code, 5, none)
abbrev y_K_passFault : MethodName := ⟨"PagerKernel", "passFault", "(LPagerKernel$KernelThread;LPagerKernel$KernelThread;)V"⟩
abbrev m_K_passFault : kMT := ("PagerKernel", prog_1_method_40_code, 3, none)
abbrev y_K_tryAccess : MethodName := ⟨"PagerKernel", "tryAccess", "(LPagerKernel$KernelThread;)V"⟩
abbrev m_K_tryAccess : kMT := ("PagerKernel", prog_1_method_41_code, 3, none)
abbrev y_K_doAccess : MethodName := ⟨"PagerKernel", "doAccess", "(LPagerKernel$KernelThread;I)V"⟩
abbrev m_K_doAccess : kMT := ("PagerKernel", prog_1_method_42_code, 3, none)
abbrev y_K_fault : MethodName := ⟨"PagerKernel", "fault", "(LPagerKernel$KernelThread;LPagerKernel$KernelThread;)V"⟩
abbrev m_K_fault : kMT := ("PagerKernel", prog_1_method_43_code, 3, none)
abbrev y_P_init : MethodName := ⟨"PagerKernel$MappingTree", "<init>", "()V"⟩
abbrev m_P_init : kMT := ("PagerKernel$MappingTree", prog_3_method_1_code, 2, none)
abbrev y_P_holds : MethodName := ⟨"PagerKernel$MappingTree", "holds", "(I)Z"⟩
abbrev m_P_holds : kMT := ("PagerKernel$MappingTree", prog_3_method_2_code, 2, some .boolean)
abbrev y_P_describe : MethodName := ⟨"PagerKernel$MappingTree", "describe", "(I)I"⟩
abbrev m_P_describe : kMT := ("PagerKernel$MappingTree", prog_3_method_3_code, 2, some .int)
abbrev y_P_descends : MethodName := ⟨"PagerKernel$MappingTree", "descends", "(II)Z"⟩
abbrev m_P_descends : kMT := ("PagerKernel$MappingTree", prog_3_method_4_code, 5, some .boolean)
abbrev y_P_countDescendants : MethodName := ⟨"PagerKernel$MappingTree", "countDescendants", "(I)I"⟩
abbrev m_P_countDescendants : kMT := ("PagerKernel$MappingTree", prog_3_method_5_code, 4, some .int)
abbrev y_P_lowerDescendants : MethodName := ⟨"PagerKernel$MappingTree", "lowerDescendants", "(II)I"⟩
abbrev m_P_lowerDescendants : kMT := ("PagerKernel$MappingTree", prog_3_method_6_code, 5, some .int)
abbrev y_P_lower : MethodName := ⟨"PagerKernel$MappingTree", "lower", "(II)I"⟩
abbrev m_P_lower : kMT := ("PagerKernel$MappingTree", prog_3_method_7_code, 3, some .int)
abbrev y_P_handOn : MethodName := ⟨"PagerKernel$MappingTree", "handOn", "(IIIZ)V"⟩
abbrev m_P_handOn : kMT := ("PagerKernel$MappingTree", prog_3_method_8_code, 5, none)
abbrev y_P_move : MethodName := ⟨"PagerKernel$MappingTree", "move", "(II)V"⟩
abbrev m_P_move : kMT := ("PagerKernel$MappingTree", prog_3_method_9_code, 4, none)
abbrev y_P_derive : MethodName := ⟨"PagerKernel$MappingTree", "derive", "(III)V"⟩
abbrev m_P_derive : kMT := ("PagerKernel$MappingTree", prog_3_method_10_code, 4, none)
abbrev y_H_init : MethodName := ⟨"PagerKernel$KernelThread", "<init>", "(I)V"⟩
abbrev m_H_init : kMT := ("PagerKernel$KernelThread", prog_2_method_1_code, 2, none)
abbrev y_H_begin : MethodName := ⟨"PagerKernel$KernelThread", "begin", "(II)V"⟩
abbrev m_H_begin : kMT := ("PagerKernel$KernelThread", prog_2_method_2_code, 4, none)
abbrev y_H_run : MethodName := ⟨"PagerKernel$KernelThread", "run", "(I)V"⟩
abbrev m_H_run : kMT := ("PagerKernel$KernelThread", prog_2_method_3_code, 2, none)
abbrev y_H_waitFor : MethodName := ⟨"PagerKernel$KernelThread", "waitFor", "(III)V"⟩
abbrev m_H_waitFor : kMT := ("PagerKernel$KernelThread", prog_2_method_4_code, 4, none)
abbrev y_H_take : MethodName := ⟨"PagerKernel$KernelThread", "take", "(IIIII)V"⟩
abbrev m_H_take : kMT := ("PagerKernel$KernelThread", prog_2_method_5_code, 6, none)
abbrev y_H_outlive : MethodName := ⟨"PagerKernel$KernelThread", "outlive", "(I)V"⟩
abbrev m_H_outlive : kMT := ("PagerKernel$KernelThread", prog_2_method_6_code, 2, none)
abbrev y_H_waitsForThread : MethodName := ⟨"PagerKernel$KernelThread", "waitsForThread", "()Z"⟩
abbrev m_H_waitsForThread : kMT := ("PagerKernel$KernelThread", prog_2_method_7_code, 1, some .boolean)
abbrev y_H_waitsToSendTo : MethodName := ⟨"PagerKernel$KernelThread", "waitsToSendTo", "(I)Z"⟩
abbrev m_H_waitsToSendTo : kMT := ("PagerKernel$KernelThread", prog_2_method_8_code, 2, some .boolean)
abbrev y_H_receivesFrom : MethodName := ⟨"PagerKernel$KernelThread", "receivesFrom", "(I)Z"⟩
abbrev m_H_receivesFrom : kMT := ("PagerKernel$KernelThread", prog_2_method_9_code, 2, some .boolean)
abbrev y_H_takesFrom : MethodName := ⟨"PagerKernel$KernelThread", "takesFrom", "(I)Z"⟩
abbrev m_H_takesFrom : kMT := ("PagerKernel$KernelThread", prog_2_method_10_code, 2, some .boolean)
abbrev y_R_init : MethodName := ⟨"PagerKernelModel", "<init>", "()V"⟩
abbrev m_R_init : kMT := ("PagerKernelModel", prog_5_method_1_code, 2, none)
abbrev y_R_begin : MethodName := ⟨"PagerKernelModel", "begin", "(III)V"⟩
abbrev m_R_begin : kMT := ("PagerKernelModel", prog_5_method_2_code, 5, none)
abbrev y_R_thread : MethodName := ⟨"PagerKernelModel", "thread", "(I)Z"⟩
abbrev m_R_thread : kMT := ("PagerKernelModel", prog_5_method_3_code, 2, some .boolean)
abbrev y_R_running : MethodName := ⟨"PagerKernelModel", "running", "(I)Z"⟩
abbrev m_R_running : kMT := ("PagerKernelModel", prog_5_method_4_code, 2, some .boolean)
abbrev y_R_run : MethodName := ⟨"PagerKernelModel", "run", "(II)V"⟩
abbrev m_R_run : kMT := ("PagerKernelModel", prog_5_method_5_code, 3, none)
abbrev y_R_linger : MethodName := ⟨"PagerKernelModel", "linger", "(IIII)V"⟩
abbrev m_R_linger : kMT := ("PagerKernelModel", prog_5_method_6_code, 5, none)
abbrev y_R_spawn : MethodName := ⟨"PagerKernelModel", "spawn", "(II)I"⟩
abbrev m_R_spawn : kMT := ("PagerKernelModel", prog_5_method_7_code, 5, some .int)
abbrev y_R_delete : MethodName := ⟨"PagerKernelModel", "delete", "(I)Z"⟩
abbrev m_R_delete : kMT := ("PagerKernelModel", prog_5_method_8_code, 4, some .boolean)
abbrev y_R_load : MethodName := ⟨"PagerKernelModel", "load", "(III)Z"⟩
abbrev m_R_load : kMT := ("PagerKernelModel", prog_5_method_9_code, 4, some .boolean)
abbrev y_R_offer : MethodName := ⟨"PagerKernelModel", "offer", "(IIIZ)Z"⟩
abbrev m_R_offer : kMT := ("PagerKernelModel", prog_5_method_10_code, 5, some .boolean)
abbrev y_R_window : MethodName := ⟨"PagerKernelModel", "window", "(II)Z"⟩
abbrev m_R_window : kMT := ("PagerKernelModel", prog_5_method_11_code, 3, some .boolean)
abbrev y_R_descends : MethodName := ⟨"PagerKernelModel", "descends", "(II)Z"⟩
abbrev m_R_descends : kMT := ("PagerKernelModel", prog_5_method_12_code, 5, some .boolean)
abbrev y_R_descendants : MethodName := ⟨"PagerKernelModel", "descendants", "(I)I"⟩
abbrev m_R_descendants : kMT := ("PagerKernelModel", prog_5_method_13_code, 4, some .int)
abbrev y_R_removeBelow : MethodName := ⟨"PagerKernelModel", "removeBelow", "(I)I"⟩
abbrev m_R_removeBelow : kMT := ("PagerKernelModel", prog_5_method_14_code, 5, some .int)
abbrev y_R_handOn : MethodName := ⟨"PagerKernelModel", "handOn", "(III)V"⟩
abbrev m_R_handOn : kMT := ("PagerKernelModel", prog_5_method_15_code, 4, none)
abbrev y_R_move : MethodName := ⟨"PagerKernelModel", "move", "(II)V"⟩
abbrev m_R_move : kMT := ("PagerKernelModel", prog_5_method_16_code, 4, none)
abbrev y_R_take : MethodName := ⟨"PagerKernelModel", "take", "(IIIIII)V"⟩
abbrev m_R_take : kMT := ("PagerKernelModel", prog_5_method_17_code, 7, none)
abbrev y_R_message : MethodName := ⟨"PagerKernelModel", "message", "(IIZ)V"⟩
abbrev m_R_message : kMT := ("PagerKernelModel", prog_5_method_18_code, 6, none)
abbrev y_R_report : MethodName := ⟨"PagerKernelModel", "report", "(I)V"⟩
abbrev m_R_report : kMT := ("PagerKernelModel", prog_5_method_19_code, 3, none)
abbrev y_R_attempt : MethodName := ⟨"PagerKernelModel", "attempt", "(I)V"⟩
abbrev m_R_attempt : kMT := ("PagerKernelModel", prog_5_method_20_code, 4, none)
abbrev y_R_takes : MethodName := ⟨"PagerKernelModel", "takes", "(II)Z"⟩
abbrev m_R_takes : kMT := ("PagerKernelModel", prog_5_method_21_code, 3, some .boolean)
abbrev y_R_speak : MethodName := ⟨"PagerKernelModel", "speak", "(IIIZ)I"⟩
abbrev m_R_speak : kMT := ("PagerKernelModel", prog_5_method_22_code, 5, some .int)
abbrev y_R_send : MethodName := ⟨"PagerKernelModel", "send", "(III)I"⟩
abbrev m_R_send : kMT := ("PagerKernelModel", prog_5_method_23_code, 4, some .int)
abbrev y_R_call : MethodName := ⟨"PagerKernelModel", "call", "(III)I"⟩
abbrev m_R_call : kMT := ("PagerKernelModel", prog_5_method_24_code, 4, some .int)
abbrev y_R_waitsFor : MethodName := ⟨"PagerKernelModel", "waitsFor", "(II)Z"⟩
abbrev m_R_waitsFor : kMT := ("PagerKernelModel", prog_5_method_25_code, 3, some .boolean)
abbrev y_R_receive : MethodName := ⟨"PagerKernelModel", "receive", "(III)I"⟩
abbrev m_R_receive : kMT := ("PagerKernelModel", prog_5_method_26_code, 6, some .int)
abbrev y_R_access : MethodName := ⟨"PagerKernelModel", "access", "(IIZI)I"⟩
abbrev m_R_access : kMT := ("PagerKernelModel", prog_5_method_27_code, 5, some .int)
abbrev y_R_unmap : MethodName := ⟨"PagerKernelModel", "unmap", "(IIIZ)I"⟩
abbrev m_R_unmap : kMT := ("PagerKernelModel", prog_5_method_28_code, 8, some .int)
abbrev y_R_tick : MethodName := ⟨"PagerKernelModel", "tick", "()I"⟩
abbrev m_R_tick : kMT := ("PagerKernelModel", prog_5_method_29_code, 4, some .int)
abbrev y_R_state : MethodName := ⟨"PagerKernelModel", "state", "(I)I"⟩
abbrev m_R_state : kMT := ("PagerKernelModel", prog_5_method_30_code, 2, some .int)
abbrev y_R_register : MethodName := ⟨"PagerKernelModel", "register", "(II)I"⟩
abbrev m_R_register : kMT := ("PagerKernelModel", prog_5_method_31_code, 3, some .int)
abbrev y_R_outcome : MethodName := ⟨"PagerKernelModel", "outcome", "(I)I"⟩
abbrev m_R_outcome : kMT := ("PagerKernelModel", prog_5_method_32_code, 2, some .int)
abbrev y_R_value : MethodName := ⟨"PagerKernelModel", "value", "(I)I"⟩
abbrev m_R_value : kMT := ("PagerKernelModel", prog_5_method_33_code, 2, some .int)
abbrev y_R_sender : MethodName := ⟨"PagerKernelModel", "sender", "(I)I"⟩
abbrev m_R_sender : kMT := ("PagerKernelModel", prog_5_method_34_code, 2, some .int)
abbrev y_R_place : MethodName := ⟨"PagerKernelModel", "place", "(II)I"⟩
abbrev m_R_place : kMT := ("PagerKernelModel", prog_5_method_35_code, 3, some .int)
abbrev y_R_mapping : MethodName := ⟨"PagerKernelModel", "mapping", "(II)I"⟩
abbrev m_R_mapping : kMT := ("PagerKernelModel", prog_5_method_36_code, 4, some .int)
abbrev y_R_heirs : MethodName := ⟨"PagerKernelModel", "heirs", "(II)I"⟩
abbrev m_R_heirs : kMT := ("PagerKernelModel", prog_5_method_37_code, 4, some .int)
abbrev y_R_waiting : MethodName := ⟨"PagerKernelModel", "waiting", "(I)I"⟩
abbrev m_R_waiting : kMT := ("PagerKernelModel", prog_5_method_38_code, 4, some .int)
abbrev y_R_word : MethodName := ⟨"PagerKernelModel", "word", "(I)I"⟩
abbrev m_R_word : kMT := ("PagerKernelModel", prog_5_method_39_code, 2, some .int)
end
section
section KAT
/-- a value whose references are numbers of cells, at the addresses ad -/
def cv (ad : Nat → Nat) : Value → Value
  | .ref k => .ref (ad k)
  | v => v
theorem cv_cat (ad : Nat → Nat) (v : Value) : (cv ad v).category = v.category := by cases v <;> rfl
/-- a world: launch, tables, array classes, addresses, what the heap holds, which addresses may change -/
abbrev kW (X : Type) : Type := Launch × va_G × List (ClassId × FieldType) × (Nat → Nat) × (X → Heap → Prop) × (Nat → Prop)
abbrev kwL {X : Type} (w : kW X) : Launch := w.1
abbrev kwD {X : Type} (w : kW X) : va_G := w.2.1
abbrev kwT {X : Type} (w : kW X) : List (ClassId × FieldType) := w.2.2.1
abbrev kwA {X : Type} (w : kW X) : Nat → Nat := w.2.2.2.1
abbrev kwB {X : Type} (w : kW X) : X → Heap → Prop := w.2.2.2.2.1
abbrev kwF {X : Type} (w : kW X) : Nat → Prop := w.2.2.2.2.2
/-- the locals: what is known of them -/
def kLo (ad : Nat → Nat) (ls : Array Slot) (nL : Nat) (L : List (Option Value)) : Prop := ls.size = nL ∧ lv_wf ls ∧ ∀ (i : Nat) (v : Value), L[i]? = some (some v) → ls[i]? = some (.val (cv ad v)) ∧ v.category = 1
def kLp (ad : Nat → Nat) : Nat → List (Option Value) → List (Nat × Value)
  | _, [] => []
  | i, none :: L => kLp ad (i + 1) L
  | i, some v :: L => (i, cv ad v) :: kLp ad (i + 1) L
theorem kLp_mem {ad : Nat → Nat} : ∀ (L : List (Option Value)) (i : Nat) (q : Nat × Value), q ∈ kLp ad i L → ∃ (j : Nat) (v : Value), L[j]? = some (some v) ∧ q = (i + j, cv ad v)
  | [], i, q, h => by simp [kLp] at h
  | none :: L, i, q, h => by
    obtain ⟨j, v, h1, h2⟩ := kLp_mem L (i + 1) q h
    exact ⟨j + 1, v, by simpa using h1, by rw [h2, Nat.add_assoc, Nat.add_comm 1 j]⟩
  | some v :: L, i, q, h => by
    rcases List.mem_cons.mp h with h | h
    · exact ⟨0, v, rfl, h⟩
    · obtain ⟨j, v, h1, h2⟩ := kLp_mem L (i + 1) q h
      exact ⟨j + 1, v, by simpa using h1, by rw [h2, Nat.add_assoc, Nat.add_comm 1 j]⟩
theorem kLp_at {ad : Nat → Nat} : ∀ (L : List (Option Value)) (i j : Nat) (v : Value), L[j]? = some (some v) → (i + j, cv ad v) ∈ kLp ad i L
  | [], i, j, v, h => by simp at h
  | none :: L, i, 0, v, h => by simp at h
  | none :: L, i, j + 1, v, h => by
    have h1 := kLp_at (ad := ad) L (i + 1) j v (by simpa using h)
    rw [Nat.add_assoc, Nat.add_comm 1 j] at h1
    exact h1
  | some u :: L, i, 0, v, h => by
    have h1 : u = v := by simpa using h
    subst h1
    exact List.mem_cons_self
  | some u :: L, i, j + 1, v, h => by
    have h1 := kLp_at (ad := ad) L (i + 1) j v (by simpa using h)
    rw [Nat.add_assoc, Nat.add_comm 1 j] at h1
    exact List.mem_cons_of_mem _ h1
theorem kLo.has {ad : Nat → Nat} {ls : Array Slot} {nL : Nat} {L : List (Option Value)} (h : kLo ad ls nL L) : lv_has ls nL (kLp ad 0 L) := by
  refine ⟨h.1, h.2.1, fun q hq => ?_⟩
  obtain ⟨j, v, h1, rfl⟩ := kLp_mem L 0 q hq
  rw [Nat.zero_add]
  exact (h.2.2 j v h1).1
theorem kLo.set {ad : Nat → Nat} {ls ls' : Array Slot} {nL i : Nat} {L : List (Option Value)} {v : Value} (h : kLo ad ls nL L) (hv : v.category = 1)
    (h' : lv_has ls' nL ((i, cv ad v) :: (kLp ad 0 L).filter (fun q => !(q.1 == i) && !(q.1 + 1 == i && q.2.category == 2)))) : kLo ad ls' nL (L.set i (some v)) := by
  refine ⟨h'.1, h'.2.1, fun j u hj => ?_⟩
  by_cases hij : j = i
  · subst hij
    have hlt : j < L.length := by
      have := (List.getElem?_eq_some_iff.mp hj).1
      simpa using this
    rw [List.getElem?_set_self hlt] at hj
    cases hj
    exact ⟨h'.2.2 _ List.mem_cons_self, hv⟩
  · rw [List.getElem?_set_ne (Ne.symm hij)] at hj
    have hm := kLp_at (ad := ad) L 0 j u hj
    rw [Nat.zero_add] at hm
    have hc := (h.2.2 j u hj).2
    refine ⟨h'.2.2 (j, cv ad u) (List.mem_cons_of_mem _ (List.mem_filter.mpr ⟨hm, ?_⟩)), hc⟩
    simp [hij, cv_cat, hc]
theorem kSl : ∀ (vs : List Value), (∀ v ∈ vs, v.category = 1) → lg_sl vs = vs.map Slot.val
  | [], _ => rfl
  | v :: vs, h => by
    have h1 : v.category = 1 := h v List.mem_cons_self
    have h2 := kSl vs (fun u hu => h u (List.mem_cons_of_mem _ hu))
    unfold lg_sl at h2 ⊢
    rw [List.flatMap_cons, h2]
    simp [h1]
theorem kArgs : ∀ (vs : List Value) (i j : Nat) (v : Value), (∀ u ∈ vs, u.category = 1) → vs[j]? = some v → (i + j, v) ∈ lv_args i vs
  | [], i, j, v, _, h => by simp at h
  | u :: vs, i, 0, v, _, h => by
    have h1 : u = v := by simpa using h
    subst h1
    exact List.mem_cons_self
  | u :: vs, i, j + 1, v, hc, h => by
    have h0 : u.category = 1 := hc u List.mem_cons_self
    have h1 := kArgs vs (i + 1) j v (fun z hz => hc z (List.mem_cons_of_mem _ hz)) (by simpa using h)
    rw [Nat.add_assoc, Nat.add_comm 1 j] at h1
    unfold lv_args
    rw [if_neg (by rw [h0]; decide)]
    exact List.mem_cons_of_mem _ h1
theorem kLo.entry {ad : Nat → Nat} {as : List Value} {nL : Nat} (hle : as.length ≤ nL) (hcat : ∀ v ∈ as, v.category = 1) :
    kLo ad ((lg_sl (as.map (cv ad)) ++ List.replicate (nL - (lg_sl (as.map (cv ad))).length) Slot.unset).toArray) nL (as.map some ++ List.replicate (nL - as.length) none) := by
  have hc2 : ∀ v ∈ as.map (cv ad), v.category = 1 := by
    intro v hv
    obtain ⟨u, hu, rfl⟩ := List.mem_map.mp hv
    rw [cv_cat]
    exact hcat u hu
  have hs : (lg_sl (as.map (cv ad))).length ≤ nL := by rw [kSl _ hc2]; simpa using hle
  have hl := lv_entry (as.map (cv ad)) hs
  refine ⟨hl.1, hl.2.1, fun i v hi => ?_⟩
  have hi2 : as[i]? = some v := by
    by_cases hlt : i < as.length
    · rw [List.getElem?_append_left (by simpa using hlt), List.getElem?_map] at hi
      cases ha : as[i]? with
      | none => rw [ha] at hi; cases hi
      | some u => rw [ha] at hi; simpa using hi
    · rw [List.getElem?_append_right (by simpa using Nat.le_of_not_lt hlt)] at hi
      have := List.mem_of_getElem? hi
      rw [List.mem_replicate] at this
      cases this.2
  have hm := kArgs (as.map (cv ad)) 0 i (cv ad v) hc2 (by rw [List.getElem?_map, hi2]; rfl)
  rw [Nat.zero_add] at hm
  exact ⟨hl.2.2 _ hm, hcat v (List.mem_of_getElem? hi2)⟩
/-- the tables, at a world -/
def kK {X : Type} (w : kW X) (U : State) : Prop := va_K (kwD w) kCl (kwT w) U
theorem kK.moved {X : Type} {w : kW X} {u U : State} (h : u.vm.Alike U.vm) (hK : kK w u) : kK w U := va_K.moved h hK
def kOk {X : Type} (w : kW X) (mt : kMT) (d : Nat) (p : Program) (R : Room) (s : State) (m : MethodId) (args : Array Value) (meth : Method) (c : Code) (cells slots : Nat) (A : Nat → Prop) : Prop :=
  CallFix p m c mt.2.1 mt.2.2.1 s args kWS mt.1 ∧ meth.sig.returnType = mt.2.2.2 ∧ meth.locks = false ∧ kK w s ∧ (d ≤ R.frames ∧ 32 * d ≤ R.locals) ∧ (cells ≤ R.cells ∧ slots ≤ R.slots) ∧ ∀ q, kwF w q → A q
/-- a method's end: its answer, and what the heap holds then -/
def kQ {X : Type} (w : kW X) (A : Nat → Prop) (r : Option Value) (x' : X) : Array Value → State → Outcome → State → Prop := fun _ st oc t =>
  oc = .returned (r.map (cv (kwA w))) ∧ kwB w x' t.heap ∧ kK w t ∧ va_F A st t
/-- from here the method answers r, and the world is x' then -/
def KAt {X : Type} (w : kW X) (mt : kMT) (d pc : Nat) (L : List (Option Value)) (S : List Value) (x : X) (r : Option Value) (x' : X) : Prop :=
  ∀ (p : Program) (e : Env) (R : Room) (s : State) (m : MethodId) (args : Array Value) (below : List Frame) (meth : Method) (c : Code) (H : Heap) (locs : List Loc) (cells slots : Nat) (ls : Array Slot) (A : Nat → Prop),
    kOk w mt d p R s m args meth c cells slots A → kwB w x H → va_S A s.heap H locs → kLo (kwA w) ls mt.2.2.1 L →
    W p (kwL w) e R s m args below meth c H locs cells slots (MQ below (kQ w A r x') args s cells slots A) (F0 m pc ls (S.map (cv (kwA w))))
def kRm (d : Nat) : Room := { frames := d, cells := 0, slots := 0, locals := 32 * d }
/-- a method's contract -/
def KSp {X : Type} (w : kW X) (y : MethodName) (mt : kMT) (d : Nat) (as : List Value) (x : X) (r : Option Value) (x' : X) : Prop :=
  Met (kwL w) y (Cond.code y mt.2.1 mt.2.2.1 mt.2.2.2 :: kWS) (kRm d) (va_Pc (as.map (cv (kwA w))) (fun U => kwB w x U.heap ∧ kK w U)) (kQ w (kwF w) r x') 0 0 (kwF w)
theorem KSp.of {X : Type} {w : kW X} {y : MethodName} {mt : kMT} {d : Nat} {as : List Value} {x x' : X} {r : Option Value} (hy : plainName y.cls = true) (hyc : y.cls = mt.1) (hle : as.length ≤ mt.2.2.1) (hcat : as.all (fun v => v.category == 1) = true)
    (h : KAt w mt d 0 (as.map some ++ List.replicate (mt.2.2.1 - as.length) none) [] x r x') : KSp w y mt d as x r x' := by
  refine Met.ofW (cc := mt.2.1) (maxL := mt.2.2.1) (ret := mt.2.2.2) hy rfl ?_
  intro p e s m args below meth c s₁ B hml hv
  obtain ⟨rfl, hB, hK⟩ := hv
  have hts := atoms_spec (ws := Cond.code y mt.2.1 mt.2.2.1 mt.2.2.2 :: kWS) B.pre
  rw [lg_entry_eq]
  exact h p e _ s m _ below meth c _ _ _ _ _ (kwF w) ⟨⟨B.exec, B.bytes, hml, by rw [← hyc]; exact findClass_of_methodNamed B.named, fun q hq => hts q (List.mem_cons_of_mem _ hq)⟩, B.returns, B.notSynchronized, hK, ⟨Nat.le_refl _, Nat.le_refl _⟩, ⟨Nat.zero_le _, Nat.zero_le _⟩, fun _ h => h⟩ hB va_S.rf (kLo.entry hle (fun v hv => by simpa using (List.all_eq_true.mp hcat) v hv))
/-- an instruction, and the place of the next; a jump's instruction, the place of the next, and where it goes -/
def kI (mt : kMT) (pc : Nat) (i : Instr) (n q : Nat) : Prop := decode mt.2.1 pc = .ok (i, n) ∧ pc + n = q
def kJ (mt : kMT) (pc : Nat) (i : Instr) (off : Int) (q t : Nat) : Prop := decode mt.2.1 pc = .ok (i, 3) ∧ pc + 3 = q ∧ (pc : Int) + off = (t : Int)
end KAT
end
section
section KRU
variable {X : Type} {w : kW X} {mt : kMT} {d pc q t : Nat} {L : List (Option Value)} {S : List Value} {x x' : X} {r : Option Value}
theorem k_iconst {n : Int} {v : Int32} (hd : kI mt pc (.iconst n) 1 q) (hv : Int32.ofInt n = v) (k : KAt w mt d q L (.int v :: S) x r x') : KAt w mt d pc L S x r x' := by
  intro p e R s m args below meth c H locs cells slots ls A h hB hS hl
  exact lv_iconst h.1.1 h.1.2.1 hd.1 hv (by rw [hd.2]; exact k _ _ _ _ _ _ _ _ _ _ _ _ _ _ _ h hB hS hl)
theorem k_bipush {n : Int} {v : Int32} (hd : kI mt pc (.bipush n) 2 q) (hv : (Int8.ofInt n).toInt32 = v) (k : KAt w mt d q L (.int v :: S) x r x') : KAt w mt d pc L S x r x' := by
  intro p e R s m args below meth c H locs cells slots ls A h hB hS hl
  exact lv_bipush h.1.1 h.1.2.1 hd.1 hv (by rw [hd.2]; exact k _ _ _ _ _ _ _ _ _ _ _ _ _ _ _ h hB hS hl)
theorem k_sipush {n : Int} {v : Int32} (hd : kI mt pc (.sipush n) 3 q) (hv : (Int16.ofInt n).toInt32 = v) (k : KAt w mt d q L (.int v :: S) x r x') : KAt w mt d pc L S x r x' := by
  intro p e R s m args below meth c H locs cells slots ls A h hB hS hl
  exact lv_sipush h.1.1 h.1.2.1 hd.1 hv (by rw [hd.2]; exact k _ _ _ _ _ _ _ _ _ _ _ _ _ _ _ h hB hS hl)
theorem k_null (hd : kI mt pc .aconst_null 1 q) (k : KAt w mt d q L (.null :: S) x r x') : KAt w mt d pc L S x r x' := by
  intro p e R s m args below meth c H locs cells slots ls A h hB hS hl
  exact lv_null h.1.1 h.1.2.1 hd.1 (by rw [hd.2]; exact k _ _ _ _ _ _ _ _ _ _ _ _ _ _ _ h hB hS hl)
theorem k_iload_n {k : Fin 4} {v : Int32} (hd : kI mt pc (.iload_n k) 1 q) (hl : L[(k : Nat)]? = some (some (.int v))) (kk : KAt w mt d q L (.int v :: S) x r x') : KAt w mt d pc L S x r x' := by
  intro p e R s m args below meth c H locs cells slots ls A h hB hS hlo
  exact lv_iload_n h.1.1 h.1.2.1 hd.1 rfl (hlo.2.2 _ _ hl).1 (by rw [hd.2]; exact kk _ _ _ _ _ _ _ _ _ _ _ _ _ _ _ h hB hS hlo)
theorem k_iload {i : Nat} {v : Int32} (hd : kI mt pc (.iload i) 2 q) (hl : L[i]? = some (some (.int v))) (kk : KAt w mt d q L (.int v :: S) x r x') : KAt w mt d pc L S x r x' := by
  intro p e R s m args below meth c H locs cells slots ls A h hB hS hlo
  exact lv_iload h.1.1 h.1.2.1 hd.1 (hlo.2.2 _ _ hl).1 (by rw [hd.2]; exact kk _ _ _ _ _ _ _ _ _ _ _ _ _ _ _ h hB hS hlo)
theorem k_aload_n {k : Fin 4} {v : Nat} (hd : kI mt pc (.aload_n k) 1 q) (hl : L[(k : Nat)]? = some (some (.ref v))) (kk : KAt w mt d q L (.ref v :: S) x r x') : KAt w mt d pc L S x r x' := by
  intro p e R s m args below meth c H locs cells slots ls A h hB hS hlo
  exact lv_aload_n h.1.1 h.1.2.1 hd.1 rfl (hlo.2.2 _ _ hl).1 (by rw [hd.2]; exact kk _ _ _ _ _ _ _ _ _ _ _ _ _ _ _ h hB hS hlo)
theorem k_aload {i : Nat} {v : Nat} (hd : kI mt pc (.aload i) 2 q) (hl : L[i]? = some (some (.ref v))) (kk : KAt w mt d q L (.ref v :: S) x r x') : KAt w mt d pc L S x r x' := by
  intro p e R s m args below meth c H locs cells slots ls A h hB hS hlo
  exact lv_aload h.1.1 h.1.2.1 hd.1 (hlo.2.2 _ _ hl).1 (by rw [hd.2]; exact kk _ _ _ _ _ _ _ _ _ _ _ _ _ _ _ h hB hS hlo)
theorem k_aload_nN {k : Fin 4} (hd : kI mt pc (.aload_n k) 1 q) (hl : L[(k : Nat)]? = some (some .null)) (kk : KAt w mt d q L (.null :: S) x r x') : KAt w mt d pc L S x r x' := by
  intro p e R s m args below meth c H locs cells slots ls A h hB hS hlo
  exact lv_aload_nN h.1.1 h.1.2.1 hd.1 rfl (hlo.2.2 _ _ hl).1 (by rw [hd.2]; exact kk _ _ _ _ _ _ _ _ _ _ _ _ _ _ _ h hB hS hlo)
theorem k_aloadN {i : Nat} (hd : kI mt pc (.aload i) 2 q) (hl : L[i]? = some (some .null)) (kk : KAt w mt d q L (.null :: S) x r x') : KAt w mt d pc L S x r x' := by
  intro p e R s m args below meth c H locs cells slots ls A h hB hS hlo
  exact lv_aloadN h.1.1 h.1.2.1 hd.1 (hlo.2.2 _ _ hl).1 (by rw [hd.2]; exact kk _ _ _ _ _ _ _ _ _ _ _ _ _ _ _ h hB hS hlo)
theorem k_istore_n {k : Fin 4} {v : Int32} (hd : kI mt pc (.istore_n k) 1 q) (hn : (k : Nat) < mt.2.2.1) (kk : KAt w mt d q (L.set (k : Nat) (some (.int v))) S x r x') : KAt w mt d pc L (.int v :: S) x r x' := by
  intro p e R s m args below meth c H locs cells slots ls A h hB hS hlo
  exact lv_istore_n h.1.1 h.1.2.1 hd.1 rfl hlo.has hn rfl (fun ls' hl' => by rw [hd.2]; exact kk _ _ _ _ _ _ _ _ _ _ _ _ _ _ _ h hB hS (hlo.set (v := .int v) rfl hl'))
theorem k_istore {i : Nat} {v : Int32} (hd : kI mt pc (.istore i) 2 q) (hn : i < mt.2.2.1) (kk : KAt w mt d q (L.set i (some (.int v))) S x r x') : KAt w mt d pc L (.int v :: S) x r x' := by
  intro p e R s m args below meth c H locs cells slots ls A h hB hS hlo
  exact lv_istore h.1.1 h.1.2.1 hd.1 hlo.has hn rfl (fun ls' hl' => by rw [hd.2]; exact kk _ _ _ _ _ _ _ _ _ _ _ _ _ _ _ h hB hS (hlo.set (v := .int v) rfl hl'))
theorem k_astore_n {k : Fin 4} {v : Nat} (hd : kI mt pc (.astore_n k) 1 q) (hn : (k : Nat) < mt.2.2.1) (kk : KAt w mt d q (L.set (k : Nat) (some (.ref v))) S x r x') : KAt w mt d pc L (.ref v :: S) x r x' := by
  intro p e R s m args below meth c H locs cells slots ls A h hB hS hlo
  exact lv_astore_n h.1.1 h.1.2.1 hd.1 rfl hlo.has hn rfl (fun ls' hl' => by rw [hd.2]; exact kk _ _ _ _ _ _ _ _ _ _ _ _ _ _ _ h hB hS (hlo.set (v := .ref v) rfl hl'))
theorem k_astore {i : Nat} {v : Nat} (hd : kI mt pc (.astore i) 2 q) (hn : i < mt.2.2.1) (kk : KAt w mt d q (L.set i (some (.ref v))) S x r x') : KAt w mt d pc L (.ref v :: S) x r x' := by
  intro p e R s m args below meth c H locs cells slots ls A h hB hS hlo
  exact lv_astore h.1.1 h.1.2.1 hd.1 hlo.has hn rfl (fun ls' hl' => by rw [hd.2]; exact kk _ _ _ _ _ _ _ _ _ _ _ _ _ _ _ h hB hS (hlo.set (v := .ref v) rfl hl'))
theorem k_astore_nN {k : Fin 4}  (hd : kI mt pc (.astore_n k) 1 q) (hn : (k : Nat) < mt.2.2.1) (kk : KAt w mt d q (L.set (k : Nat) (some (.null))) S x r x') : KAt w mt d pc L (.null :: S) x r x' := by
  intro p e R s m args below meth c H locs cells slots ls A h hB hS hlo
  exact lv_astore_nN h.1.1 h.1.2.1 hd.1 rfl hlo.has hn rfl (fun ls' hl' => by rw [hd.2]; exact kk _ _ _ _ _ _ _ _ _ _ _ _ _ _ _ h hB hS (hlo.set (v := .null) rfl hl'))
theorem k_astoreN {i : Nat}  (hd : kI mt pc (.astore i) 2 q) (hn : i < mt.2.2.1) (kk : KAt w mt d q (L.set i (some (.null))) S x r x') : KAt w mt d pc L (.null :: S) x r x' := by
  intro p e R s m args below meth c H locs cells slots ls A h hB hS hlo
  exact lv_astoreN h.1.1 h.1.2.1 hd.1 hlo.has hn rfl (fun ls' hl' => by rw [hd.2]; exact kk _ _ _ _ _ _ _ _ _ _ _ _ _ _ _ h hB hS (hlo.set (v := .null) rfl hl'))
theorem k_iinc {i : Nat} {n : Int} {v u : Int32} (hd : kI mt pc (.iinc i n) 3 q) (hl : L[i]? = some (some (.int v))) (hv : v + Int32.ofInt n = u) (hn : i < mt.2.2.1) (kk : KAt w mt d q (L.set i (some (.int u))) S x r x') : KAt w mt d pc L S x r x' := by
  intro p e R s m args below meth c H locs cells slots ls A h hB hS hlo
  have hm := kLp_at (ad := kwA w) L 0 i (.int v) hl
  rw [Nat.zero_add] at hm
  obtain ⟨k, hk⟩ := List.getElem?_of_mem hm
  exact lv_iinc h.1.1 h.1.2.1 hd.1 hlo.has hk hv hn rfl (fun ls' hl' => by rw [hd.2]; exact kk _ _ _ _ _ _ _ _ _ _ _ _ _ _ _ h hB hS (hlo.set (v := .int u) rfl hl'))
theorem k_iadd {a b : Int32} (hd : kI mt pc .iadd 1 q) (k : KAt w mt d q L (.int (a + b) :: S) x r x') : KAt w mt d pc L (.int b :: .int a :: S) x r x' := by
  intro p e R s m args below meth c H locs cells slots ls A h hB hS hl
  exact lv_iadd h.1.1 h.1.2.1 hd.1 (by rw [hd.2]; exact k _ _ _ _ _ _ _ _ _ _ _ _ _ _ _ h hB hS hl)
theorem k_isub {a b : Int32} (hd : kI mt pc .isub 1 q) (k : KAt w mt d q L (.int (a - b) :: S) x r x') : KAt w mt d pc L (.int b :: .int a :: S) x r x' := by
  intro p e R s m args below meth c H locs cells slots ls A h hB hS hl
  exact lv_isub h.1.1 h.1.2.1 hd.1 (by rw [hd.2]; exact k _ _ _ _ _ _ _ _ _ _ _ _ _ _ _ h hB hS hl)
theorem k_imul {a b : Int32} (hd : kI mt pc .imul 1 q) (k : KAt w mt d q L (.int (a * b) :: S) x r x') : KAt w mt d pc L (.int b :: .int a :: S) x r x' := by
  intro p e R s m args below meth c H locs cells slots ls A h hB hS hl
  exact lv_imul h.1.1 h.1.2.1 hd.1 (by rw [hd.2]; exact k _ _ _ _ _ _ _ _ _ _ _ _ _ _ _ h hB hS hl)
theorem k_iand {a b : Int32} (hd : kI mt pc .iand 1 q) (k : KAt w mt d q L (.int (a &&& b) :: S) x r x') : KAt w mt d pc L (.int b :: .int a :: S) x r x' := by
  intro p e R s m args below meth c H locs cells slots ls A h hB hS hl
  exact lv_iand h.1.1 h.1.2.1 hd.1 (by rw [hd.2]; exact k _ _ _ _ _ _ _ _ _ _ _ _ _ _ _ h hB hS hl)
theorem k_dup {a : Value} (hd : kI mt pc .dup 1 q) (ha : a.category = 1) (k : KAt w mt d q L (a :: a :: S) x r x') : KAt w mt d pc L (a :: S) x r x' := by
  intro p e R s m args below meth c H locs cells slots ls A h hB hS hl
  exact lv_dup h.1.1 h.1.2.1 hd.1 ((cv_cat _ a).trans ha) (by rw [hd.2]; exact k _ _ _ _ _ _ _ _ _ _ _ _ _ _ _ h hB hS hl)
theorem k_pop {a : Value} (hd : kI mt pc .pop 1 q) (ha : a.category = 1) (k : KAt w mt d q L S x r x') : KAt w mt d pc L (a :: S) x r x' := by
  intro p e R s m args below meth c H locs cells slots ls A h hB hS hl
  exact lv_pop h.1.1 h.1.2.1 hd.1 ((cv_cat _ a).trans ha) (by rw [hd.2]; exact k _ _ _ _ _ _ _ _ _ _ _ _ _ _ _ h hB hS hl)
theorem k_dup_x1 {a b : Value} (hd : kI mt pc .dup_x1 1 q) (ha : a.category = 1) (hb : b.category = 1) (k : KAt w mt d q L (a :: b :: a :: S) x r x') : KAt w mt d pc L (a :: b :: S) x r x' := by
  intro p e R s m args below meth c H locs cells slots ls A h hB hS hl
  exact lv_dup_x1 h.1.1 h.1.2.1 hd.1 ((cv_cat _ a).trans ha) ((cv_cat _ b).trans hb) (by rw [hd.2]; exact k _ _ _ _ _ _ _ _ _ _ _ _ _ _ _ h hB hS hl)
theorem k_dup2 {a b : Value} (hd : kI mt pc .dup2 1 q) (ha : a.category = 1) (hb : b.category = 1) (k : KAt w mt d q L (a :: b :: a :: b :: S) x r x') : KAt w mt d pc L (a :: b :: S) x r x' := by
  intro p e R s m args below meth c H locs cells slots ls A h hB hS hl
  exact lv_dup2_11 h.1.1 h.1.2.1 hd.1 ((cv_cat _ a).trans ha) ((cv_cat _ b).trans hb) (by rw [hd.2]; exact k _ _ _ _ _ _ _ _ _ _ _ _ _ _ _ h hB hS hl)
theorem k_if_eq {a : Int32} {off : Int} (hd : kJ mt pc (.ifCond .eq off) off q t) (kt : a = 0 → KAt w mt d t L S x r x') (kf : ¬ a = 0 → KAt w mt d q L S x r x') : KAt w mt d pc L (.int a :: S) x r x' := by
  intro p e R s m args below meth c H locs cells slots ls A h hB hS hl
  exact lv_if_eq h.1.1 h.1.2.1 hd.1 hd.2.2 (fun z => kt z _ _ _ _ _ _ _ _ _ _ _ _ _ _ _ h hB hS hl) (fun z => by rw [hd.2.1]; exact kf z _ _ _ _ _ _ _ _ _ _ _ _ _ _ _ h hB hS hl)
theorem k_if_ne {a : Int32} {off : Int} (hd : kJ mt pc (.ifCond .ne off) off q t) (kt : ¬ a = 0 → KAt w mt d t L S x r x') (kf : a = 0 → KAt w mt d q L S x r x') : KAt w mt d pc L (.int a :: S) x r x' := by
  intro p e R s m args below meth c H locs cells slots ls A h hB hS hl
  exact lv_if_ne h.1.1 h.1.2.1 hd.1 hd.2.2 (fun z => kt z _ _ _ _ _ _ _ _ _ _ _ _ _ _ _ h hB hS hl) (fun z => by rw [hd.2.1]; exact kf z _ _ _ _ _ _ _ _ _ _ _ _ _ _ _ h hB hS hl)
theorem k_if_lt {a : Int32} {off : Int} (hd : kJ mt pc (.ifCond .lt off) off q t) (kt : a < 0 → KAt w mt d t L S x r x') (kf : ¬ a < 0 → KAt w mt d q L S x r x') : KAt w mt d pc L (.int a :: S) x r x' := by
  intro p e R s m args below meth c H locs cells slots ls A h hB hS hl
  exact lv_if_lt h.1.1 h.1.2.1 hd.1 hd.2.2 (fun z => kt z _ _ _ _ _ _ _ _ _ _ _ _ _ _ _ h hB hS hl) (fun z => by rw [hd.2.1]; exact kf z _ _ _ _ _ _ _ _ _ _ _ _ _ _ _ h hB hS hl)
theorem k_if_ge {a : Int32} {off : Int} (hd : kJ mt pc (.ifCond .ge off) off q t) (kt : 0 ≤ a → KAt w mt d t L S x r x') (kf : ¬ 0 ≤ a → KAt w mt d q L S x r x') : KAt w mt d pc L (.int a :: S) x r x' := by
  intro p e R s m args below meth c H locs cells slots ls A h hB hS hl
  exact lv_if_ge h.1.1 h.1.2.1 hd.1 hd.2.2 (fun z => kt z _ _ _ _ _ _ _ _ _ _ _ _ _ _ _ h hB hS hl) (fun z => by rw [hd.2.1]; exact kf z _ _ _ _ _ _ _ _ _ _ _ _ _ _ _ h hB hS hl)
theorem k_if_gt {a : Int32} {off : Int} (hd : kJ mt pc (.ifCond .gt off) off q t) (kt : 0 < a → KAt w mt d t L S x r x') (kf : ¬ 0 < a → KAt w mt d q L S x r x') : KAt w mt d pc L (.int a :: S) x r x' := by
  intro p e R s m args below meth c H locs cells slots ls A h hB hS hl
  exact lv_if_gt h.1.1 h.1.2.1 hd.1 hd.2.2 (fun z => kt z _ _ _ _ _ _ _ _ _ _ _ _ _ _ _ h hB hS hl) (fun z => by rw [hd.2.1]; exact kf z _ _ _ _ _ _ _ _ _ _ _ _ _ _ _ h hB hS hl)
theorem k_if_le {a : Int32} {off : Int} (hd : kJ mt pc (.ifCond .le off) off q t) (kt : a ≤ 0 → KAt w mt d t L S x r x') (kf : ¬ a ≤ 0 → KAt w mt d q L S x r x') : KAt w mt d pc L (.int a :: S) x r x' := by
  intro p e R s m args below meth c H locs cells slots ls A h hB hS hl
  exact lv_if_le h.1.1 h.1.2.1 hd.1 hd.2.2 (fun z => kt z _ _ _ _ _ _ _ _ _ _ _ _ _ _ _ h hB hS hl) (fun z => by rw [hd.2.1]; exact kf z _ _ _ _ _ _ _ _ _ _ _ _ _ _ _ h hB hS hl)
theorem k_icmp_eq {a b : Int32} {off : Int} (hd : kJ mt pc (.if_icmp .eq off) off q t) (kt : a = b → KAt w mt d t L S x r x') (kf : ¬ a = b → KAt w mt d q L S x r x') : KAt w mt d pc L (.int b :: .int a :: S) x r x' := by
  intro p e R s m args below meth c H locs cells slots ls A h hB hS hl
  exact lv_icmp_eq h.1.1 h.1.2.1 hd.1 hd.2.2 (fun z => kt z _ _ _ _ _ _ _ _ _ _ _ _ _ _ _ h hB hS hl) (fun z => by rw [hd.2.1]; exact kf z _ _ _ _ _ _ _ _ _ _ _ _ _ _ _ h hB hS hl)
theorem k_icmp_ne {a b : Int32} {off : Int} (hd : kJ mt pc (.if_icmp .ne off) off q t) (kt : ¬ a = b → KAt w mt d t L S x r x') (kf : a = b → KAt w mt d q L S x r x') : KAt w mt d pc L (.int b :: .int a :: S) x r x' := by
  intro p e R s m args below meth c H locs cells slots ls A h hB hS hl
  exact lv_icmp_ne h.1.1 h.1.2.1 hd.1 hd.2.2 (fun z => kt z _ _ _ _ _ _ _ _ _ _ _ _ _ _ _ h hB hS hl) (fun z => by rw [hd.2.1]; exact kf z _ _ _ _ _ _ _ _ _ _ _ _ _ _ _ h hB hS hl)
theorem k_icmp_lt {a b : Int32} {off : Int} (hd : kJ mt pc (.if_icmp .lt off) off q t) (kt : a < b → KAt w mt d t L S x r x') (kf : ¬ a < b → KAt w mt d q L S x r x') : KAt w mt d pc L (.int b :: .int a :: S) x r x' := by
  intro p e R s m args below meth c H locs cells slots ls A h hB hS hl
  exact lv_icmp_lt h.1.1 h.1.2.1 hd.1 hd.2.2 (fun z => kt z _ _ _ _ _ _ _ _ _ _ _ _ _ _ _ h hB hS hl) (fun z => by rw [hd.2.1]; exact kf z _ _ _ _ _ _ _ _ _ _ _ _ _ _ _ h hB hS hl)
theorem k_icmp_ge {a b : Int32} {off : Int} (hd : kJ mt pc (.if_icmp .ge off) off q t) (kt : b ≤ a → KAt w mt d t L S x r x') (kf : ¬ b ≤ a → KAt w mt d q L S x r x') : KAt w mt d pc L (.int b :: .int a :: S) x r x' := by
  intro p e R s m args below meth c H locs cells slots ls A h hB hS hl
  exact lv_icmp_ge h.1.1 h.1.2.1 hd.1 hd.2.2 (fun z => kt z _ _ _ _ _ _ _ _ _ _ _ _ _ _ _ h hB hS hl) (fun z => by rw [hd.2.1]; exact kf z _ _ _ _ _ _ _ _ _ _ _ _ _ _ _ h hB hS hl)
theorem k_icmp_gt {a b : Int32} {off : Int} (hd : kJ mt pc (.if_icmp .gt off) off q t) (kt : b < a → KAt w mt d t L S x r x') (kf : ¬ b < a → KAt w mt d q L S x r x') : KAt w mt d pc L (.int b :: .int a :: S) x r x' := by
  intro p e R s m args below meth c H locs cells slots ls A h hB hS hl
  exact lv_icmp_gt h.1.1 h.1.2.1 hd.1 hd.2.2 (fun z => kt z _ _ _ _ _ _ _ _ _ _ _ _ _ _ _ h hB hS hl) (fun z => by rw [hd.2.1]; exact kf z _ _ _ _ _ _ _ _ _ _ _ _ _ _ _ h hB hS hl)
theorem k_icmp_le {a b : Int32} {off : Int} (hd : kJ mt pc (.if_icmp .le off) off q t) (kt : a ≤ b → KAt w mt d t L S x r x') (kf : ¬ a ≤ b → KAt w mt d q L S x r x') : KAt w mt d pc L (.int b :: .int a :: S) x r x' := by
  intro p e R s m args below meth c H locs cells slots ls A h hB hS hl
  exact lv_icmp_le h.1.1 h.1.2.1 hd.1 hd.2.2 (fun z => kt z _ _ _ _ _ _ _ _ _ _ _ _ _ _ _ h hB hS hl) (fun z => by rw [hd.2.1]; exact kf z _ _ _ _ _ _ _ _ _ _ _ _ _ _ _ h hB hS hl)
theorem k_goto {off : Int} (hd : kJ mt pc (.goto off) off q t) (k : KAt w mt d t L S x r x') : KAt w mt d pc L S x r x' := by
  intro p e R s m args below meth c H locs cells slots ls A h hB hS hl
  exact lv_goto h.1.1 h.1.2.1 hd.1 hd.2.2 (k _ _ _ _ _ _ _ _ _ _ _ _ _ _ _ h hB hS hl)
theorem k_ifnonnull {a : Nat} {off : Int} (hd : kJ mt pc (.ifnonnull off) off q t) (k : KAt w mt d t L S x r x') : KAt w mt d pc L (.ref a :: S) x r x' := by
  intro p e R s m args below meth c H locs cells slots ls A h hB hS hl
  exact lv_ifnonnull h.1.1 h.1.2.1 hd.1 hd.2.2 (k _ _ _ _ _ _ _ _ _ _ _ _ _ _ _ h hB hS hl)
theorem k_ifnonnullN {off : Int} (hd : kJ mt pc (.ifnonnull off) off q t) (k : KAt w mt d q L S x r x') : KAt w mt d pc L (.null :: S) x r x' := by
  intro p e R s m args below meth c H locs cells slots ls A h hB hS hl
  exact lv_ifnonnullN h.1.1 h.1.2.1 hd.1 (by rw [hd.2.1]; exact k _ _ _ _ _ _ _ _ _ _ _ _ _ _ _ h hB hS hl)
theorem k_ifnull {a : Nat} {off : Int} (hd : kJ mt pc (.ifnull off) off q t) (k : KAt w mt d q L S x r x') : KAt w mt d pc L (.ref a :: S) x r x' := by
  intro p e R s m args below meth c H locs cells slots ls A h hB hS hl
  exact lv_ifnull h.1.1 h.1.2.1 hd.1 (by rw [hd.2.1]; exact k _ _ _ _ _ _ _ _ _ _ _ _ _ _ _ h hB hS hl)
theorem k_ifnullN {off : Int} (hd : kJ mt pc (.ifnull off) off q t) (k : KAt w mt d t L S x r x') : KAt w mt d pc L (.null :: S) x r x' := by
  intro p e R s m args below meth c H locs cells slots ls A h hB hS hl
  exact lv_ifnullN h.1.1 h.1.2.1 hd.1 hd.2.2 (k _ _ _ _ _ _ _ _ _ _ _ _ _ _ _ h hB hS hl)
theorem k_iret {v : Int32} (hd : kI mt pc .ireturn 1 q) (hr : mt.2.2.2 = some .int) (h1 : r = some (.int v)) (h2 : x' = x) : KAt w mt d pc L [.int v] x r x' := by
  subst h1; subst h2
  intro p e R s m args below meth c H locs cells slots ls A h hB hS hl
  exact W.iret h.1.1 h.1.2.1 (h.2.1.trans hr) (fun t ht hW => ⟨rfl, by rw [ht]; exact hB, h.2.2.2.1.moved hW.alike, hS.F ht⟩) hS.2.2 hd.1 h.2.2.1
theorem k_zret {v : Int32} (hd : kI mt pc .ireturn 1 q) (hr : mt.2.2.2 = some .boolean) (hn : narrow .boolean (.int v) = .int v) (h1 : r = some (.int v)) (h2 : x' = x) : KAt w mt d pc L [.int v] x r x' := by
  subst h1; subst h2
  intro p e R s m args below meth c H locs cells slots ls A h hB hS hl
  exact W.zret h.1.1 h.1.2.1 (h.2.1.trans hr) hn (fun t ht hW => ⟨rfl, by rw [ht]; exact hB, h.2.2.2.1.moved hW.alike, hS.F ht⟩) hS.2.2 hd.1 h.2.2.1
theorem k_vret (hd : kI mt pc .return_ 1 q) (hr : mt.2.2.2 = none) (h1 : r = none) (h2 : x' = x) : KAt w mt d pc L [] x r x' := by
  subst h1; subst h2
  intro p e R s m args below meth c H locs cells slots ls A h hB hS hl
  exact W.vret h.1.1 h.1.2.1 (h.2.1.trans hr) (fun t ht hW => ⟨rfl, by rw [ht]; exact hB, h.2.2.2.1.moved hW.alike, hS.F ht⟩) hS.2.2 hd.1 h.2.2.1
theorem k_aret {a : Nat} {C : String} (hd : kI mt pc .areturn 1 q) (hr : mt.2.2.2 = some (.object C)) (h1 : r = some (.ref a)) (h2 : x' = x) : KAt w mt d pc L [.ref a] x r x' := by
  subst h1; subst h2
  intro p e R s m args below meth c H locs cells slots ls A h hB hS hl
  exact W.aret h.1.1 h.1.2.1 (h.2.1.trans hr) (Or.inl ⟨_, rfl⟩) (Or.inr ⟨_, rfl⟩) (fun t ht hW => ⟨rfl, by rw [ht]; exact hB, h.2.2.2.1.moved hW.alike, hS.F ht⟩) hS.2.2 hd.1 h.2.2.1
theorem k_aretN {C : String} (hd : kI mt pc .areturn 1 q) (hr : mt.2.2.2 = some (.object C)) (h1 : r = some .null) (h2 : x' = x) : KAt w mt d pc L [.null] x r x' := by
  subst h1; subst h2
  intro p e R s m args below meth c H locs cells slots ls A h hB hS hl
  exact W.aret h.1.1 h.1.2.1 (h.2.1.trans hr) (Or.inl ⟨_, rfl⟩) (Or.inl rfl) (fun t ht hW => ⟨rfl, by rw [ht]; exact hB, h.2.2.2.1.moved hW.alike, hS.F ht⟩) hS.2.2 hd.1 h.2.2.1
/-- what a call needs to know of a method; of its receiver -/
def kM (y : MethodName) (mt' : kMT) (n : Nat) : Prop := Cond.initialized y.cls ∈ kWS ∧ Cond.code y mt'.2.1 mt'.2.2.1 mt'.2.2.2 ∈ kWS ∧ (y.cls ≠ "java/lang/invoke/MethodHandle" ∧ y.cls ≠ "java/lang/invoke/VarHandle" ∧ (parseMethodDescriptor y.desc).map (fun d => d.parameters.length) = some n) ∧ mt'.2.2.1 ≤ 13
def kMv (y : MethodName) (mt' : kMT) (n : Nat) : Prop := kM y mt' n ∧ Cond.instanceMethod y ∈ kWS ∧ Cond.selects y.cls y y ∈ kWS
def kMs (y : MethodName) (mt' : kMT) (n : Nat) : Prop := kM y mt' n ∧ Cond.static y ∈ kWS
def kRcv (w : kW X) (x : X) (b : Nat) (C : String) : Prop := ∀ (H : Heap) (s : State), kwB w x H → kK w s → ∃ cell : Cell, H[kwA w b]? = some cell ∧ cell.vm.isStatics = false ∧ s.vm.findClass C = some cell.cls
theorem kGoodIn {y : MethodName} {mt' : kMT} (h : Cond.code y mt'.2.1 mt'.2.2.1 mt'.2.2.2 ∈ kWS) : GoodIn kWS (Cond.code y mt'.2.1 mt'.2.2.1 mt'.2.2.2 :: kWS) := by
  intro c hc
  rcases List.mem_cons.mp hc with rfl | hc
  · exact ⟨h, good_of_word (kGood _ h)⟩
  · exact ⟨hc, good_of_word (kGood _ hc)⟩
theorem kBlind {as : List Value} : FrameBlind (va_Pc as (fun U => kwB w x U.heap ∧ kK w U)) := by
  intro a U g mk hq
  obtain ⟨q0, q1, q2⟩ := hq
  exact ⟨q0, q1, kK.moved (u := U) (U := U.calling g mk a) (Vm.Alike.refl U.vm) q2⟩
theorem kBehind {p : Program} {e : Env} {R : Room} {s : State} {m : MethodId} {args : Array Value} {below : List Frame} {meth : Method} {c : Code} {H : Heap} {locs : List Loc} {cells slots : Nat} {ls : Array Slot} {A : Nat → Prop} {d0 : Nat} {st0 S' : List Value} {a : Array Value} {x1 : X} {r1 : Option Value}
    (hrun : va_Run p (kwL w) e R s m args below meth c H locs cells slots 0 0 (F0 m pc ls st0) (S'.map (cv (kwA w))) (kQ w (kwF w) r1 x1 a) (kwF w))
    (h : kOk w mt d0 p R s m args meth c cells slots A) (hS : va_S A s.heap H locs) (hl : kLo (kwA w) ls mt.2.2.1 L) (k : KAt w mt d0 (pc + 3) L (r1.toList ++ S') x1 r x') :
    W p (kwL w) e R s m args below meth c H locs cells slots (MQ below (kQ w A r x') args s cells slots A) (F0 m pc ls st0) := by
  intro T hT X
  obtain ⟨v, st₀, t, T', L', h0, X', hL, e1, e2, ⟨hv, hB1, hK1, hz, hk⟩, st⟩ := hrun T hT X
  have hv2 : v = r1.map (cv (kwA w)) := Outcome.returned.inj hv
  subst hv2
  rw [h0] at hz hk
  have hA := h.2.2.2.2.2.2
  have hS' : va_S A s.heap T'.heap (locs ++ L') := ⟨Nat.le_trans hS.1 (by rw [e1]; exact hz), fun q h1 h2 => by rw [e1, hk q (Nat.lt_of_lt_of_le h1 hS.1) (fun z => h2 (hA q z))]; exact hS.2.1 q h1 h2, fun q hq => by
      rcases List.mem_append.mp hq with h | h
      · exact hS.2.2 q h
      · exact hA _ (hL q h)⟩
  have hst : (r1.map (cv (kwA w))).toList ++ S'.map (cv (kwA w)) = (r1.toList ++ S').map (cv (kwA w)) := by cases r1 <;> simp
  obtain ⟨t2, a1, b1⟩ := k _ _ _ _ _ _ _ _ _ _ _ _ _ _ _ h (by rw [e1]; exact hB1) hS' hl T' rfl X'
  refine ⟨t2, st t2 ?_, b1⟩
  rw [← hst] at a1
  exact a1
theorem k_virt {y : MethodName} {mt' : kMT} {n idx b : Nat} {As S' : List Value} {x1 : X} {r1 : Option Value} (hd : kI mt pc (.invokevirtual idx) 3 q) (hk : Cond.methodLink mt.1 idx y ∈ kWS) (hm : kMv y mt' n) (hn : As.length = n) (hS : KSp w y mt' d (.ref b :: As) x r1 x1) (hv : kRcv w x b y.cls) (hr : (S'.map fun v => v.category).sum ≤ 8)
    (k : KAt w mt (d + 1) q L (r1.toList ++ S') x1 r x') : KAt w mt (d + 1) pc L (As.reverse ++ .ref b :: S') x r x' := by
  intro p e R s m args below meth c H locs cells slots ls A h hB hS0 hl
  obtain ⟨⟨hi, hc, hy, hml⟩, hin, hsel⟩ := hm
  have hts := h.1.2.2.2.2
  have hK := h.2.2.2.1
  have hfr := h.2.2.2.2.1
  have hcs := h.2.2.2.2.2.1
  have hr2 : ((S'.map (cv (kwA w))).map fun v => v.category).sum ≤ 8 := by
    rw [List.map_map]
    have : ((fun v : Value => v.category) ∘ cv (kwA w)) = fun v => v.category := funext fun v => cv_cat _ v
    rw [this]
    exact hr
  refine kBehind (S' := S') (r1 := r1) (x1 := x1) (va_runV (C := y.cls) (b := kwA w b) (As := As.map (cv (kwA w))) (bytes := mt'.2.1) (maxL := mt'.2.2.1) (ret := mt'.2.2.2) (n := n) h.1 hS ⟨callB_of n hts (kGoodIn hc) rfl rfl rfl (hts _ hi) (hts _ hk) hy ⟨by show d + 1 ≤ R.frames; exact hfr.1, by show 8 + (mt'.2.2.1 + 11) + 32 * d ≤ R.locals; omega⟩, hts _ hin, hts _ hsel⟩ ⟨kBlind, hv H s hB hK, fun U hU hW => ⟨rfl, by rw [hU]; exact hB, hK.moved hW.alike⟩⟩ rfl (by simpa using hn) (hl.1) (by simp [cv]) (lv_room hr2) hd.1 ⟨hcs.1, hcs.2⟩) h hS0 hl (by rw [hd.2]; exact k)
theorem k_stat {y : MethodName} {mt' : kMT} {n idx : Nat} {As S' : List Value} {x1 : X} {r1 : Option Value} (hd : kI mt pc (.invokestatic idx) 3 q) (hk : Cond.methodLink mt.1 idx y ∈ kWS) (hm : kMs y mt' n) (hn : As.length = n) (hS : KSp w y mt' d As x r1 x1) (hr : (S'.map fun v => v.category).sum ≤ 8)
    (k : KAt w mt (d + 1) q L (r1.toList ++ S') x1 r x') : KAt w mt (d + 1) pc L (As.reverse ++ S') x r x' := by
  intro p e R s m args below meth c H locs cells slots ls A h hB hS0 hl
  obtain ⟨⟨hi, hc, hy, hml⟩, hst⟩ := hm
  have hts := h.1.2.2.2.2
  have hK := h.2.2.2.1
  have hfr := h.2.2.2.2.1
  have hcs := h.2.2.2.2.2.1
  have hr2 : ((S'.map (cv (kwA w))).map fun v => v.category).sum ≤ 8 := by
    rw [List.map_map]
    have : ((fun v : Value => v.category) ∘ cv (kwA w)) = fun v => v.category := funext fun v => cv_cat _ v
    rw [this]
    exact hr
  refine kBehind (S' := S') (r1 := r1) (x1 := x1) (va_runS (As := As.map (cv (kwA w))) (bytes := mt'.2.1) (maxL := mt'.2.2.1) (ret := mt'.2.2.2) (n := n) h.1 hS ⟨callB_of n hts (kGoodIn hc) rfl rfl rfl (hts _ hi) (hts _ hk) hy ⟨by show d + 1 ≤ R.frames; exact hfr.1, by show 8 + (mt'.2.2.1 + 11) + 32 * d ≤ R.locals; omega⟩, hts _ hst⟩ ⟨kBlind, fun U hU hW => ⟨rfl, by rw [hU]; exact hB, hK.moved hW.alike⟩⟩ rfl (by simpa using hn) (hl.1) (by simp) (lv_room hr2) hd.1 ⟨hcs.1, hcs.2⟩) h hS0 hl (by rw [hd.2]; exact k)
theorem k_virt0 {y : MethodName} {mt' : kMT} {idx b : Nat} {x1 : X} {r1 : Option Value} (hd : kI mt pc (.invokevirtual idx) 3 q) (hk : Cond.methodLink mt.1 idx y ∈ kWS) (hm : kMv y mt' 0) (hS : KSp w y mt' d (.ref b :: []) x r1 x1) (hv : kRcv w x b y.cls) (hr : (S.map fun v => v.category).sum ≤ 8) (k : KAt w mt (d + 1) q L (r1.toList ++ S) x1 r x') : KAt w mt (d + 1) pc L (.ref b :: S) x r x' :=
  k_virt (As := []) (S' := S) hd hk hm rfl hS hv hr k
theorem k_stat0 {y : MethodName} {mt' : kMT} {idx : Nat} {x1 : X} {r1 : Option Value} (hd : kI mt pc (.invokestatic idx) 3 q) (hk : Cond.methodLink mt.1 idx y ∈ kWS) (hm : kMs y mt' 0) (hS : KSp w y mt' d [] x r1 x1) (hr : (S.map fun v => v.category).sum ≤ 8) (k : KAt w mt (d + 1) q L (r1.toList ++ S) x1 r x') : KAt w mt (d + 1) pc L (S) x r x' :=
  k_stat (As := []) (S' := S) hd hk hm rfl hS hr k
theorem k_virt1 {a0 : Value} {y : MethodName} {mt' : kMT} {idx b : Nat} {x1 : X} {r1 : Option Value} (hd : kI mt pc (.invokevirtual idx) 3 q) (hk : Cond.methodLink mt.1 idx y ∈ kWS) (hm : kMv y mt' 1) (hS : KSp w y mt' d (.ref b :: [a0]) x r1 x1) (hv : kRcv w x b y.cls) (hr : (S.map fun v => v.category).sum ≤ 8) (k : KAt w mt (d + 1) q L (r1.toList ++ S) x1 r x') : KAt w mt (d + 1) pc L (a0 :: .ref b :: S) x r x' :=
  k_virt (As := [a0]) (S' := S) hd hk hm rfl hS hv hr k
theorem k_stat1 {a0 : Value} {y : MethodName} {mt' : kMT} {idx : Nat} {x1 : X} {r1 : Option Value} (hd : kI mt pc (.invokestatic idx) 3 q) (hk : Cond.methodLink mt.1 idx y ∈ kWS) (hm : kMs y mt' 1) (hS : KSp w y mt' d [a0] x r1 x1) (hr : (S.map fun v => v.category).sum ≤ 8) (k : KAt w mt (d + 1) q L (r1.toList ++ S) x1 r x') : KAt w mt (d + 1) pc L (a0 :: S) x r x' :=
  k_stat (As := [a0]) (S' := S) hd hk hm rfl hS hr k
theorem k_virt2 {a0 a1 : Value} {y : MethodName} {mt' : kMT} {idx b : Nat} {x1 : X} {r1 : Option Value} (hd : kI mt pc (.invokevirtual idx) 3 q) (hk : Cond.methodLink mt.1 idx y ∈ kWS) (hm : kMv y mt' 2) (hS : KSp w y mt' d (.ref b :: [a0, a1]) x r1 x1) (hv : kRcv w x b y.cls) (hr : (S.map fun v => v.category).sum ≤ 8) (k : KAt w mt (d + 1) q L (r1.toList ++ S) x1 r x') : KAt w mt (d + 1) pc L (a1 :: a0 :: .ref b :: S) x r x' :=
  k_virt (As := [a0, a1]) (S' := S) hd hk hm rfl hS hv hr k
theorem k_stat2 {a0 a1 : Value} {y : MethodName} {mt' : kMT} {idx : Nat} {x1 : X} {r1 : Option Value} (hd : kI mt pc (.invokestatic idx) 3 q) (hk : Cond.methodLink mt.1 idx y ∈ kWS) (hm : kMs y mt' 2) (hS : KSp w y mt' d [a0, a1] x r1 x1) (hr : (S.map fun v => v.category).sum ≤ 8) (k : KAt w mt (d + 1) q L (r1.toList ++ S) x1 r x') : KAt w mt (d + 1) pc L (a1 :: a0 :: S) x r x' :=
  k_stat (As := [a0, a1]) (S' := S) hd hk hm rfl hS hr k
theorem k_virt3 {a0 a1 a2 : Value} {y : MethodName} {mt' : kMT} {idx b : Nat} {x1 : X} {r1 : Option Value} (hd : kI mt pc (.invokevirtual idx) 3 q) (hk : Cond.methodLink mt.1 idx y ∈ kWS) (hm : kMv y mt' 3) (hS : KSp w y mt' d (.ref b :: [a0, a1, a2]) x r1 x1) (hv : kRcv w x b y.cls) (hr : (S.map fun v => v.category).sum ≤ 8) (k : KAt w mt (d + 1) q L (r1.toList ++ S) x1 r x') : KAt w mt (d + 1) pc L (a2 :: a1 :: a0 :: .ref b :: S) x r x' :=
  k_virt (As := [a0, a1, a2]) (S' := S) hd hk hm rfl hS hv hr k
theorem k_stat3 {a0 a1 a2 : Value} {y : MethodName} {mt' : kMT} {idx : Nat} {x1 : X} {r1 : Option Value} (hd : kI mt pc (.invokestatic idx) 3 q) (hk : Cond.methodLink mt.1 idx y ∈ kWS) (hm : kMs y mt' 3) (hS : KSp w y mt' d [a0, a1, a2] x r1 x1) (hr : (S.map fun v => v.category).sum ≤ 8) (k : KAt w mt (d + 1) q L (r1.toList ++ S) x1 r x') : KAt w mt (d + 1) pc L (a2 :: a1 :: a0 :: S) x r x' :=
  k_stat (As := [a0, a1, a2]) (S' := S) hd hk hm rfl hS hr k
theorem k_virt4 {a0 a1 a2 a3 : Value} {y : MethodName} {mt' : kMT} {idx b : Nat} {x1 : X} {r1 : Option Value} (hd : kI mt pc (.invokevirtual idx) 3 q) (hk : Cond.methodLink mt.1 idx y ∈ kWS) (hm : kMv y mt' 4) (hS : KSp w y mt' d (.ref b :: [a0, a1, a2, a3]) x r1 x1) (hv : kRcv w x b y.cls) (hr : (S.map fun v => v.category).sum ≤ 8) (k : KAt w mt (d + 1) q L (r1.toList ++ S) x1 r x') : KAt w mt (d + 1) pc L (a3 :: a2 :: a1 :: a0 :: .ref b :: S) x r x' :=
  k_virt (As := [a0, a1, a2, a3]) (S' := S) hd hk hm rfl hS hv hr k
theorem k_stat4 {a0 a1 a2 a3 : Value} {y : MethodName} {mt' : kMT} {idx : Nat} {x1 : X} {r1 : Option Value} (hd : kI mt pc (.invokestatic idx) 3 q) (hk : Cond.methodLink mt.1 idx y ∈ kWS) (hm : kMs y mt' 4) (hS : KSp w y mt' d [a0, a1, a2, a3] x r1 x1) (hr : (S.map fun v => v.category).sum ≤ 8) (k : KAt w mt (d + 1) q L (r1.toList ++ S) x1 r x') : KAt w mt (d + 1) pc L (a3 :: a2 :: a1 :: a0 :: S) x r x' :=
  k_stat (As := [a0, a1, a2, a3]) (S' := S) hd hk hm rfl hS hr k
theorem k_virt5 {a0 a1 a2 a3 a4 : Value} {y : MethodName} {mt' : kMT} {idx b : Nat} {x1 : X} {r1 : Option Value} (hd : kI mt pc (.invokevirtual idx) 3 q) (hk : Cond.methodLink mt.1 idx y ∈ kWS) (hm : kMv y mt' 5) (hS : KSp w y mt' d (.ref b :: [a0, a1, a2, a3, a4]) x r1 x1) (hv : kRcv w x b y.cls) (hr : (S.map fun v => v.category).sum ≤ 8) (k : KAt w mt (d + 1) q L (r1.toList ++ S) x1 r x') : KAt w mt (d + 1) pc L (a4 :: a3 :: a2 :: a1 :: a0 :: .ref b :: S) x r x' :=
  k_virt (As := [a0, a1, a2, a3, a4]) (S' := S) hd hk hm rfl hS hv hr k
theorem k_stat5 {a0 a1 a2 a3 a4 : Value} {y : MethodName} {mt' : kMT} {idx : Nat} {x1 : X} {r1 : Option Value} (hd : kI mt pc (.invokestatic idx) 3 q) (hk : Cond.methodLink mt.1 idx y ∈ kWS) (hm : kMs y mt' 5) (hS : KSp w y mt' d [a0, a1, a2, a3, a4] x r1 x1) (hr : (S.map fun v => v.category).sum ≤ 8) (k : KAt w mt (d + 1) q L (r1.toList ++ S) x1 r x') : KAt w mt (d + 1) pc L (a4 :: a3 :: a2 :: a1 :: a0 :: S) x r x' :=
  k_stat (As := [a0, a1, a2, a3, a4]) (S' := S) hd hk hm rfl hS hr k
theorem k_virt6 {a0 a1 a2 a3 a4 a5 : Value} {y : MethodName} {mt' : kMT} {idx b : Nat} {x1 : X} {r1 : Option Value} (hd : kI mt pc (.invokevirtual idx) 3 q) (hk : Cond.methodLink mt.1 idx y ∈ kWS) (hm : kMv y mt' 6) (hS : KSp w y mt' d (.ref b :: [a0, a1, a2, a3, a4, a5]) x r1 x1) (hv : kRcv w x b y.cls) (hr : (S.map fun v => v.category).sum ≤ 8) (k : KAt w mt (d + 1) q L (r1.toList ++ S) x1 r x') : KAt w mt (d + 1) pc L (a5 :: a4 :: a3 :: a2 :: a1 :: a0 :: .ref b :: S) x r x' :=
  k_virt (As := [a0, a1, a2, a3, a4, a5]) (S' := S) hd hk hm rfl hS hv hr k
theorem k_stat6 {a0 a1 a2 a3 a4 a5 : Value} {y : MethodName} {mt' : kMT} {idx : Nat} {x1 : X} {r1 : Option Value} (hd : kI mt pc (.invokestatic idx) 3 q) (hk : Cond.methodLink mt.1 idx y ∈ kWS) (hm : kMs y mt' 6) (hS : KSp w y mt' d [a0, a1, a2, a3, a4, a5] x r1 x1) (hr : (S.map fun v => v.category).sum ≤ 8) (k : KAt w mt (d + 1) q L (r1.toList ++ S) x1 r x') : KAt w mt (d + 1) pc L (a5 :: a4 :: a3 :: a2 :: a1 :: a0 :: S) x r x' :=
  k_stat (As := [a0, a1, a2, a3, a4, a5]) (S' := S) hd hk hm rfl hS hr k
theorem k_virt0v {y : MethodName} {mt' : kMT} {idx b : Nat} {x1 : X} (hd : kI mt pc (.invokevirtual idx) 3 q) (hk : Cond.methodLink mt.1 idx y ∈ kWS) (hm : kMv y mt' 0) (hS : KSp w y mt' d (.ref b :: []) x none x1) (hv : kRcv w x b y.cls) (hr : (S.map fun v => v.category).sum ≤ 8) (k : KAt w mt (d + 1) q L S x1 r x') : KAt w mt (d + 1) pc L (.ref b :: S) x r x' :=
  k_virt0 hd hk hm hS hv hr k
theorem k_stat0v {y : MethodName} {mt' : kMT} {idx : Nat} {x1 : X} (hd : kI mt pc (.invokestatic idx) 3 q) (hk : Cond.methodLink mt.1 idx y ∈ kWS) (hm : kMs y mt' 0) (hS : KSp w y mt' d [] x none x1) (hr : (S.map fun v => v.category).sum ≤ 8) (k : KAt w mt (d + 1) q L S x1 r x') : KAt w mt (d + 1) pc L (S) x r x' :=
  k_stat0 hd hk hm hS hr k
theorem k_virt0s {v : Value} {y : MethodName} {mt' : kMT} {idx b : Nat} {x1 : X} (hd : kI mt pc (.invokevirtual idx) 3 q) (hk : Cond.methodLink mt.1 idx y ∈ kWS) (hm : kMv y mt' 0) (hS : KSp w y mt' d (.ref b :: []) x (some v) x1) (hv : kRcv w x b y.cls) (hr : (S.map fun v => v.category).sum ≤ 8) (k : KAt w mt (d + 1) q L (v :: S) x1 r x') : KAt w mt (d + 1) pc L (.ref b :: S) x r x' :=
  k_virt0 hd hk hm hS hv hr k
theorem k_stat0s {v : Value} {y : MethodName} {mt' : kMT} {idx : Nat} {x1 : X} (hd : kI mt pc (.invokestatic idx) 3 q) (hk : Cond.methodLink mt.1 idx y ∈ kWS) (hm : kMs y mt' 0) (hS : KSp w y mt' d [] x (some v) x1) (hr : (S.map fun v => v.category).sum ≤ 8) (k : KAt w mt (d + 1) q L (v :: S) x1 r x') : KAt w mt (d + 1) pc L (S) x r x' :=
  k_stat0 hd hk hm hS hr k
theorem k_virt1v {a0 : Value} {y : MethodName} {mt' : kMT} {idx b : Nat} {x1 : X} (hd : kI mt pc (.invokevirtual idx) 3 q) (hk : Cond.methodLink mt.1 idx y ∈ kWS) (hm : kMv y mt' 1) (hS : KSp w y mt' d (.ref b :: [a0]) x none x1) (hv : kRcv w x b y.cls) (hr : (S.map fun v => v.category).sum ≤ 8) (k : KAt w mt (d + 1) q L S x1 r x') : KAt w mt (d + 1) pc L (a0 :: .ref b :: S) x r x' :=
  k_virt1 hd hk hm hS hv hr k
theorem k_stat1v {a0 : Value} {y : MethodName} {mt' : kMT} {idx : Nat} {x1 : X} (hd : kI mt pc (.invokestatic idx) 3 q) (hk : Cond.methodLink mt.1 idx y ∈ kWS) (hm : kMs y mt' 1) (hS : KSp w y mt' d [a0] x none x1) (hr : (S.map fun v => v.category).sum ≤ 8) (k : KAt w mt (d + 1) q L S x1 r x') : KAt w mt (d + 1) pc L (a0 :: S) x r x' :=
  k_stat1 hd hk hm hS hr k
theorem k_virt1s {a0 : Value} {v : Value} {y : MethodName} {mt' : kMT} {idx b : Nat} {x1 : X} (hd : kI mt pc (.invokevirtual idx) 3 q) (hk : Cond.methodLink mt.1 idx y ∈ kWS) (hm : kMv y mt' 1) (hS : KSp w y mt' d (.ref b :: [a0]) x (some v) x1) (hv : kRcv w x b y.cls) (hr : (S.map fun v => v.category).sum ≤ 8) (k : KAt w mt (d + 1) q L (v :: S) x1 r x') : KAt w mt (d + 1) pc L (a0 :: .ref b :: S) x r x' :=
  k_virt1 hd hk hm hS hv hr k
theorem k_stat1s {a0 : Value} {v : Value} {y : MethodName} {mt' : kMT} {idx : Nat} {x1 : X} (hd : kI mt pc (.invokestatic idx) 3 q) (hk : Cond.methodLink mt.1 idx y ∈ kWS) (hm : kMs y mt' 1) (hS : KSp w y mt' d [a0] x (some v) x1) (hr : (S.map fun v => v.category).sum ≤ 8) (k : KAt w mt (d + 1) q L (v :: S) x1 r x') : KAt w mt (d + 1) pc L (a0 :: S) x r x' :=
  k_stat1 hd hk hm hS hr k
theorem k_virt2v {a0 a1 : Value} {y : MethodName} {mt' : kMT} {idx b : Nat} {x1 : X} (hd : kI mt pc (.invokevirtual idx) 3 q) (hk : Cond.methodLink mt.1 idx y ∈ kWS) (hm : kMv y mt' 2) (hS : KSp w y mt' d (.ref b :: [a0, a1]) x none x1) (hv : kRcv w x b y.cls) (hr : (S.map fun v => v.category).sum ≤ 8) (k : KAt w mt (d + 1) q L S x1 r x') : KAt w mt (d + 1) pc L (a1 :: a0 :: .ref b :: S) x r x' :=
  k_virt2 hd hk hm hS hv hr k
theorem k_stat2v {a0 a1 : Value} {y : MethodName} {mt' : kMT} {idx : Nat} {x1 : X} (hd : kI mt pc (.invokestatic idx) 3 q) (hk : Cond.methodLink mt.1 idx y ∈ kWS) (hm : kMs y mt' 2) (hS : KSp w y mt' d [a0, a1] x none x1) (hr : (S.map fun v => v.category).sum ≤ 8) (k : KAt w mt (d + 1) q L S x1 r x') : KAt w mt (d + 1) pc L (a1 :: a0 :: S) x r x' :=
  k_stat2 hd hk hm hS hr k
theorem k_virt2s {a0 a1 : Value} {v : Value} {y : MethodName} {mt' : kMT} {idx b : Nat} {x1 : X} (hd : kI mt pc (.invokevirtual idx) 3 q) (hk : Cond.methodLink mt.1 idx y ∈ kWS) (hm : kMv y mt' 2) (hS : KSp w y mt' d (.ref b :: [a0, a1]) x (some v) x1) (hv : kRcv w x b y.cls) (hr : (S.map fun v => v.category).sum ≤ 8) (k : KAt w mt (d + 1) q L (v :: S) x1 r x') : KAt w mt (d + 1) pc L (a1 :: a0 :: .ref b :: S) x r x' :=
  k_virt2 hd hk hm hS hv hr k
theorem k_stat2s {a0 a1 : Value} {v : Value} {y : MethodName} {mt' : kMT} {idx : Nat} {x1 : X} (hd : kI mt pc (.invokestatic idx) 3 q) (hk : Cond.methodLink mt.1 idx y ∈ kWS) (hm : kMs y mt' 2) (hS : KSp w y mt' d [a0, a1] x (some v) x1) (hr : (S.map fun v => v.category).sum ≤ 8) (k : KAt w mt (d + 1) q L (v :: S) x1 r x') : KAt w mt (d + 1) pc L (a1 :: a0 :: S) x r x' :=
  k_stat2 hd hk hm hS hr k
theorem k_virt3v {a0 a1 a2 : Value} {y : MethodName} {mt' : kMT} {idx b : Nat} {x1 : X} (hd : kI mt pc (.invokevirtual idx) 3 q) (hk : Cond.methodLink mt.1 idx y ∈ kWS) (hm : kMv y mt' 3) (hS : KSp w y mt' d (.ref b :: [a0, a1, a2]) x none x1) (hv : kRcv w x b y.cls) (hr : (S.map fun v => v.category).sum ≤ 8) (k : KAt w mt (d + 1) q L S x1 r x') : KAt w mt (d + 1) pc L (a2 :: a1 :: a0 :: .ref b :: S) x r x' :=
  k_virt3 hd hk hm hS hv hr k
theorem k_stat3v {a0 a1 a2 : Value} {y : MethodName} {mt' : kMT} {idx : Nat} {x1 : X} (hd : kI mt pc (.invokestatic idx) 3 q) (hk : Cond.methodLink mt.1 idx y ∈ kWS) (hm : kMs y mt' 3) (hS : KSp w y mt' d [a0, a1, a2] x none x1) (hr : (S.map fun v => v.category).sum ≤ 8) (k : KAt w mt (d + 1) q L S x1 r x') : KAt w mt (d + 1) pc L (a2 :: a1 :: a0 :: S) x r x' :=
  k_stat3 hd hk hm hS hr k
theorem k_virt3s {a0 a1 a2 : Value} {v : Value} {y : MethodName} {mt' : kMT} {idx b : Nat} {x1 : X} (hd : kI mt pc (.invokevirtual idx) 3 q) (hk : Cond.methodLink mt.1 idx y ∈ kWS) (hm : kMv y mt' 3) (hS : KSp w y mt' d (.ref b :: [a0, a1, a2]) x (some v) x1) (hv : kRcv w x b y.cls) (hr : (S.map fun v => v.category).sum ≤ 8) (k : KAt w mt (d + 1) q L (v :: S) x1 r x') : KAt w mt (d + 1) pc L (a2 :: a1 :: a0 :: .ref b :: S) x r x' :=
  k_virt3 hd hk hm hS hv hr k
theorem k_stat3s {a0 a1 a2 : Value} {v : Value} {y : MethodName} {mt' : kMT} {idx : Nat} {x1 : X} (hd : kI mt pc (.invokestatic idx) 3 q) (hk : Cond.methodLink mt.1 idx y ∈ kWS) (hm : kMs y mt' 3) (hS : KSp w y mt' d [a0, a1, a2] x (some v) x1) (hr : (S.map fun v => v.category).sum ≤ 8) (k : KAt w mt (d + 1) q L (v :: S) x1 r x') : KAt w mt (d + 1) pc L (a2 :: a1 :: a0 :: S) x r x' :=
  k_stat3 hd hk hm hS hr k
theorem k_virt4v {a0 a1 a2 a3 : Value} {y : MethodName} {mt' : kMT} {idx b : Nat} {x1 : X} (hd : kI mt pc (.invokevirtual idx) 3 q) (hk : Cond.methodLink mt.1 idx y ∈ kWS) (hm : kMv y mt' 4) (hS : KSp w y mt' d (.ref b :: [a0, a1, a2, a3]) x none x1) (hv : kRcv w x b y.cls) (hr : (S.map fun v => v.category).sum ≤ 8) (k : KAt w mt (d + 1) q L S x1 r x') : KAt w mt (d + 1) pc L (a3 :: a2 :: a1 :: a0 :: .ref b :: S) x r x' :=
  k_virt4 hd hk hm hS hv hr k
theorem k_stat4v {a0 a1 a2 a3 : Value} {y : MethodName} {mt' : kMT} {idx : Nat} {x1 : X} (hd : kI mt pc (.invokestatic idx) 3 q) (hk : Cond.methodLink mt.1 idx y ∈ kWS) (hm : kMs y mt' 4) (hS : KSp w y mt' d [a0, a1, a2, a3] x none x1) (hr : (S.map fun v => v.category).sum ≤ 8) (k : KAt w mt (d + 1) q L S x1 r x') : KAt w mt (d + 1) pc L (a3 :: a2 :: a1 :: a0 :: S) x r x' :=
  k_stat4 hd hk hm hS hr k
theorem k_virt4s {a0 a1 a2 a3 : Value} {v : Value} {y : MethodName} {mt' : kMT} {idx b : Nat} {x1 : X} (hd : kI mt pc (.invokevirtual idx) 3 q) (hk : Cond.methodLink mt.1 idx y ∈ kWS) (hm : kMv y mt' 4) (hS : KSp w y mt' d (.ref b :: [a0, a1, a2, a3]) x (some v) x1) (hv : kRcv w x b y.cls) (hr : (S.map fun v => v.category).sum ≤ 8) (k : KAt w mt (d + 1) q L (v :: S) x1 r x') : KAt w mt (d + 1) pc L (a3 :: a2 :: a1 :: a0 :: .ref b :: S) x r x' :=
  k_virt4 hd hk hm hS hv hr k
theorem k_stat4s {a0 a1 a2 a3 : Value} {v : Value} {y : MethodName} {mt' : kMT} {idx : Nat} {x1 : X} (hd : kI mt pc (.invokestatic idx) 3 q) (hk : Cond.methodLink mt.1 idx y ∈ kWS) (hm : kMs y mt' 4) (hS : KSp w y mt' d [a0, a1, a2, a3] x (some v) x1) (hr : (S.map fun v => v.category).sum ≤ 8) (k : KAt w mt (d + 1) q L (v :: S) x1 r x') : KAt w mt (d + 1) pc L (a3 :: a2 :: a1 :: a0 :: S) x r x' :=
  k_stat4 hd hk hm hS hr k
theorem k_virt5v {a0 a1 a2 a3 a4 : Value} {y : MethodName} {mt' : kMT} {idx b : Nat} {x1 : X} (hd : kI mt pc (.invokevirtual idx) 3 q) (hk : Cond.methodLink mt.1 idx y ∈ kWS) (hm : kMv y mt' 5) (hS : KSp w y mt' d (.ref b :: [a0, a1, a2, a3, a4]) x none x1) (hv : kRcv w x b y.cls) (hr : (S.map fun v => v.category).sum ≤ 8) (k : KAt w mt (d + 1) q L S x1 r x') : KAt w mt (d + 1) pc L (a4 :: a3 :: a2 :: a1 :: a0 :: .ref b :: S) x r x' :=
  k_virt5 hd hk hm hS hv hr k
theorem k_stat5v {a0 a1 a2 a3 a4 : Value} {y : MethodName} {mt' : kMT} {idx : Nat} {x1 : X} (hd : kI mt pc (.invokestatic idx) 3 q) (hk : Cond.methodLink mt.1 idx y ∈ kWS) (hm : kMs y mt' 5) (hS : KSp w y mt' d [a0, a1, a2, a3, a4] x none x1) (hr : (S.map fun v => v.category).sum ≤ 8) (k : KAt w mt (d + 1) q L S x1 r x') : KAt w mt (d + 1) pc L (a4 :: a3 :: a2 :: a1 :: a0 :: S) x r x' :=
  k_stat5 hd hk hm hS hr k
theorem k_virt5s {a0 a1 a2 a3 a4 : Value} {v : Value} {y : MethodName} {mt' : kMT} {idx b : Nat} {x1 : X} (hd : kI mt pc (.invokevirtual idx) 3 q) (hk : Cond.methodLink mt.1 idx y ∈ kWS) (hm : kMv y mt' 5) (hS : KSp w y mt' d (.ref b :: [a0, a1, a2, a3, a4]) x (some v) x1) (hv : kRcv w x b y.cls) (hr : (S.map fun v => v.category).sum ≤ 8) (k : KAt w mt (d + 1) q L (v :: S) x1 r x') : KAt w mt (d + 1) pc L (a4 :: a3 :: a2 :: a1 :: a0 :: .ref b :: S) x r x' :=
  k_virt5 hd hk hm hS hv hr k
theorem k_stat5s {a0 a1 a2 a3 a4 : Value} {v : Value} {y : MethodName} {mt' : kMT} {idx : Nat} {x1 : X} (hd : kI mt pc (.invokestatic idx) 3 q) (hk : Cond.methodLink mt.1 idx y ∈ kWS) (hm : kMs y mt' 5) (hS : KSp w y mt' d [a0, a1, a2, a3, a4] x (some v) x1) (hr : (S.map fun v => v.category).sum ≤ 8) (k : KAt w mt (d + 1) q L (v :: S) x1 r x') : KAt w mt (d + 1) pc L (a4 :: a3 :: a2 :: a1 :: a0 :: S) x r x' :=
  k_stat5 hd hk hm hS hr k
theorem k_virt6v {a0 a1 a2 a3 a4 a5 : Value} {y : MethodName} {mt' : kMT} {idx b : Nat} {x1 : X} (hd : kI mt pc (.invokevirtual idx) 3 q) (hk : Cond.methodLink mt.1 idx y ∈ kWS) (hm : kMv y mt' 6) (hS : KSp w y mt' d (.ref b :: [a0, a1, a2, a3, a4, a5]) x none x1) (hv : kRcv w x b y.cls) (hr : (S.map fun v => v.category).sum ≤ 8) (k : KAt w mt (d + 1) q L S x1 r x') : KAt w mt (d + 1) pc L (a5 :: a4 :: a3 :: a2 :: a1 :: a0 :: .ref b :: S) x r x' :=
  k_virt6 hd hk hm hS hv hr k
theorem k_stat6v {a0 a1 a2 a3 a4 a5 : Value} {y : MethodName} {mt' : kMT} {idx : Nat} {x1 : X} (hd : kI mt pc (.invokestatic idx) 3 q) (hk : Cond.methodLink mt.1 idx y ∈ kWS) (hm : kMs y mt' 6) (hS : KSp w y mt' d [a0, a1, a2, a3, a4, a5] x none x1) (hr : (S.map fun v => v.category).sum ≤ 8) (k : KAt w mt (d + 1) q L S x1 r x') : KAt w mt (d + 1) pc L (a5 :: a4 :: a3 :: a2 :: a1 :: a0 :: S) x r x' :=
  k_stat6 hd hk hm hS hr k
theorem k_virt6s {a0 a1 a2 a3 a4 a5 : Value} {v : Value} {y : MethodName} {mt' : kMT} {idx b : Nat} {x1 : X} (hd : kI mt pc (.invokevirtual idx) 3 q) (hk : Cond.methodLink mt.1 idx y ∈ kWS) (hm : kMv y mt' 6) (hS : KSp w y mt' d (.ref b :: [a0, a1, a2, a3, a4, a5]) x (some v) x1) (hv : kRcv w x b y.cls) (hr : (S.map fun v => v.category).sum ≤ 8) (k : KAt w mt (d + 1) q L (v :: S) x1 r x') : KAt w mt (d + 1) pc L (a5 :: a4 :: a3 :: a2 :: a1 :: a0 :: .ref b :: S) x r x' :=
  k_virt6 hd hk hm hS hv hr k
theorem k_stat6s {a0 a1 a2 a3 a4 a5 : Value} {v : Value} {y : MethodName} {mt' : kMT} {idx : Nat} {x1 : X} (hd : kI mt pc (.invokestatic idx) 3 q) (hk : Cond.methodLink mt.1 idx y ∈ kWS) (hm : kMs y mt' 6) (hS : KSp w y mt' d [a0, a1, a2, a3, a4, a5] x (some v) x1) (hr : (S.map fun v => v.category).sum ≤ 8) (k : KAt w mt (d + 1) q L (v :: S) x1 r x') : KAt w mt (d + 1) pc L (a5 :: a4 :: a3 :: a2 :: a1 :: a0 :: S) x r x' :=
  k_stat6 hd hk hm hS hr k
end KRU
end
section
section KWO
abbrev kSt : Type := Nat → Nat → Int32
/-- a layout: how many cells; a cell's kind (below 10: an object of that class; 10: ints; 11: booleans; 12: rows); how many places it has; which of them are references, and to which cell -/
abbrev kLy : Type := Nat × (Nat → Nat) × (Nat → Nat) × (Nat → Nat → Option Nat)
def kVal (ly : kLy) (ad : Nat → Nat) (f : Nat → Int32) (k j : Nat) : Value := match ly.2.2.2 k j with
  | some t => .ref (ad t)
  | none => .int (f j)
def kEl (ly : kLy) (cI cB cT : ClassId) (ad : Nat → Nat) (f : Nat → Int32) (k : Nat) : va_E :=
  if ly.2.1 k = 10 then .inl (cI, ly.2.2.1 k, .inl f)
  else if ly.2.1 k = 11 then .inl (cB, ly.2.2.1 k, .inl f)
  else if ly.2.1 k = 12 then .inl (cT, ly.2.2.1 k, .inr (.inr (.inr (.inr (fun j => (ly.2.2.2 k j).map ad)))))
  else .inr (ly.2.1 k, (List.range (ly.2.2.1 k)).map (kVal ly ad f k))
def kCs (ly : kLy) (cI cB cT : ClassId) (ad : Nat → Nat) (u : kSt) : va_W := (List.range ly.1).map fun k => (ad k, kEl ly cI cB cT ad (u k) k)
def kB (ly : kLy) (D : va_G) (cI cB cT : ClassId) (ad : Nat → Nat) (u : kSt) (H : Heap) : Prop := va_P D kCl (kCs ly cI cB cT ad u) H ∧ ∀ i j, i < ly.1 → j < ly.1 → ad i = ad j → i = j
def kA (ly : kLy) (ad : Nat → Nat) : Nat → Prop := fun q => ∃ k, k < ly.1 ∧ q = ad k
/-- the world of a layout -/
def kWl (ly : kLy) (l : Launch) (D : va_G) (cI cB cT : ClassId) (ad : Nat → Nat) : kW kSt := (l, D, [(cI, .int), (cB, .boolean), (cT, .object kTh)], ad, kB ly D cI cB cT ad, kA ly ad)
def kup (u : kSt) (k j : Nat) (v : Int32) : kSt := fun a b => if a = k ∧ b = j then v else u a b
theorem kup_row (u : kSt) (k j : Nat) (v : Int32) : kup u k j v k = upd (u k) j v := by
  funext b
  simp [kup, upd]
theorem kup_ne (u : kSt) {k a : Nat} (j : Nat) (v : Int32) (h : a ≠ k) : kup u k j v a = u a := by
  funext b
  simp [kup, h]
theorem kup_eq (u : kSt) (k j : Nat) (v : Int32) : kup u k j v k j = v := by simp [kup]
theorem kCs_at {ly : kLy} {cI cB cT : ClassId} {ad : Nat → Nat} {u : kSt} {k : Nat} (hk : k < ly.1) : (kCs ly cI cB cT ad u)[k]? = some (ad k, kEl ly cI cB cT ad (u k) k) := by
  unfold kCs
  rw [List.getElem?_map, List.getElem?_range hk]
  rfl
theorem kCs_of {ly : kLy} {cI cB cT : ClassId} {ad : Nat → Nat} {u : kSt} {k : Nat} {q : Nat × va_E} (h : (kCs ly cI cB cT ad u)[k]? = some q) : k < ly.1 ∧ q = (ad k, kEl ly cI cB cT ad (u k) k) := by
  have h1 := (List.getElem?_eq_some_iff.mp h).1
  have h2 : k < ly.1 := by simpa [kCs] using h1
  rw [kCs_at h2] at h
  exact ⟨h2, (Option.some.inj h).symm⟩
theorem kCs_D {ly : kLy} {cI cB cT : ClassId} {ad : Nat → Nat} {u : kSt} {A : Nat → Prop} (hi : ∀ i j, i < ly.1 → j < ly.1 → ad i = ad j → i = j) (hA : ∀ q, kA ly ad q → A q) : va_D A (kCs ly cI cB cT ad u) := by
  refine ⟨fun i j p q h1 h2 h3 => ?_, fun k q h => ?_⟩
  · obtain ⟨g1, rfl⟩ := kCs_of h1
    obtain ⟨g2, rfl⟩ := kCs_of h2
    exact hi i j g1 g2 h3
  · obtain ⟨g1, rfl⟩ := kCs_of h
    exact hA _ ⟨k, g1, rfl⟩
theorem kCs_set {ly : kLy} {cI cB cT : ClassId} {ad : Nat → Nat} {u : kSt} {k j : Nat} {v : Int32} {e : va_E} (hk : k < ly.1) (he : e = kEl ly cI cB cT ad (upd (u k) j v) k) : (kCs ly cI cB cT ad u).set k (ad k, e) = kCs ly cI cB cT ad (kup u k j v) := by
  subst he
  apply List.ext_getElem?
  intro i
  by_cases hik : i = k
  · subst hik
    rw [List.getElem?_set_self (by simpa [kCs] using hk), kCs_at hk, kup_row]
  · rw [List.getElem?_set_ne (Ne.symm hik)]
    by_cases hi : i < ly.1
    · rw [kCs_at hi, kCs_at hi, kup_ne u j v hik]
    · rw [List.getElem?_eq_none (by simpa [kCs] using hi), List.getElem?_eq_none (by simpa [kCs] using hi)]
theorem kEl_i {ly : kLy} {cI cB cT : ClassId} {ad : Nat → Nat} {f : Nat → Int32} {k : Nat} (h : ly.2.1 k = 10) : kEl ly cI cB cT ad f k = .inl (cI, ly.2.2.1 k, .inl f) := by simp [kEl, h]
theorem kEl_b {ly : kLy} {cI cB cT : ClassId} {ad : Nat → Nat} {f : Nat → Int32} {k : Nat} (h : ly.2.1 k = 11) : kEl ly cI cB cT ad f k = .inl (cB, ly.2.2.1 k, .inl f) := by simp [kEl, h]
theorem kEl_q {ly : kLy} {cI cB cT : ClassId} {ad : Nat → Nat} {f : Nat → Int32} {k : Nat} (h : ly.2.1 k = 12) : kEl ly cI cB cT ad f k = .inl (cT, ly.2.2.1 k, .inr (.inr (.inr (.inr (fun j => (ly.2.2.2 k j).map ad))))) := by simp [kEl, h]
theorem kEl_o {ly : kLy} {cI cB cT : ClassId} {ad : Nat → Nat} {f : Nat → Int32} {k ci : Nat} (h : ly.2.1 k = ci) (hc : ci < 10) : kEl ly cI cB cT ad f k = .inr (ci, (List.range (ly.2.2.1 k)).map (kVal ly ad f k)) := by
  subst h
  unfold kEl
  rw [if_neg (by omega), if_neg (by omega), if_neg (by omega)]
/-- a field by its link: the class's number, the field's place -/
def kF (own : String) (idx ci j : Nat) : Prop := ∃ (C : String) (T : u_T) (N : Nat), kCl[ci]? = some (C, T, N) ∧ j < N ∧ Cond.fieldLink own idx (T j).1 (T j).2.1 (T j).2.2.1 ∈ kWS ∧ ∀ q ∈ u_ws C T N, q ∈ kWS
/-- a field that may be written -/
def kFp (own : String) (idx ci j : Nat) (ty : FieldType) : Prop := ∃ (C : String) (T : u_T) (N : Nat) (ty0 : Nat → FieldType), kCl[ci]? = some (C, T, N) ∧ j < N ∧ Cond.fieldLink own idx (T j).1 (T j).2.1 (T j).2.2.1 ∈ kWS ∧ (∀ q ∈ u_ws C T N, q ∈ kWS) ∧ (∀ k, k < N → parseFieldDescriptor (T k).2.2.1 = some (ty0 k)) ∧ (∀ a, a < N → ∀ b, b < N → a ≠ b → (T a).2.1 ≠ (T b).2.1) ∧ (T j).2.2.2 = false ∧ parseFieldDescriptor (T j).2.2.1 = some ty
variable {ly : kLy} {l : Launch} {D : va_G} {cI cB cT : ClassId} {ad : Nat → Nat} {mt : kMT} {d pc q : Nat} {L : List (Option Value)} {S : List Value} {u u' : kSt} {r : Option Value}
theorem k_getf {idx ci j k : Nat} (hd : kI mt pc (.getfield idx) 3 q) (hf : kF mt.1 idx ci j) (hk : k < ly.1) (hkd : ly.2.1 k = ci) (hc : ci < 10) (hj : j < ly.2.2.1 k) (hr : ly.2.2.2 k j = none) (kk : KAt (kWl ly l D cI cB cT ad) mt d q L (.int (u k j) :: S) u r u') : KAt (kWl ly l D cI cB cT ad) mt d pc L (.ref k :: S) u r u' := by
  intro p e R s m args below meth c H locs cells slots ls A h hB hS hl
  obtain ⟨C, T, N, h1, h2, h3, h4⟩ := hf
  have hat : (kCs ly cI cB cT ad u)[k]? = some (ad k, .inr (ci, (List.range (ly.2.2.1 k)).map (kVal ly ad (u k) k))) := by rw [kCs_at hk, kEl_o hkd hc]
  refine va_get (D := D) (ci := ci) (v := .int (u k j)) (C := C) (T := T) (N := N) h.1.1 h.1.2.1 h.1.2.2.2.2 h4 h.1.2.2.2.1 h.2.2.2.1 hB.1 k hat h1 j h2 (h.1.2.2.2.2 _ h3) (fun _ z => z) (by rw [List.getElem?_map, List.getElem?_range hj]; simp [kVal, hr]) hd.1 ?_
  rw [hd.2]
  exact kk _ _ _ _ _ _ _ _ _ _ _ _ _ _ _ h hB hS hl
theorem k_getr {idx ci j k t : Nat} (hd : kI mt pc (.getfield idx) 3 q) (hf : kF mt.1 idx ci j) (hk : k < ly.1) (hkd : ly.2.1 k = ci) (hc : ci < 10) (hj : j < ly.2.2.1 k) (hr : ly.2.2.2 k j = some t) (kk : KAt (kWl ly l D cI cB cT ad) mt d q L (.ref t :: S) u r u') : KAt (kWl ly l D cI cB cT ad) mt d pc L (.ref k :: S) u r u' := by
  intro p e R s m args below meth c H locs cells slots ls A h hB hS hl
  obtain ⟨C, T, N, h1, h2, h3, h4⟩ := hf
  have hat : (kCs ly cI cB cT ad u)[k]? = some (ad k, .inr (ci, (List.range (ly.2.2.1 k)).map (kVal ly ad (u k) k))) := by rw [kCs_at hk, kEl_o hkd hc]
  refine va_get (D := D) (ci := ci) (v := .ref (ad t)) (C := C) (T := T) (N := N) h.1.1 h.1.2.1 h.1.2.2.2.2 h4 h.1.2.2.2.1 h.2.2.2.1 hB.1 k hat h1 j h2 (h.1.2.2.2.2 _ h3) (fun _ z => z) (by rw [List.getElem?_map, List.getElem?_range hj]; simp [kVal, hr]) hd.1 ?_
  rw [hd.2]
  exact kk _ _ _ _ _ _ _ _ _ _ _ _ _ _ _ h hB hS hl
theorem k_putf {idx ci j k : Nat} {ty : FieldType} {v : Int32} (hd : kI mt pc (.putfield idx) 3 q) (hf : kFp mt.1 idx ci j ty) (hk : k < ly.1) (hkd : ly.2.1 k = ci) (hc : ci < 10) (hj : j < ly.2.2.1 k) (hr : ly.2.2.2 k j = none) (hn : narrow ty (.int v) = .int v) (hfit : fits ty (.int v) = true) (kk : KAt (kWl ly l D cI cB cT ad) mt d q L S (kup u k j v) r u') : KAt (kWl ly l D cI cB cT ad) mt d pc L (.int v :: .ref k :: S) u r u' := by
  intro p e R s m args below meth c H locs cells slots ls A h hB hS hl
  obtain ⟨C, T, N, ty0, h1, h2, h3, h4, h5, h6, h7, h8⟩ := hf
  have he : (Sum.inr (ci, ((List.range (ly.2.2.1 k)).map (kVal ly ad (u k) k)).set j (.int v)) : va_E) = kEl ly cI cB cT ad (upd (u k) j v) k := by
    rw [kEl_o hkd hc]
    congr 2
    apply List.ext_getElem?
    intro i
    by_cases hij : i = j
    · subst hij
      rw [List.getElem?_set_self (by simpa using hj), List.getElem?_map, List.getElem?_range hj]
      simp [kVal, hr, upd]
    · rw [List.getElem?_set_ne (Ne.symm hij), List.getElem?_map, List.getElem?_map]
      by_cases hi : i < ly.2.2.1 k
      · rw [List.getElem?_range hi]
        simp [kVal, upd, hij]
      · rw [List.getElem?_eq_none (by simpa using hi)]
        rfl
  have hat : (kCs ly cI cB cT ad u)[k]? = some (ad k, .inr (ci, (List.range (ly.2.2.1 k)).map (kVal ly ad (u k) k))) := by rw [kCs_at hk, kEl_o hkd hc]
  refine va_put (D := D) (ci := ci) (v := .int v) (ty := ty) (C := C) (T := T) (N := N) h.1.1 h.1.2.1 h.1.2.2.2.2 h4 ty0 h5 h6 h.1.2.2.2.1 h.2.2.2.1 hB.1 (kCs_D hB.2 h.2.2.2.2.2.2) hS k hat h1 j h2 (h.1.2.2.2.2 _ h3) (fun _ z => z) h7 h8 hn hfit (by simpa using hj) hd.1 (fun H1 locs1 hP _ hS1 => ?_)
  rw [hd.2]
  rw [kCs_set (j := j) (v := v) hk he] at hP
  exact kk _ _ _ _ _ _ _ _ _ _ _ _ _ _ _ h ⟨hP, hB.2⟩ hS1 hl
theorem k_iald {k : Nat} {i : Int32} (hd : kI mt pc .iaload 1 q) (hk : k < ly.1) (hkd : ly.2.1 k = 10) (hin : vp_in i (ly.2.2.1 k)) (kk : KAt (kWl ly l D cI cB cT ad) mt d q L (.int (u k i.toNatClampNeg) :: S) u r u') : KAt (kWl ly l D cI cB cT ad) mt d pc L (.int i :: .ref k :: S) u r u' := by
  intro p e R s m args below meth c H locs cells slots ls A h hB hS hl
  have hat : (kCs ly cI cB cT ad u)[k]? = some (ad k, .inl (cI, ly.2.2.1 k, .inl (u k))) := by rw [kCs_at hk, kEl_i hkd]
  refine va_iald h.1.1 h.1.2.1 h.2.2.2.1 hB.1 k 0 hat rfl hin hd.1 ?_
  rw [hd.2]
  exact kk _ _ _ _ _ _ _ _ _ _ _ _ _ _ _ h hB hS hl
theorem k_bald {k : Nat} {i : Int32} (hd : kI mt pc .baload 1 q) (hk : k < ly.1) (hkd : ly.2.1 k = 11) (hin : vp_in i (ly.2.2.1 k)) (kk : KAt (kWl ly l D cI cB cT ad) mt d q L (.int (u k i.toNatClampNeg) :: S) u r u') : KAt (kWl ly l D cI cB cT ad) mt d pc L (.int i :: .ref k :: S) u r u' := by
  intro p e R s m args below meth c H locs cells slots ls A h hB hS hl
  have hat : (kCs ly cI cB cT ad u)[k]? = some (ad k, .inl (cB, ly.2.2.1 k, .inl (u k))) := by rw [kCs_at hk, kEl_b hkd]
  refine va_zald h.1.1 h.1.2.1 h.2.2.2.1 hB.1 k 1 hat rfl hin hd.1 ?_
  rw [hd.2]
  exact kk _ _ _ _ _ _ _ _ _ _ _ _ _ _ _ h hB hS hl
theorem k_aald {k t : Nat} {i : Int32} (hd : kI mt pc .aaload 1 q) (hk : k < ly.1) (hkd : ly.2.1 k = 12) (hin : vp_in i (ly.2.2.1 k)) (ht : ly.2.2.2 k i.toNatClampNeg = some t) (kk : KAt (kWl ly l D cI cB cT ad) mt d q L (.ref t :: S) u r u') : KAt (kWl ly l D cI cB cT ad) mt d pc L (.int i :: .ref k :: S) u r u' := by
  intro p e R s m args below meth c H locs cells slots ls A h hB hS hl
  have hat : (kCs ly cI cB cT ad u)[k]? = some (ad k, .inl (cT, ly.2.2.1 k, .inr (.inr (.inr (.inr (fun j => (ly.2.2.2 k j).map ad)))))) := by rw [kCs_at hk, kEl_q hkd]
  refine va_aldq (C := kTh) h.1.1 h.1.2.1 h.2.2.2.1 hB.1 k 2 hat rfl hin hd.1 ?_
  rw [hd.2, ht]
  exact kk _ _ _ _ _ _ _ _ _ _ _ _ _ _ _ h hB hS hl
theorem k_alen {k : Nat} {v : Int32} (hd : kI mt pc .arraylength 1 q) (hk : k < ly.1) (hkd : ly.2.1 k = 12) (hv : Int32.ofNat (ly.2.2.1 k) = v) (kk : KAt (kWl ly l D cI cB cT ad) mt d q L (.int v :: S) u r u') : KAt (kWl ly l D cI cB cT ad) mt d pc L (.ref k :: S) u r u' := by
  intro p e R s m args below meth c H locs cells slots ls A h hB hS hl
  have hat : (kCs ly cI cB cT ad u)[k]? = some (ad k, .inl (cT, ly.2.2.1 k, .inr (.inr (.inr (.inr (fun j => (ly.2.2.2 k j).map ad)))))) := by rw [kCs_at hk, kEl_q hkd]
  refine va_alen (ty := .object kTh) (v := v) h.1.1 h.1.2.1 h.2.2.2.1 hB.1 k 2 hat rfl hv hd.1 ?_
  rw [hd.2]
  exact kk _ _ _ _ _ _ _ _ _ _ _ _ _ _ _ h hB hS hl
theorem k_iast {k : Nat} {i v : Int32} (hd : kI mt pc .iastore 1 q) (hk : k < ly.1) (hkd : ly.2.1 k = 10) (hin : vp_in i (ly.2.2.1 k)) (kk : KAt (kWl ly l D cI cB cT ad) mt d q L S (kup u k i.toNatClampNeg v) r u') : KAt (kWl ly l D cI cB cT ad) mt d pc L (.int v :: .int i :: .ref k :: S) u r u' := by
  intro p e R s m args below meth c H locs cells slots ls A h hB hS hl
  have hat : (kCs ly cI cB cT ad u)[k]? = some (ad k, .inl (cI, ly.2.2.1 k, .inl (u k))) := by rw [kCs_at hk, kEl_i hkd]
  refine va_iast h.1.1 h.1.2.1 h.2.2.2.1 hB.1 (kCs_D hB.2 h.2.2.2.2.2.2) hS k 0 hat rfl hin hd.1 (fun H1 locs1 hP _ hS1 => ?_)
  rw [hd.2]
  rw [kCs_set (j := i.toNatClampNeg) (v := v) hk (by rw [kEl_i hkd])] at hP
  exact kk _ _ _ _ _ _ _ _ _ _ _ _ _ _ _ h ⟨hP, hB.2⟩ hS1 hl
theorem k_bast {k : Nat} {i v : Int32} (hd : kI mt pc .bastore 1 q) (hk : k < ly.1) (hkd : ly.2.1 k = 11) (hin : vp_in i (ly.2.2.1 k)) (hn : vp_nar .boolean v = v) (kk : KAt (kWl ly l D cI cB cT ad) mt d q L S (kup u k i.toNatClampNeg v) r u') : KAt (kWl ly l D cI cB cT ad) mt d pc L (.int v :: .int i :: .ref k :: S) u r u' := by
  intro p e R s m args below meth c H locs cells slots ls A h hB hS hl
  have hat : (kCs ly cI cB cT ad u)[k]? = some (ad k, .inl (cB, ly.2.2.1 k, .inl (u k))) := by rw [kCs_at hk, kEl_b hkd]
  refine va_zast h.1.1 h.1.2.1 h.2.2.2.1 hB.1 (kCs_D hB.2 h.2.2.2.2.2.2) hS k 1 hat rfl hin hd.1 (fun H1 locs1 hP _ hS1 => ?_)
  rw [hd.2]
  rw [hn, kCs_set (j := i.toNatClampNeg) (v := v) hk (by rw [kEl_b hkd])] at hP
  exact kk _ _ _ _ _ _ _ _ _ _ _ _ _ _ _ h ⟨hP, hB.2⟩ hS1 hl
theorem kRcv_of {C : String} {T : u_T} {N ci k : Nat} (hk : k < ly.1) (hkd : ly.2.1 k = ci) (hc : ci < 10) (h1 : kCl[ci]? = some (C, T, N)) : kRcv (kWl ly l D cI cB cT ad) u k C := by
  intro H s hB hK
  have hat : (kCs ly cI cB cT ad u)[k]? = some (ad k, .inr (ci, (List.range (ly.2.2.1 k)).map (kVal ly ad (u k) k))) := by rw [kCs_at hk, kEl_o hkd hc]
  exact va_recv hK hB.1 h1 hat
end KWO
end
section
set_option maxRecDepth 20000 in
theorem g_K_spawn : kMv y_K_spawn m_K_spawn 2 := ⟨⟨(kIn 34 (by decide +kernel) rfl), (kIn 169 (by rfl) rfl), ⟨by decide +kernel, by decide +kernel, by decide +kernel⟩, by decide⟩, (kIn 167 (by decide +kernel) rfl), (kIn 168 (by decide +kernel) rfl)⟩
set_option maxRecDepth 20000 in
theorem g_K_delete : kMv y_K_delete m_K_delete 1 := ⟨⟨(kIn 34 (by decide +kernel) rfl), (kIn 184 (by rfl) rfl), ⟨by decide +kernel, by decide +kernel, by decide +kernel⟩, by decide⟩, (kIn 182 (by decide +kernel) rfl), (kIn 183 (by decide +kernel) rfl)⟩
set_option maxRecDepth 20000 in
theorem g_K_load : kMv y_K_load m_K_load 3 := ⟨⟨(kIn 34 (by decide +kernel) rfl), (kIn 200 (by rfl) rfl), ⟨by decide +kernel, by decide +kernel, by decide +kernel⟩, by decide⟩, (kIn 198 (by decide +kernel) rfl), (kIn 199 (by decide +kernel) rfl)⟩
set_option maxRecDepth 20000 in
theorem g_K_offer : kMv y_K_offer m_K_offer 4 := ⟨⟨(kIn 34 (by decide +kernel) rfl), (kIn 208 (by rfl) rfl), ⟨by decide +kernel, by decide +kernel, by decide +kernel⟩, by decide⟩, (kIn 206 (by decide +kernel) rfl), (kIn 207 (by decide +kernel) rfl)⟩
set_option maxRecDepth 20000 in
theorem g_K_window : kMv y_K_window m_K_window 2 := ⟨⟨(kIn 34 (by decide +kernel) rfl), (kIn 221 (by rfl) rfl), ⟨by decide +kernel, by decide +kernel, by decide +kernel⟩, by decide⟩, (kIn 219 (by decide +kernel) rfl), (kIn 220 (by decide +kernel) rfl)⟩
set_option maxRecDepth 20000 in
theorem g_K_send : kMv y_K_send m_K_send 3 := ⟨⟨(kIn 34 (by decide +kernel) rfl), (kIn 225 (by rfl) rfl), ⟨by decide +kernel, by decide +kernel, by decide +kernel⟩, by decide⟩, (kIn 223 (by decide +kernel) rfl), (kIn 224 (by decide +kernel) rfl)⟩
set_option maxRecDepth 20000 in
theorem g_K_call : kMv y_K_call m_K_call 3 := ⟨⟨(kIn 34 (by decide +kernel) rfl), (kIn 327 (by rfl) rfl), ⟨by decide +kernel, by decide +kernel, by decide +kernel⟩, by decide⟩, (kIn 325 (by decide +kernel) rfl), (kIn 326 (by decide +kernel) rfl)⟩
set_option maxRecDepth 20000 in
theorem g_K_receive : kMv y_K_receive m_K_receive 3 := ⟨⟨(kIn 34 (by decide +kernel) rfl), (kIn 331 (by rfl) rfl), ⟨by decide +kernel, by decide +kernel, by decide +kernel⟩, by decide⟩, (kIn 329 (by decide +kernel) rfl), (kIn 330 (by decide +kernel) rfl)⟩
set_option maxRecDepth 20000 in
theorem g_K_access : kMv y_K_access m_K_access 4 := ⟨⟨(kIn 34 (by decide +kernel) rfl), (kIn 347 (by rfl) rfl), ⟨by decide +kernel, by decide +kernel, by decide +kernel⟩, by decide⟩, (kIn 345 (by decide +kernel) rfl), (kIn 346 (by decide +kernel) rfl)⟩
set_option maxRecDepth 20000 in
theorem g_K_unmap : kMv y_K_unmap m_K_unmap 4 := ⟨⟨(kIn 34 (by decide +kernel) rfl), (kIn 351 (by rfl) rfl), ⟨by decide +kernel, by decide +kernel, by decide +kernel⟩, by decide⟩, (kIn 349 (by decide +kernel) rfl), (kIn 350 (by decide +kernel) rfl)⟩
set_option maxRecDepth 20000 in
theorem g_K_tick : kMv y_K_tick m_K_tick 0 := ⟨⟨(kIn 34 (by decide +kernel) rfl), (kIn 358 (by rfl) rfl), ⟨by decide +kernel, by decide +kernel, by decide +kernel⟩, by decide⟩, (kIn 356 (by decide +kernel) rfl), (kIn 357 (by decide +kernel) rfl)⟩
set_option maxRecDepth 20000 in
theorem g_K_state : kMv y_K_state m_K_state 1 := ⟨⟨(kIn 34 (by decide +kernel) rfl), (kIn 363 (by rfl) rfl), ⟨by decide +kernel, by decide +kernel, by decide +kernel⟩, by decide⟩, (kIn 361 (by decide +kernel) rfl), (kIn 362 (by decide +kernel) rfl)⟩
set_option maxRecDepth 20000 in
theorem g_K_register : kMv y_K_register m_K_register 2 := ⟨⟨(kIn 34 (by decide +kernel) rfl), (kIn 367 (by rfl) rfl), ⟨by decide +kernel, by decide +kernel, by decide +kernel⟩, by decide⟩, (kIn 365 (by decide +kernel) rfl), (kIn 366 (by decide +kernel) rfl)⟩
set_option maxRecDepth 20000 in
theorem g_K_outcome : kMv y_K_outcome m_K_outcome 1 := ⟨⟨(kIn 34 (by decide +kernel) rfl), (kIn 371 (by rfl) rfl), ⟨by decide +kernel, by decide +kernel, by decide +kernel⟩, by decide⟩, (kIn 369 (by decide +kernel) rfl), (kIn 370 (by decide +kernel) rfl)⟩
set_option maxRecDepth 20000 in
theorem g_K_value : kMv y_K_value m_K_value 1 := ⟨⟨(kIn 34 (by decide +kernel) rfl), (kIn 375 (by rfl) rfl), ⟨by decide +kernel, by decide +kernel, by decide +kernel⟩, by decide⟩, (kIn 373 (by decide +kernel) rfl), (kIn 374 (by decide +kernel) rfl)⟩
set_option maxRecDepth 20000 in
theorem g_K_sender : kMv y_K_sender m_K_sender 1 := ⟨⟨(kIn 34 (by decide +kernel) rfl), (kIn 379 (by rfl) rfl), ⟨by decide +kernel, by decide +kernel, by decide +kernel⟩, by decide⟩, (kIn 377 (by decide +kernel) rfl), (kIn 378 (by decide +kernel) rfl)⟩
set_option maxRecDepth 20000 in
theorem g_K_mapping : kMv y_K_mapping m_K_mapping 2 := ⟨⟨(kIn 34 (by decide +kernel) rfl), (kIn 383 (by rfl) rfl), ⟨by decide +kernel, by decide +kernel, by decide +kernel⟩, by decide⟩, (kIn 381 (by decide +kernel) rfl), (kIn 382 (by decide +kernel) rfl)⟩
set_option maxRecDepth 20000 in
theorem g_K_heirs : kMv y_K_heirs m_K_heirs 2 := ⟨⟨(kIn 34 (by decide +kernel) rfl), (kIn 391 (by rfl) rfl), ⟨by decide +kernel, by decide +kernel, by decide +kernel⟩, by decide⟩, (kIn 389 (by decide +kernel) rfl), (kIn 390 (by decide +kernel) rfl)⟩
set_option maxRecDepth 20000 in
theorem g_K_waiting : kMv y_K_waiting m_K_waiting 1 := ⟨⟨(kIn 34 (by decide +kernel) rfl), (kIn 399 (by rfl) rfl), ⟨by decide +kernel, by decide +kernel, by decide +kernel⟩, by decide⟩, (kIn 397 (by decide +kernel) rfl), (kIn 398 (by decide +kernel) rfl)⟩
set_option maxRecDepth 20000 in
theorem g_K_word : kMv y_K_word m_K_word 1 := ⟨⟨(kIn 34 (by decide +kernel) rfl), (kIn 403 (by rfl) rfl), ⟨by decide +kernel, by decide +kernel, by decide +kernel⟩, by decide⟩, (kIn 401 (by decide +kernel) rfl), (kIn 402 (by decide +kernel) rfl)⟩
set_option maxRecDepth 20000 in
theorem g_K_isThread : kMv y_K_isThread m_K_isThread 1 := ⟨⟨(kIn 34 (by decide +kernel) rfl), (kIn 176 (by rfl) rfl), ⟨by decide +kernel, by decide +kernel, by decide +kernel⟩, by decide⟩, (kIn 175 (by decide +kernel) rfl), (kIn 0 (by decide +kernel) rfl)⟩
set_option maxRecDepth 20000 in
theorem g_K_isRunning : kMv y_K_isRunning m_K_isRunning 1 := ⟨⟨(kIn 34 (by decide +kernel) rfl), (kIn 204 (by rfl) rfl), ⟨by decide +kernel, by decide +kernel, by decide +kernel⟩, by decide⟩, (kIn 203 (by decide +kernel) rfl), (kIn 2 (by decide +kernel) rfl)⟩
set_option maxRecDepth 20000 in
theorem g_K_maySend : kMv y_K_maySend m_K_maySend 3 := ⟨⟨(kIn 34 (by decide +kernel) rfl), (kIn 229 (by rfl) rfl), ⟨by decide +kernel, by decide +kernel, by decide +kernel⟩, by decide⟩, (kIn 228 (by decide +kernel) rfl), (kIn 3 (by decide +kernel) rfl)⟩
set_option maxRecDepth 20000 in
theorem g_K_isSpace : kMs y_K_isSpace m_K_isSpace 1 := ⟨⟨(kIn 34 (by decide +kernel) rfl), (kIn 172 (by rfl) rfl), ⟨by decide +kernel, by decide +kernel, by decide +kernel⟩, by decide⟩, (kIn 171 (by decide +kernel) rfl)⟩
set_option maxRecDepth 20000 in
theorem g_K_isPage : kMs y_K_isPage m_K_isPage 1 := ⟨⟨(kIn 34 (by decide +kernel) rfl), (kIn 214 (by rfl) rfl), ⟨by decide +kernel, by decide +kernel, by decide +kernel⟩, by decide⟩, (kIn 213 (by decide +kernel) rfl)⟩
set_option maxRecDepth 20000 in
theorem g_K_isPageOrNone : kMs y_K_isPageOrNone m_K_isPageOrNone 1 := ⟨⟨(kIn 34 (by decide +kernel) rfl), (kIn 211 (by rfl) rfl), ⟨by decide +kernel, by decide +kernel, by decide +kernel⟩, by decide⟩, (kIn 210 (by decide +kernel) rfl)⟩
set_option maxRecDepth 20000 in
theorem g_K_isLevel : kMs y_K_isLevel m_K_isLevel 1 := ⟨⟨(kIn 34 (by decide +kernel) rfl), (kIn 217 (by rfl) rfl), ⟨by decide +kernel, by decide +kernel, by decide +kernel⟩, by decide⟩, (kIn 216 (by decide +kernel) rfl)⟩
set_option maxRecDepth 20000 in
theorem g_K_isLimit : kMs y_K_isLimit m_K_isLimit 1 := ⟨⟨(kIn 34 (by decide +kernel) rfl), (kIn 232 (by rfl) rfl), ⟨by decide +kernel, by decide +kernel, by decide +kernel⟩, by decide⟩, (kIn 231 (by decide +kernel) rfl)⟩
set_option maxRecDepth 20000 in
theorem g_K_slotOf : kMs y_K_slotOf m_K_slotOf 2 := ⟨⟨(kIn 34 (by decide +kernel) rfl), (kIn 255 (by rfl) rfl), ⟨by decide +kernel, by decide +kernel, by decide +kernel⟩, by decide⟩, (kIn 254 (by decide +kernel) rfl)⟩
set_option maxRecDepth 20000 in
theorem g_K_deadline : kMv y_K_deadline m_K_deadline 1 := ⟨⟨(kIn 34 (by decide +kernel) rfl), (kIn 323 (by rfl) rfl), ⟨by decide +kernel, by decide +kernel, by decide +kernel⟩, by decide⟩, (kIn 322 (by decide +kernel) rfl), (kIn 12 (by decide +kernel) rfl)⟩
set_option maxRecDepth 20000 in
theorem g_K_leastFreeNumber : kMv y_K_leastFreeNumber m_K_leastFreeNumber 0 := ⟨⟨(kIn 34 (by decide +kernel) rfl), (kIn 180 (by rfl) rfl), ⟨by decide +kernel, by decide +kernel, by decide +kernel⟩, by decide⟩, (kIn 179 (by decide +kernel) rfl), (kIn 1 (by decide +kernel) rfl)⟩
set_option maxRecDepth 20000 in
theorem g_K_longestWaiting : kMv y_K_longestWaiting m_K_longestWaiting 2 := ⟨⟨(kIn 34 (by decide +kernel) rfl), (kIn 335 (by rfl) rfl), ⟨by decide +kernel, by decide +kernel, by decide +kernel⟩, by decide⟩, (kIn 334 (by decide +kernel) rfl), (kIn 13 (by decide +kernel) rfl)⟩
set_option maxRecDepth 20000 in
theorem g_K_waitToSend : kMv y_K_waitToSend m_K_waitToSend 4 := ⟨⟨(kIn 34 (by decide +kernel) rfl), (kIn 316 (by rfl) rfl), ⟨by decide +kernel, by decide +kernel, by decide +kernel⟩, by decide⟩, (kIn 315 (by decide +kernel) rfl), (kIn 11 (by decide +kernel) rfl)⟩
set_option maxRecDepth 20000 in
theorem g_K_giveUp : kMs y_K_giveUp m_K_giveUp 1 := ⟨⟨(kIn 34 (by decide +kernel) rfl), (kIn 319 (by rfl) rfl), ⟨by decide +kernel, by decide +kernel, by decide +kernel⟩, by decide⟩, (kIn 318 (by decide +kernel) rfl)⟩
set_option maxRecDepth 20000 in
theorem g_K_joinLine : kMv y_K_joinLine m_K_joinLine 4 := ⟨⟨(kIn 34 (by decide +kernel) rfl), (kIn 307 (by rfl) rfl), ⟨by decide +kernel, by decide +kernel, by decide +kernel⟩, by decide⟩, (kIn 306 (by decide +kernel) rfl), (kIn 9 (by decide +kernel) rfl)⟩
set_option maxRecDepth 20000 in
theorem g_K_takeWaitingMessage : kMv y_K_takeWaitingMessage m_K_takeWaitingMessage 2 := ⟨⟨(kIn 34 (by decide +kernel) rfl), (kIn 343 (by rfl) rfl), ⟨by decide +kernel, by decide +kernel, by decide +kernel⟩, by decide⟩, (kIn 342 (by decide +kernel) rfl), (kIn 14 (by decide +kernel) rfl)⟩
set_option maxRecDepth 20000 in
theorem g_K_passMessage : kMv y_K_passMessage m_K_passMessage 3 := ⟨⟨(kIn 34 (by decide +kernel) rfl), (kIn 244 (by rfl) rfl), ⟨by decide +kernel, by decide +kernel, by decide +kernel⟩, by decide⟩, (kIn 243 (by decide +kernel) rfl), (kIn 4 (by decide +kernel) rfl)⟩
set_option maxRecDepth 20000 in
theorem g_K_passOffer : kMv y_K_passOffer m_K_passOffer 2 := ⟨⟨(kIn 34 (by decide +kernel) rfl), (kIn 252 (by rfl) rfl), ⟨by decide +kernel, by decide +kernel, by decide +kernel⟩, by decide⟩, (kIn 251 (by decide +kernel) rfl), (kIn 5 (by decide +kernel) rfl)⟩
set_option maxRecDepth 20000 in
theorem g_K_passFault : kMv y_K_passFault m_K_passFault 2 := ⟨⟨(kIn 34 (by decide +kernel) rfl), (kIn 312 (by rfl) rfl), ⟨by decide +kernel, by decide +kernel, by decide +kernel⟩, by decide⟩, (kIn 311 (by decide +kernel) rfl), (kIn 10 (by decide +kernel) rfl)⟩
set_option maxRecDepth 20000 in
theorem g_K_tryAccess : kMv y_K_tryAccess m_K_tryAccess 1 := ⟨⟨(kIn 34 (by decide +kernel) rfl), (kIn 295 (by rfl) rfl), ⟨by decide +kernel, by decide +kernel, by decide +kernel⟩, by decide⟩, (kIn 294 (by decide +kernel) rfl), (kIn 6 (by decide +kernel) rfl)⟩
set_option maxRecDepth 20000 in
theorem g_K_doAccess : kMv y_K_doAccess m_K_doAccess 2 := ⟨⟨(kIn 34 (by decide +kernel) rfl), (kIn 299 (by rfl) rfl), ⟨by decide +kernel, by decide +kernel, by decide +kernel⟩, by decide⟩, (kIn 298 (by decide +kernel) rfl), (kIn 7 (by decide +kernel) rfl)⟩
set_option maxRecDepth 20000 in
theorem g_K_fault : kMv y_K_fault m_K_fault 2 := ⟨⟨(kIn 34 (by decide +kernel) rfl), (kIn 303 (by rfl) rfl), ⟨by decide +kernel, by decide +kernel, by decide +kernel⟩, by decide⟩, (kIn 302 (by decide +kernel) rfl), (kIn 8 (by decide +kernel) rfl)⟩
set_option maxRecDepth 20000 in
theorem g_P_holds : kMv y_P_holds m_P_holds 1 := ⟨⟨(kIn 35 (by decide +kernel) rfl), (kIn 263 (by rfl) rfl), ⟨by decide +kernel, by decide +kernel, by decide +kernel⟩, by decide⟩, (kIn 261 (by decide +kernel) rfl), (kIn 262 (by decide +kernel) rfl)⟩
set_option maxRecDepth 20000 in
theorem g_P_describe : kMv y_P_describe m_P_describe 1 := ⟨⟨(kIn 35 (by decide +kernel) rfl), (kIn 387 (by rfl) rfl), ⟨by decide +kernel, by decide +kernel, by decide +kernel⟩, by decide⟩, (kIn 385 (by decide +kernel) rfl), (kIn 386 (by decide +kernel) rfl)⟩
set_option maxRecDepth 20000 in
theorem g_P_descends : kMv y_P_descends m_P_descends 2 := ⟨⟨(kIn 35 (by decide +kernel) rfl), (kIn 271 (by rfl) rfl), ⟨by decide +kernel, by decide +kernel, by decide +kernel⟩, by decide⟩, (kIn 269 (by decide +kernel) rfl), (kIn 270 (by decide +kernel) rfl)⟩
set_option maxRecDepth 20000 in
theorem g_P_countDescendants : kMv y_P_countDescendants m_P_countDescendants 1 := ⟨⟨(kIn 35 (by decide +kernel) rfl), (kIn 395 (by rfl) rfl), ⟨by decide +kernel, by decide +kernel, by decide +kernel⟩, by decide⟩, (kIn 393 (by decide +kernel) rfl), (kIn 394 (by decide +kernel) rfl)⟩
set_option maxRecDepth 20000 in
theorem g_P_lowerDescendants : kMv y_P_lowerDescendants m_P_lowerDescendants 2 := ⟨⟨(kIn 35 (by decide +kernel) rfl), (kIn 267 (by rfl) rfl), ⟨by decide +kernel, by decide +kernel, by decide +kernel⟩, by decide⟩, (kIn 265 (by decide +kernel) rfl), (kIn 266 (by decide +kernel) rfl)⟩
set_option maxRecDepth 20000 in
theorem g_P_lower : kMv y_P_lower m_P_lower 2 := ⟨⟨(kIn 35 (by decide +kernel) rfl), (kIn 275 (by rfl) rfl), ⟨by decide +kernel, by decide +kernel, by decide +kernel⟩, by decide⟩, (kIn 273 (by decide +kernel) rfl), (kIn 274 (by decide +kernel) rfl)⟩
set_option maxRecDepth 20000 in
theorem g_P_handOn : kMv y_P_handOn m_P_handOn 4 := ⟨⟨(kIn 35 (by decide +kernel) rfl), (kIn 259 (by rfl) rfl), ⟨by decide +kernel, by decide +kernel, by decide +kernel⟩, by decide⟩, (kIn 257 (by decide +kernel) rfl), (kIn 258 (by decide +kernel) rfl)⟩
set_option maxRecDepth 20000 in
theorem g_P_move : kMv y_P_move m_P_move 2 := ⟨⟨(kIn 35 (by decide +kernel) rfl), (kIn 279 (by rfl) rfl), ⟨by decide +kernel, by decide +kernel, by decide +kernel⟩, by decide⟩, (kIn 277 (by decide +kernel) rfl), (kIn 278 (by decide +kernel) rfl)⟩
set_option maxRecDepth 20000 in
theorem g_P_derive : kMv y_P_derive m_P_derive 3 := ⟨⟨(kIn 35 (by decide +kernel) rfl), (kIn 286 (by rfl) rfl), ⟨by decide +kernel, by decide +kernel, by decide +kernel⟩, by decide⟩, (kIn 284 (by decide +kernel) rfl), (kIn 285 (by decide +kernel) rfl)⟩
set_option maxRecDepth 20000 in
theorem g_H_begin : kMv y_H_begin m_H_begin 2 := ⟨⟨(kIn 36 (by decide +kernel) rfl), (kIn 149 (by rfl) rfl), ⟨by decide +kernel, by decide +kernel, by decide +kernel⟩, by decide⟩, (kIn 147 (by decide +kernel) rfl), (kIn 148 (by decide +kernel) rfl)⟩
set_option maxRecDepth 20000 in
theorem g_H_run : kMv y_H_run m_H_run 1 := ⟨⟨(kIn 36 (by decide +kernel) rfl), (kIn 196 (by rfl) rfl), ⟨by decide +kernel, by decide +kernel, by decide +kernel⟩, by decide⟩, (kIn 194 (by decide +kernel) rfl), (kIn 195 (by decide +kernel) rfl)⟩
set_option maxRecDepth 20000 in
theorem g_H_waitFor : kMv y_H_waitFor m_H_waitFor 3 := ⟨⟨(kIn 36 (by decide +kernel) rfl), (kIn 290 (by rfl) rfl), ⟨by decide +kernel, by decide +kernel, by decide +kernel⟩, by decide⟩, (kIn 288 (by decide +kernel) rfl), (kIn 289 (by decide +kernel) rfl)⟩
set_option maxRecDepth 20000 in
theorem g_H_take : kMv y_H_take m_H_take 5 := ⟨⟨(kIn 36 (by decide +kernel) rfl), (kIn 248 (by rfl) rfl), ⟨by decide +kernel, by decide +kernel, by decide +kernel⟩, by decide⟩, (kIn 246 (by decide +kernel) rfl), (kIn 247 (by decide +kernel) rfl)⟩
set_option maxRecDepth 20000 in
theorem g_H_outlive : kMv y_H_outlive m_H_outlive 1 := ⟨⟨(kIn 36 (by decide +kernel) rfl), (kIn 188 (by rfl) rfl), ⟨by decide +kernel, by decide +kernel, by decide +kernel⟩, by decide⟩, (kIn 186 (by decide +kernel) rfl), (kIn 187 (by decide +kernel) rfl)⟩
set_option maxRecDepth 20000 in
theorem g_H_waitsForThread : kMv y_H_waitsForThread m_H_waitsForThread 0 := ⟨⟨(kIn 36 (by decide +kernel) rfl), (kIn 192 (by rfl) rfl), ⟨by decide +kernel, by decide +kernel, by decide +kernel⟩, by decide⟩, (kIn 190 (by decide +kernel) rfl), (kIn 191 (by decide +kernel) rfl)⟩
set_option maxRecDepth 20000 in
theorem g_H_waitsToSendTo : kMv y_H_waitsToSendTo m_H_waitsToSendTo 1 := ⟨⟨(kIn 36 (by decide +kernel) rfl), (kIn 339 (by rfl) rfl), ⟨by decide +kernel, by decide +kernel, by decide +kernel⟩, by decide⟩, (kIn 337 (by decide +kernel) rfl), (kIn 338 (by decide +kernel) rfl)⟩
set_option maxRecDepth 20000 in
theorem g_H_receivesFrom : kMv y_H_receivesFrom m_H_receivesFrom 1 := ⟨⟨(kIn 36 (by decide +kernel) rfl), (kIn 240 (by rfl) rfl), ⟨by decide +kernel, by decide +kernel, by decide +kernel⟩, by decide⟩, (kIn 238 (by decide +kernel) rfl), (kIn 239 (by decide +kernel) rfl)⟩
set_option maxRecDepth 20000 in
theorem g_H_takesFrom : kMv y_H_takesFrom m_H_takesFrom 1 := ⟨⟨(kIn 36 (by decide +kernel) rfl), (kIn 236 (by rfl) rfl), ⟨by decide +kernel, by decide +kernel, by decide +kernel⟩, by decide⟩, (kIn 234 (by decide +kernel) rfl), (kIn 235 (by decide +kernel) rfl)⟩
set_option maxRecDepth 20000 in
theorem g_R_begin : kMv y_R_begin m_R_begin 3 := ⟨⟨(kIn 37 (by decide +kernel) rfl), (kIn 413 (by rfl) rfl), ⟨by decide +kernel, by decide +kernel, by decide +kernel⟩, by decide⟩, (kIn 412 (by decide +kernel) rfl), (kIn 15 (by decide +kernel) rfl)⟩
set_option maxRecDepth 20000 in
theorem g_R_thread : kMv y_R_thread m_R_thread 1 := ⟨⟨(kIn 37 (by decide +kernel) rfl), (kIn 501 (by rfl) rfl), ⟨by decide +kernel, by decide +kernel, by decide +kernel⟩, by decide⟩, (kIn 500 (by decide +kernel) rfl), (kIn 16 (by decide +kernel) rfl)⟩
set_option maxRecDepth 20000 in
theorem g_R_running : kMv y_R_running m_R_running 1 := ⟨⟨(kIn 37 (by decide +kernel) rfl), (kIn 517 (by rfl) rfl), ⟨by decide +kernel, by decide +kernel, by decide +kernel⟩, by decide⟩, (kIn 516 (by decide +kernel) rfl), (kIn 18 (by decide +kernel) rfl)⟩
set_option maxRecDepth 20000 in
theorem g_R_run : kMv y_R_run m_R_run 2 := ⟨⟨(kIn 37 (by decide +kernel) rfl), (kIn 509 (by rfl) rfl), ⟨by decide +kernel, by decide +kernel, by decide +kernel⟩, by decide⟩, (kIn 508 (by decide +kernel) rfl), (kIn 17 (by decide +kernel) rfl)⟩
set_option maxRecDepth 20000 in
theorem g_R_linger : kMv y_R_linger m_R_linger 4 := ⟨⟨(kIn 37 (by decide +kernel) rfl), (kIn 565 (by rfl) rfl), ⟨by decide +kernel, by decide +kernel, by decide +kernel⟩, by decide⟩, (kIn 564 (by decide +kernel) rfl), (kIn 27 (by decide +kernel) rfl)⟩
set_option maxRecDepth 20000 in
theorem g_R_spawn : kMv y_R_spawn m_R_spawn 2 := ⟨⟨(kIn 37 (by decide +kernel) rfl), (kIn 497 (by rfl) rfl), ⟨by decide +kernel, by decide +kernel, by decide +kernel⟩, by decide⟩, (kIn 495 (by decide +kernel) rfl), (kIn 496 (by decide +kernel) rfl)⟩
set_option maxRecDepth 20000 in
theorem g_R_delete : kMv y_R_delete m_R_delete 1 := ⟨⟨(kIn 37 (by decide +kernel) rfl), (kIn 505 (by rfl) rfl), ⟨by decide +kernel, by decide +kernel, by decide +kernel⟩, by decide⟩, (kIn 503 (by decide +kernel) rfl), (kIn 504 (by decide +kernel) rfl)⟩
set_option maxRecDepth 20000 in
theorem g_R_load : kMv y_R_load m_R_load 3 := ⟨⟨(kIn 37 (by decide +kernel) rfl), (kIn 513 (by rfl) rfl), ⟨by decide +kernel, by decide +kernel, by decide +kernel⟩, by decide⟩, (kIn 511 (by decide +kernel) rfl), (kIn 512 (by decide +kernel) rfl)⟩
set_option maxRecDepth 20000 in
theorem g_R_offer : kMv y_R_offer m_R_offer 4 := ⟨⟨(kIn 37 (by decide +kernel) rfl), (kIn 521 (by rfl) rfl), ⟨by decide +kernel, by decide +kernel, by decide +kernel⟩, by decide⟩, (kIn 519 (by decide +kernel) rfl), (kIn 520 (by decide +kernel) rfl)⟩
set_option maxRecDepth 20000 in
theorem g_R_window : kMv y_R_window m_R_window 2 := ⟨⟨(kIn 37 (by decide +kernel) rfl), (kIn 525 (by rfl) rfl), ⟨by decide +kernel, by decide +kernel, by decide +kernel⟩, by decide⟩, (kIn 523 (by decide +kernel) rfl), (kIn 524 (by decide +kernel) rfl)⟩
set_option maxRecDepth 20000 in
theorem g_R_descends : kMv y_R_descends m_R_descends 2 := ⟨⟨(kIn 37 (by decide +kernel) rfl), (kIn 557 (by rfl) rfl), ⟨by decide +kernel, by decide +kernel, by decide +kernel⟩, by decide⟩, (kIn 556 (by decide +kernel) rfl), (kIn 25 (by decide +kernel) rfl)⟩
set_option maxRecDepth 20000 in
theorem g_R_descendants : kMv y_R_descendants m_R_descendants 1 := ⟨⟨(kIn 37 (by decide +kernel) rfl), (kIn 633 (by rfl) rfl), ⟨by decide +kernel, by decide +kernel, by decide +kernel⟩, by decide⟩, (kIn 632 (by decide +kernel) rfl), (kIn 32 (by decide +kernel) rfl)⟩
set_option maxRecDepth 20000 in
theorem g_R_removeBelow : kMv y_R_removeBelow m_R_removeBelow 1 := ⟨⟨(kIn 37 (by decide +kernel) rfl), (kIn 553 (by rfl) rfl), ⟨by decide +kernel, by decide +kernel, by decide +kernel⟩, by decide⟩, (kIn 552 (by decide +kernel) rfl), (kIn 24 (by decide +kernel) rfl)⟩
set_option maxRecDepth 20000 in
theorem g_R_handOn : kMv y_R_handOn m_R_handOn 3 := ⟨⟨(kIn 37 (by decide +kernel) rfl), (kIn 549 (by rfl) rfl), ⟨by decide +kernel, by decide +kernel, by decide +kernel⟩, by decide⟩, (kIn 548 (by decide +kernel) rfl), (kIn 23 (by decide +kernel) rfl)⟩
set_option maxRecDepth 20000 in
theorem g_R_move : kMv y_R_move m_R_move 2 := ⟨⟨(kIn 37 (by decide +kernel) rfl), (kIn 561 (by rfl) rfl), ⟨by decide +kernel, by decide +kernel, by decide +kernel⟩, by decide⟩, (kIn 560 (by decide +kernel) rfl), (kIn 26 (by decide +kernel) rfl)⟩
set_option maxRecDepth 20000 in
theorem g_R_take : kMv y_R_take m_R_take 6 := ⟨⟨(kIn 37 (by decide +kernel) rfl), (kIn 545 (by rfl) rfl), ⟨by decide +kernel, by decide +kernel, by decide +kernel⟩, by decide⟩, (kIn 544 (by decide +kernel) rfl), (kIn 22 (by decide +kernel) rfl)⟩
set_option maxRecDepth 20000 in
theorem g_R_message : kMv y_R_message m_R_message 3 := ⟨⟨(kIn 37 (by decide +kernel) rfl), (kIn 541 (by rfl) rfl), ⟨by decide +kernel, by decide +kernel, by decide +kernel⟩, by decide⟩, (kIn 540 (by decide +kernel) rfl), (kIn 21 (by decide +kernel) rfl)⟩
set_option maxRecDepth 20000 in
theorem g_R_report : kMv y_R_report m_R_report 1 := ⟨⟨(kIn 37 (by decide +kernel) rfl), (kIn 573 (by rfl) rfl), ⟨by decide +kernel, by decide +kernel, by decide +kernel⟩, by decide⟩, (kIn 572 (by decide +kernel) rfl), (kIn 29 (by decide +kernel) rfl)⟩
set_option maxRecDepth 20000 in
theorem g_R_attempt : kMv y_R_attempt m_R_attempt 1 := ⟨⟨(kIn 37 (by decide +kernel) rfl), (kIn 569 (by rfl) rfl), ⟨by decide +kernel, by decide +kernel, by decide +kernel⟩, by decide⟩, (kIn 568 (by decide +kernel) rfl), (kIn 28 (by decide +kernel) rfl)⟩
set_option maxRecDepth 20000 in
theorem g_R_takes : kMv y_R_takes m_R_takes 2 := ⟨⟨(kIn 37 (by decide +kernel) rfl), (kIn 537 (by rfl) rfl), ⟨by decide +kernel, by decide +kernel, by decide +kernel⟩, by decide⟩, (kIn 536 (by decide +kernel) rfl), (kIn 20 (by decide +kernel) rfl)⟩
set_option maxRecDepth 20000 in
theorem g_R_speak : kMv y_R_speak m_R_speak 4 := ⟨⟨(kIn 37 (by decide +kernel) rfl), (kIn 533 (by rfl) rfl), ⟨by decide +kernel, by decide +kernel, by decide +kernel⟩, by decide⟩, (kIn 532 (by decide +kernel) rfl), (kIn 19 (by decide +kernel) rfl)⟩
set_option maxRecDepth 20000 in
theorem g_R_send : kMv y_R_send m_R_send 3 := ⟨⟨(kIn 37 (by decide +kernel) rfl), (kIn 529 (by rfl) rfl), ⟨by decide +kernel, by decide +kernel, by decide +kernel⟩, by decide⟩, (kIn 527 (by decide +kernel) rfl), (kIn 528 (by decide +kernel) rfl)⟩
set_option maxRecDepth 20000 in
theorem g_R_call : kMv y_R_call m_R_call 3 := ⟨⟨(kIn 37 (by decide +kernel) rfl), (kIn 577 (by rfl) rfl), ⟨by decide +kernel, by decide +kernel, by decide +kernel⟩, by decide⟩, (kIn 575 (by decide +kernel) rfl), (kIn 576 (by decide +kernel) rfl)⟩
set_option maxRecDepth 20000 in
theorem g_R_waitsFor : kMv y_R_waitsFor m_R_waitsFor 2 := ⟨⟨(kIn 37 (by decide +kernel) rfl), (kIn 585 (by rfl) rfl), ⟨by decide +kernel, by decide +kernel, by decide +kernel⟩, by decide⟩, (kIn 584 (by decide +kernel) rfl), (kIn 30 (by decide +kernel) rfl)⟩
set_option maxRecDepth 20000 in
theorem g_R_receive : kMv y_R_receive m_R_receive 3 := ⟨⟨(kIn 37 (by decide +kernel) rfl), (kIn 581 (by rfl) rfl), ⟨by decide +kernel, by decide +kernel, by decide +kernel⟩, by decide⟩, (kIn 579 (by decide +kernel) rfl), (kIn 580 (by decide +kernel) rfl)⟩
set_option maxRecDepth 20000 in
theorem g_R_access : kMv y_R_access m_R_access 4 := ⟨⟨(kIn 37 (by decide +kernel) rfl), (kIn 589 (by rfl) rfl), ⟨by decide +kernel, by decide +kernel, by decide +kernel⟩, by decide⟩, (kIn 587 (by decide +kernel) rfl), (kIn 588 (by decide +kernel) rfl)⟩
set_option maxRecDepth 20000 in
theorem g_R_unmap : kMv y_R_unmap m_R_unmap 4 := ⟨⟨(kIn 37 (by decide +kernel) rfl), (kIn 593 (by rfl) rfl), ⟨by decide +kernel, by decide +kernel, by decide +kernel⟩, by decide⟩, (kIn 591 (by decide +kernel) rfl), (kIn 592 (by decide +kernel) rfl)⟩
set_option maxRecDepth 20000 in
theorem g_R_tick : kMv y_R_tick m_R_tick 0 := ⟨⟨(kIn 37 (by decide +kernel) rfl), (kIn 597 (by rfl) rfl), ⟨by decide +kernel, by decide +kernel, by decide +kernel⟩, by decide⟩, (kIn 595 (by decide +kernel) rfl), (kIn 596 (by decide +kernel) rfl)⟩
set_option maxRecDepth 20000 in
theorem g_R_state : kMv y_R_state m_R_state 1 := ⟨⟨(kIn 37 (by decide +kernel) rfl), (kIn 601 (by rfl) rfl), ⟨by decide +kernel, by decide +kernel, by decide +kernel⟩, by decide⟩, (kIn 599 (by decide +kernel) rfl), (kIn 600 (by decide +kernel) rfl)⟩
set_option maxRecDepth 20000 in
theorem g_R_register : kMv y_R_register m_R_register 2 := ⟨⟨(kIn 37 (by decide +kernel) rfl), (kIn 605 (by rfl) rfl), ⟨by decide +kernel, by decide +kernel, by decide +kernel⟩, by decide⟩, (kIn 603 (by decide +kernel) rfl), (kIn 604 (by decide +kernel) rfl)⟩
set_option maxRecDepth 20000 in
theorem g_R_outcome : kMv y_R_outcome m_R_outcome 1 := ⟨⟨(kIn 37 (by decide +kernel) rfl), (kIn 609 (by rfl) rfl), ⟨by decide +kernel, by decide +kernel, by decide +kernel⟩, by decide⟩, (kIn 607 (by decide +kernel) rfl), (kIn 608 (by decide +kernel) rfl)⟩
set_option maxRecDepth 20000 in
theorem g_R_value : kMv y_R_value m_R_value 1 := ⟨⟨(kIn 37 (by decide +kernel) rfl), (kIn 613 (by rfl) rfl), ⟨by decide +kernel, by decide +kernel, by decide +kernel⟩, by decide⟩, (kIn 611 (by decide +kernel) rfl), (kIn 612 (by decide +kernel) rfl)⟩
set_option maxRecDepth 20000 in
theorem g_R_sender : kMv y_R_sender m_R_sender 1 := ⟨⟨(kIn 37 (by decide +kernel) rfl), (kIn 617 (by rfl) rfl), ⟨by decide +kernel, by decide +kernel, by decide +kernel⟩, by decide⟩, (kIn 615 (by decide +kernel) rfl), (kIn 616 (by decide +kernel) rfl)⟩
set_option maxRecDepth 20000 in
theorem g_R_place : kMv y_R_place m_R_place 2 := ⟨⟨(kIn 37 (by decide +kernel) rfl), (kIn 625 (by rfl) rfl), ⟨by decide +kernel, by decide +kernel, by decide +kernel⟩, by decide⟩, (kIn 624 (by decide +kernel) rfl), (kIn 31 (by decide +kernel) rfl)⟩
set_option maxRecDepth 20000 in
theorem g_R_mapping : kMv y_R_mapping m_R_mapping 2 := ⟨⟨(kIn 37 (by decide +kernel) rfl), (kIn 621 (by rfl) rfl), ⟨by decide +kernel, by decide +kernel, by decide +kernel⟩, by decide⟩, (kIn 619 (by decide +kernel) rfl), (kIn 620 (by decide +kernel) rfl)⟩
set_option maxRecDepth 20000 in
theorem g_R_heirs : kMv y_R_heirs m_R_heirs 2 := ⟨⟨(kIn 37 (by decide +kernel) rfl), (kIn 629 (by rfl) rfl), ⟨by decide +kernel, by decide +kernel, by decide +kernel⟩, by decide⟩, (kIn 627 (by decide +kernel) rfl), (kIn 628 (by decide +kernel) rfl)⟩
set_option maxRecDepth 20000 in
theorem g_R_waiting : kMv y_R_waiting m_R_waiting 1 := ⟨⟨(kIn 37 (by decide +kernel) rfl), (kIn 637 (by rfl) rfl), ⟨by decide +kernel, by decide +kernel, by decide +kernel⟩, by decide⟩, (kIn 635 (by decide +kernel) rfl), (kIn 636 (by decide +kernel) rfl)⟩
set_option maxRecDepth 20000 in
theorem g_R_word : kMv y_R_word m_R_word 1 := ⟨⟨(kIn 37 (by decide +kernel) rfl), (kIn 641 (by rfl) rfl), ⟨by decide +kernel, by decide +kernel, by decide +kernel⟩, by decide⟩, (kIn 639 (by decide +kernel) rfl), (kIn 640 (by decide +kernel) rfl)⟩
theorem l_L_9 : Cond.methodLink "PagerKernelLaw" 9 y_K_init ∈ kWS := kIn 41 (by decide +kernel) rfl
theorem l_K_17 : Cond.methodLink "PagerKernel" 17 y_P_init ∈ kWS := kIn 51 (by decide +kernel) rfl
theorem f_P_9 : kF "PagerKernel$MappingTree" 9 1 0 := ⟨R_P, F_P, 4, rfl, by decide, (kIn 55 (by decide +kernel) rfl), uw_P⟩
theorem f_K_206 : kF "PagerKernel" 206 1 0 := ⟨R_P, F_P, 4, rfl, by decide, (kIn 56 (by decide +kernel) rfl), uw_P⟩
theorem f_P_15 : kF "PagerKernel$MappingTree" 15 1 1 := ⟨R_P, F_P, 4, rfl, by decide, (kIn 57 (by decide +kernel) rfl), uw_P⟩
theorem f_K_209 : kF "PagerKernel" 209 1 1 := ⟨R_P, F_P, 4, rfl, by decide, (kIn 58 (by decide +kernel) rfl), uw_P⟩
theorem f_P_18 : kF "PagerKernel$MappingTree" 18 1 2 := ⟨R_P, F_P, 4, rfl, by decide, (kIn 59 (by decide +kernel) rfl), uw_P⟩
theorem f_P_21 : kF "PagerKernel$MappingTree" 21 1 3 := ⟨R_P, F_P, 4, rfl, by decide, (kIn 60 (by decide +kernel) rfl), uw_P⟩
theorem l_K_33 : Cond.methodLink "PagerKernel" 33 y_H_init ∈ kWS := kIn 72 (by decide +kernel) rfl
theorem f_H_19 : kF "PagerKernel$KernelThread" 19 2 0 := ⟨R_H, F_H, 19, rfl, by decide, (kIn 76 (by decide +kernel) rfl), uw_H⟩
theorem f_K_182 : kF "PagerKernel" 182 2 0 := ⟨R_H, F_H, 19, rfl, by decide, (kIn 77 (by decide +kernel) rfl), uw_H⟩
theorem f_H_9 : kF "PagerKernel$KernelThread" 9 2 1 := ⟨R_H, F_H, 19, rfl, by decide, (kIn 78 (by decide +kernel) rfl), uw_H⟩
theorem f_K_60 : kF "PagerKernel" 60 2 1 := ⟨R_H, F_H, 19, rfl, by decide, (kIn 79 (by decide +kernel) rfl), uw_H⟩
theorem f_H_15 : kF "PagerKernel$KernelThread" 15 2 2 := ⟨R_H, F_H, 19, rfl, by decide, (kIn 80 (by decide +kernel) rfl), uw_H⟩
theorem p_H_15 : kFp "PagerKernel$KernelThread" 15 2 2 .int := ⟨R_H, F_H, 19, ft_H, rfl, by decide, (kIn 80 (by decide +kernel) rfl), uw_H, ft_H_ok, fn_H, rfl, by decide +kernel⟩
theorem f_K_51 : kF "PagerKernel" 51 2 2 := ⟨R_H, F_H, 19, rfl, by decide, (kIn 81 (by decide +kernel) rfl), uw_H⟩
theorem p_K_51 : kFp "PagerKernel" 51 2 2 .int := ⟨R_H, F_H, 19, ft_H, rfl, by decide, (kIn 81 (by decide +kernel) rfl), uw_H, ft_H_ok, fn_H, rfl, by decide +kernel⟩
theorem f_H_22 : kF "PagerKernel$KernelThread" 22 2 3 := ⟨R_H, F_H, 19, rfl, by decide, (kIn 82 (by decide +kernel) rfl), uw_H⟩
theorem p_H_22 : kFp "PagerKernel$KernelThread" 22 2 3 .int := ⟨R_H, F_H, 19, ft_H, rfl, by decide, (kIn 82 (by decide +kernel) rfl), uw_H, ft_H_ok, fn_H, rfl, by decide +kernel⟩
theorem f_K_136 : kF "PagerKernel" 136 2 3 := ⟨R_H, F_H, 19, rfl, by decide, (kIn 83 (by decide +kernel) rfl), uw_H⟩
theorem p_K_136 : kFp "PagerKernel" 136 2 3 .int := ⟨R_H, F_H, 19, ft_H, rfl, by decide, (kIn 83 (by decide +kernel) rfl), uw_H, ft_H_ok, fn_H, rfl, by decide +kernel⟩
theorem f_H_25 : kF "PagerKernel$KernelThread" 25 2 4 := ⟨R_H, F_H, 19, rfl, by decide, (kIn 84 (by decide +kernel) rfl), uw_H⟩
theorem p_H_25 : kFp "PagerKernel$KernelThread" 25 2 4 .int := ⟨R_H, F_H, 19, ft_H, rfl, by decide, (kIn 84 (by decide +kernel) rfl), uw_H, ft_H_ok, fn_H, rfl, by decide +kernel⟩
theorem f_K_216 : kF "PagerKernel" 216 2 4 := ⟨R_H, F_H, 19, rfl, by decide, (kIn 85 (by decide +kernel) rfl), uw_H⟩
theorem p_K_216 : kFp "PagerKernel" 216 2 4 .int := ⟨R_H, F_H, 19, ft_H, rfl, by decide, (kIn 85 (by decide +kernel) rfl), uw_H, ft_H_ok, fn_H, rfl, by decide +kernel⟩
theorem f_H_28 : kF "PagerKernel$KernelThread" 28 2 5 := ⟨R_H, F_H, 19, rfl, by decide, (kIn 86 (by decide +kernel) rfl), uw_H⟩
theorem p_H_28 : kFp "PagerKernel$KernelThread" 28 2 5 .int := ⟨R_H, F_H, 19, ft_H, rfl, by decide, (kIn 86 (by decide +kernel) rfl), uw_H, ft_H_ok, fn_H, rfl, by decide +kernel⟩
theorem f_K_69 : kF "PagerKernel" 69 2 5 := ⟨R_H, F_H, 19, rfl, by decide, (kIn 87 (by decide +kernel) rfl), uw_H⟩
theorem p_K_69 : kFp "PagerKernel" 69 2 5 .int := ⟨R_H, F_H, 19, ft_H, rfl, by decide, (kIn 87 (by decide +kernel) rfl), uw_H, ft_H_ok, fn_H, rfl, by decide +kernel⟩
theorem f_K_72 : kF "PagerKernel" 72 2 6 := ⟨R_H, F_H, 19, rfl, by decide, (kIn 88 (by decide +kernel) rfl), uw_H⟩
theorem p_K_72 : kFp "PagerKernel" 72 2 6 .int := ⟨R_H, F_H, 19, ft_H, rfl, by decide, (kIn 88 (by decide +kernel) rfl), uw_H, ft_H_ok, fn_H, rfl, by decide +kernel⟩
theorem f_K_75 : kF "PagerKernel" 75 2 7 := ⟨R_H, F_H, 19, rfl, by decide, (kIn 89 (by decide +kernel) rfl), uw_H⟩
theorem p_K_75 : kFp "PagerKernel" 75 2 7 .boolean := ⟨R_H, F_H, 19, ft_H, rfl, by decide, (kIn 89 (by decide +kernel) rfl), uw_H, ft_H_ok, fn_H, rfl, by decide +kernel⟩
theorem f_H_31 : kF "PagerKernel$KernelThread" 31 2 8 := ⟨R_H, F_H, 19, rfl, by decide, (kIn 90 (by decide +kernel) rfl), uw_H⟩
theorem p_H_31 : kFp "PagerKernel$KernelThread" 31 2 8 .int := ⟨R_H, F_H, 19, ft_H, rfl, by decide, (kIn 90 (by decide +kernel) rfl), uw_H, ft_H_ok, fn_H, rfl, by decide +kernel⟩
theorem f_K_79 : kF "PagerKernel" 79 2 8 := ⟨R_H, F_H, 19, rfl, by decide, (kIn 91 (by decide +kernel) rfl), uw_H⟩
theorem p_K_79 : kFp "PagerKernel" 79 2 8 .int := ⟨R_H, F_H, 19, ft_H, rfl, by decide, (kIn 91 (by decide +kernel) rfl), uw_H, ft_H_ok, fn_H, rfl, by decide +kernel⟩
theorem f_H_34 : kF "PagerKernel$KernelThread" 34 2 9 := ⟨R_H, F_H, 19, rfl, by decide, (kIn 92 (by decide +kernel) rfl), uw_H⟩
theorem p_H_34 : kFp "PagerKernel$KernelThread" 34 2 9 .int := ⟨R_H, F_H, 19, ft_H, rfl, by decide, (kIn 92 (by decide +kernel) rfl), uw_H, ft_H_ok, fn_H, rfl, by decide +kernel⟩
theorem f_K_164 : kF "PagerKernel" 164 2 9 := ⟨R_H, F_H, 19, rfl, by decide, (kIn 93 (by decide +kernel) rfl), uw_H⟩
theorem p_K_164 : kFp "PagerKernel" 164 2 9 .int := ⟨R_H, F_H, 19, ft_H, rfl, by decide, (kIn 93 (by decide +kernel) rfl), uw_H, ft_H_ok, fn_H, rfl, by decide +kernel⟩
theorem f_H_37 : kF "PagerKernel$KernelThread" 37 2 10 := ⟨R_H, F_H, 19, rfl, by decide, (kIn 94 (by decide +kernel) rfl), uw_H⟩
theorem p_H_37 : kFp "PagerKernel$KernelThread" 37 2 10 .int := ⟨R_H, F_H, 19, ft_H, rfl, by decide, (kIn 94 (by decide +kernel) rfl), uw_H, ft_H_ok, fn_H, rfl, by decide +kernel⟩
theorem f_K_170 : kF "PagerKernel" 170 2 10 := ⟨R_H, F_H, 19, rfl, by decide, (kIn 95 (by decide +kernel) rfl), uw_H⟩
theorem p_K_170 : kFp "PagerKernel" 170 2 10 .int := ⟨R_H, F_H, 19, ft_H, rfl, by decide, (kIn 95 (by decide +kernel) rfl), uw_H, ft_H_ok, fn_H, rfl, by decide +kernel⟩
theorem f_H_40 : kF "PagerKernel$KernelThread" 40 2 11 := ⟨R_H, F_H, 19, rfl, by decide, (kIn 96 (by decide +kernel) rfl), uw_H⟩
theorem p_H_40 : kFp "PagerKernel$KernelThread" 40 2 11 .int := ⟨R_H, F_H, 19, ft_H, rfl, by decide, (kIn 96 (by decide +kernel) rfl), uw_H, ft_H_ok, fn_H, rfl, by decide +kernel⟩
theorem f_K_167 : kF "PagerKernel" 167 2 11 := ⟨R_H, F_H, 19, rfl, by decide, (kIn 97 (by decide +kernel) rfl), uw_H⟩
theorem p_K_167 : kFp "PagerKernel" 167 2 11 .int := ⟨R_H, F_H, 19, ft_H, rfl, by decide, (kIn 97 (by decide +kernel) rfl), uw_H, ft_H_ok, fn_H, rfl, by decide +kernel⟩
theorem f_H_43 : kF "PagerKernel$KernelThread" 43 2 12 := ⟨R_H, F_H, 19, rfl, by decide, (kIn 98 (by decide +kernel) rfl), uw_H⟩
theorem p_H_43 : kFp "PagerKernel$KernelThread" 43 2 12 .int := ⟨R_H, F_H, 19, ft_H, rfl, by decide, (kIn 98 (by decide +kernel) rfl), uw_H, ft_H_ok, fn_H, rfl, by decide +kernel⟩
theorem f_K_161 : kF "PagerKernel" 161 2 12 := ⟨R_H, F_H, 19, rfl, by decide, (kIn 99 (by decide +kernel) rfl), uw_H⟩
theorem p_K_161 : kFp "PagerKernel" 161 2 12 .int := ⟨R_H, F_H, 19, ft_H, rfl, by decide, (kIn 99 (by decide +kernel) rfl), uw_H, ft_H_ok, fn_H, rfl, by decide +kernel⟩
theorem f_H_46 : kF "PagerKernel$KernelThread" 46 2 13 := ⟨R_H, F_H, 19, rfl, by decide, (kIn 100 (by decide +kernel) rfl), uw_H⟩
theorem p_H_46 : kFp "PagerKernel$KernelThread" 46 2 13 .int := ⟨R_H, F_H, 19, ft_H, rfl, by decide, (kIn 100 (by decide +kernel) rfl), uw_H, ft_H_ok, fn_H, rfl, by decide +kernel⟩
theorem f_H_49 : kF "PagerKernel$KernelThread" 49 2 14 := ⟨R_H, F_H, 19, rfl, by decide, (kIn 101 (by decide +kernel) rfl), uw_H⟩
theorem p_H_49 : kFp "PagerKernel$KernelThread" 49 2 14 .int := ⟨R_H, F_H, 19, ft_H, rfl, by decide, (kIn 101 (by decide +kernel) rfl), uw_H, ft_H_ok, fn_H, rfl, by decide +kernel⟩
theorem f_K_156 : kF "PagerKernel" 156 2 14 := ⟨R_H, F_H, 19, rfl, by decide, (kIn 102 (by decide +kernel) rfl), uw_H⟩
theorem p_K_156 : kFp "PagerKernel" 156 2 14 .int := ⟨R_H, F_H, 19, ft_H, rfl, by decide, (kIn 102 (by decide +kernel) rfl), uw_H, ft_H_ok, fn_H, rfl, by decide +kernel⟩
theorem f_K_185 : kF "PagerKernel" 185 2 15 := ⟨R_H, F_H, 19, rfl, by decide, (kIn 103 (by decide +kernel) rfl), uw_H⟩
theorem p_K_185 : kFp "PagerKernel" 185 2 15 .int := ⟨R_H, F_H, 19, ft_H, rfl, by decide, (kIn 103 (by decide +kernel) rfl), uw_H, ft_H_ok, fn_H, rfl, by decide +kernel⟩
theorem f_K_123 : kF "PagerKernel" 123 2 16 := ⟨R_H, F_H, 19, rfl, by decide, (kIn 104 (by decide +kernel) rfl), uw_H⟩
theorem p_K_123 : kFp "PagerKernel" 123 2 16 .int := ⟨R_H, F_H, 19, ft_H, rfl, by decide, (kIn 104 (by decide +kernel) rfl), uw_H, ft_H_ok, fn_H, rfl, by decide +kernel⟩
theorem f_K_126 : kF "PagerKernel" 126 2 17 := ⟨R_H, F_H, 19, rfl, by decide, (kIn 105 (by decide +kernel) rfl), uw_H⟩
theorem p_K_126 : kFp "PagerKernel" 126 2 17 .int := ⟨R_H, F_H, 19, ft_H, rfl, by decide, (kIn 105 (by decide +kernel) rfl), uw_H, ft_H_ok, fn_H, rfl, by decide +kernel⟩
theorem f_K_129 : kF "PagerKernel" 129 2 18 := ⟨R_H, F_H, 19, rfl, by decide, (kIn 106 (by decide +kernel) rfl), uw_H⟩
theorem p_K_129 : kFp "PagerKernel" 129 2 18 .int := ⟨R_H, F_H, 19, ft_H, rfl, by decide, (kIn 106 (by decide +kernel) rfl), uw_H, ft_H_ok, fn_H, rfl, by decide +kernel⟩
theorem l_K_36 : Cond.methodLink "PagerKernel" 36 y_H_begin ∈ kWS := kIn 146 (by decide +kernel) rfl
theorem f_K_11 : kF "PagerKernel" 11 0 0 := ⟨R_K, F_K, 5, rfl, by decide, (kIn 150 (by decide +kernel) rfl), uw_K⟩
theorem f_K_18 : kF "PagerKernel" 18 0 1 := ⟨R_K, F_K, 5, rfl, by decide, (kIn 151 (by decide +kernel) rfl), uw_K⟩
theorem f_K_22 : kF "PagerKernel" 22 0 2 := ⟨R_K, F_K, 5, rfl, by decide, (kIn 152 (by decide +kernel) rfl), uw_K⟩
theorem f_K_26 : kF "PagerKernel" 26 0 3 := ⟨R_K, F_K, 5, rfl, by decide, (kIn 153 (by decide +kernel) rfl), uw_K⟩
theorem p_K_26 : kFp "PagerKernel" 26 0 3 .int := ⟨R_K, F_K, 5, ft_K, rfl, by decide, (kIn 153 (by decide +kernel) rfl), uw_K, ft_K_ok, fn_K, rfl, by decide +kernel⟩
theorem f_K_30 : kF "PagerKernel" 30 0 4 := ⟨R_K, F_K, 5, rfl, by decide, (kIn 154 (by decide +kernel) rfl), uw_K⟩
theorem p_K_30 : kFp "PagerKernel" 30 0 4 .int := ⟨R_K, F_K, 5, ft_K, rfl, by decide, (kIn 154 (by decide +kernel) rfl), uw_K, ft_K_ok, fn_K, rfl, by decide +kernel⟩
theorem l_L_13 : Cond.methodLink "PagerKernelLaw" 13 y_K_spawn ∈ kWS := kIn 166 (by decide +kernel) rfl
theorem l_K_40 : Cond.methodLink "PagerKernel" 40 y_K_isSpace ∈ kWS := kIn 170 (by decide +kernel) rfl
theorem l_K_44 : Cond.methodLink "PagerKernel" 44 y_K_isThread ∈ kWS := kIn 173 (by decide +kernel) rfl
theorem l_K_47 : Cond.methodLink "PagerKernel" 47 y_K_leastFreeNumber ∈ kWS := kIn 177 (by decide +kernel) rfl
theorem l_L_18 : Cond.methodLink "PagerKernelLaw" 18 y_K_delete ∈ kWS := kIn 181 (by decide +kernel) rfl
theorem l_K_54 : Cond.methodLink "PagerKernel" 54 y_H_outlive ∈ kWS := kIn 185 (by decide +kernel) rfl
theorem l_H_52 : Cond.methodLink "PagerKernel$KernelThread" 52 y_H_waitsForThread ∈ kWS := kIn 189 (by decide +kernel) rfl
theorem l_H_56 : Cond.methodLink "PagerKernel$KernelThread" 56 y_H_run ∈ kWS := kIn 193 (by decide +kernel) rfl
theorem l_L_23 : Cond.methodLink "PagerKernelLaw" 23 y_K_load ∈ kWS := kIn 197 (by decide +kernel) rfl
theorem l_K_57 : Cond.methodLink "PagerKernel" 57 y_K_isRunning ∈ kWS := kIn 201 (by decide +kernel) rfl
theorem l_L_28 : Cond.methodLink "PagerKernelLaw" 28 y_K_offer ∈ kWS := kIn 205 (by decide +kernel) rfl
theorem l_K_63 : Cond.methodLink "PagerKernel" 63 y_K_isPageOrNone ∈ kWS := kIn 209 (by decide +kernel) rfl
theorem l_K_120 : Cond.methodLink "PagerKernel" 120 y_K_isPage ∈ kWS := kIn 212 (by decide +kernel) rfl
theorem l_K_66 : Cond.methodLink "PagerKernel" 66 y_K_isLevel ∈ kWS := kIn 215 (by decide +kernel) rfl
theorem l_L_33 : Cond.methodLink "PagerKernelLaw" 33 y_K_window ∈ kWS := kIn 218 (by decide +kernel) rfl
theorem l_L_38 : Cond.methodLink "PagerKernelLaw" 38 y_K_send ∈ kWS := kIn 222 (by decide +kernel) rfl
theorem l_K_82 : Cond.methodLink "PagerKernel" 82 y_K_maySend ∈ kWS := kIn 226 (by decide +kernel) rfl
theorem l_K_97 : Cond.methodLink "PagerKernel" 97 y_K_isLimit ∈ kWS := kIn 230 (by decide +kernel) rfl
theorem l_K_86 : Cond.methodLink "PagerKernel" 86 y_H_takesFrom ∈ kWS := kIn 233 (by decide +kernel) rfl
theorem l_H_60 : Cond.methodLink "PagerKernel$KernelThread" 60 y_H_receivesFrom ∈ kWS := kIn 237 (by decide +kernel) rfl
theorem l_K_89 : Cond.methodLink "PagerKernel" 89 y_K_passMessage ∈ kWS := kIn 241 (by decide +kernel) rfl
theorem l_K_195 : Cond.methodLink "PagerKernel" 195 y_H_take ∈ kWS := kIn 245 (by decide +kernel) rfl
theorem l_K_199 : Cond.methodLink "PagerKernel" 199 y_K_passOffer ∈ kWS := kIn 249 (by decide +kernel) rfl
theorem l_K_139 : Cond.methodLink "PagerKernel" 139 y_K_slotOf ∈ kWS := kIn 253 (by decide +kernel) rfl
theorem l_K_202 : Cond.methodLink "PagerKernel" 202 y_P_handOn ∈ kWS := kIn 256 (by decide +kernel) rfl
theorem l_P_24 : Cond.methodLink "PagerKernel$MappingTree" 24 y_P_holds ∈ kWS := kIn 260 (by decide +kernel) rfl
theorem l_P_36 : Cond.methodLink "PagerKernel$MappingTree" 36 y_P_lowerDescendants ∈ kWS := kIn 264 (by decide +kernel) rfl
theorem l_P_28 : Cond.methodLink "PagerKernel$MappingTree" 28 y_P_descends ∈ kWS := kIn 268 (by decide +kernel) rfl
theorem l_P_32 : Cond.methodLink "PagerKernel$MappingTree" 32 y_P_lower ∈ kWS := kIn 272 (by decide +kernel) rfl
theorem l_P_39 : Cond.methodLink "PagerKernel$MappingTree" 39 y_P_move ∈ kWS := kIn 276 (by decide +kernel) rfl
theorem l_P_48 : Cond.methodLink "PagerKernel$MappingTree" 48 y_P_derive ∈ kWS := kIn 283 (by decide +kernel) rfl
theorem l_K_116 : Cond.methodLink "PagerKernel" 116 y_H_waitFor ∈ kWS := kIn 287 (by decide +kernel) rfl
theorem l_K_158 : Cond.methodLink "PagerKernel" 158 y_H_run ∈ kWS := kIn 291 (by decide +kernel) rfl
theorem l_K_132 : Cond.methodLink "PagerKernel" 132 y_K_tryAccess ∈ kWS := kIn 292 (by decide +kernel) rfl
theorem l_K_212 : Cond.methodLink "PagerKernel" 212 y_K_doAccess ∈ kWS := kIn 296 (by decide +kernel) rfl
theorem l_K_219 : Cond.methodLink "PagerKernel" 219 y_K_fault ∈ kWS := kIn 300 (by decide +kernel) rfl
theorem l_K_188 : Cond.methodLink "PagerKernel" 188 y_K_joinLine ∈ kWS := kIn 304 (by decide +kernel) rfl
theorem l_K_222 : Cond.methodLink "PagerKernel" 222 y_H_receivesFrom ∈ kWS := kIn 308 (by decide +kernel) rfl
theorem l_K_192 : Cond.methodLink "PagerKernel" 192 y_K_passFault ∈ kWS := kIn 309 (by decide +kernel) rfl
theorem l_K_93 : Cond.methodLink "PagerKernel" 93 y_K_waitToSend ∈ kWS := kIn 313 (by decide +kernel) rfl
theorem l_K_108 : Cond.methodLink "PagerKernel" 108 y_K_giveUp ∈ kWS := kIn 317 (by decide +kernel) rfl
theorem l_K_112 : Cond.methodLink "PagerKernel" 112 y_K_deadline ∈ kWS := kIn 320 (by decide +kernel) rfl
theorem l_L_43 : Cond.methodLink "PagerKernelLaw" 43 y_K_call ∈ kWS := kIn 324 (by decide +kernel) rfl
theorem l_L_47 : Cond.methodLink "PagerKernelLaw" 47 y_K_receive ∈ kWS := kIn 328 (by decide +kernel) rfl
theorem l_K_100 : Cond.methodLink "PagerKernel" 100 y_K_longestWaiting ∈ kWS := kIn 332 (by decide +kernel) rfl
theorem l_K_179 : Cond.methodLink "PagerKernel" 179 y_H_waitsToSendTo ∈ kWS := kIn 336 (by decide +kernel) rfl
theorem l_K_104 : Cond.methodLink "PagerKernel" 104 y_K_takeWaitingMessage ∈ kWS := kIn 340 (by decide +kernel) rfl
theorem l_L_51 : Cond.methodLink "PagerKernelLaw" 51 y_K_access ∈ kWS := kIn 344 (by decide +kernel) rfl
theorem l_L_56 : Cond.methodLink "PagerKernelLaw" 56 y_K_unmap ∈ kWS := kIn 348 (by decide +kernel) rfl
theorem l_K_143 : Cond.methodLink "PagerKernel" 143 y_P_holds ∈ kWS := kIn 352 (by decide +kernel) rfl
theorem l_K_146 : Cond.methodLink "PagerKernel" 146 y_P_lowerDescendants ∈ kWS := kIn 353 (by decide +kernel) rfl
theorem l_K_149 : Cond.methodLink "PagerKernel" 149 y_P_lower ∈ kWS := kIn 354 (by decide +kernel) rfl
theorem l_L_61 : Cond.methodLink "PagerKernelLaw" 61 y_K_tick ∈ kWS := kIn 355 (by decide +kernel) rfl
theorem l_K_152 : Cond.methodLink "PagerKernel" 152 y_H_waitsForThread ∈ kWS := kIn 359 (by decide +kernel) rfl
theorem l_L_66 : Cond.methodLink "PagerKernelLaw" 66 y_K_state ∈ kWS := kIn 360 (by decide +kernel) rfl
theorem l_L_71 : Cond.methodLink "PagerKernelLaw" 71 y_K_register ∈ kWS := kIn 364 (by decide +kernel) rfl
theorem l_L_75 : Cond.methodLink "PagerKernelLaw" 75 y_K_outcome ∈ kWS := kIn 368 (by decide +kernel) rfl
theorem l_L_79 : Cond.methodLink "PagerKernelLaw" 79 y_K_value ∈ kWS := kIn 372 (by decide +kernel) rfl
theorem l_L_83 : Cond.methodLink "PagerKernelLaw" 83 y_K_sender ∈ kWS := kIn 376 (by decide +kernel) rfl
theorem l_L_87 : Cond.methodLink "PagerKernelLaw" 87 y_K_mapping ∈ kWS := kIn 380 (by decide +kernel) rfl
theorem l_K_173 : Cond.methodLink "PagerKernel" 173 y_P_describe ∈ kWS := kIn 384 (by decide +kernel) rfl
theorem l_L_91 : Cond.methodLink "PagerKernelLaw" 91 y_K_heirs ∈ kWS := kIn 388 (by decide +kernel) rfl
theorem l_K_176 : Cond.methodLink "PagerKernel" 176 y_P_countDescendants ∈ kWS := kIn 392 (by decide +kernel) rfl
theorem l_L_95 : Cond.methodLink "PagerKernelLaw" 95 y_K_waiting ∈ kWS := kIn 396 (by decide +kernel) rfl
theorem l_L_99 : Cond.methodLink "PagerKernelLaw" 99 y_K_word ∈ kWS := kIn 400 (by decide +kernel) rfl
theorem l_L_12 : Cond.methodLink "PagerKernelLaw" 12 y_R_init ∈ kWS := kIn 406 (by decide +kernel) rfl
theorem l_R_83 : Cond.methodLink "PagerKernelModel" 83 y_R_begin ∈ kWS := kIn 410 (by decide +kernel) rfl
theorem f_R_91 : kF "PagerKernelModel" 91 3 0 := ⟨R_R, F_R, 26, rfl, by decide, (kIn 414 (by decide +kernel) rfl), uw_R⟩
theorem p_R_91 : kFp "PagerKernelModel" 91 3 0 .int := ⟨R_R, F_R, 26, ft_R, rfl, by decide, (kIn 414 (by decide +kernel) rfl), uw_R, ft_R_ok, fn_R, rfl, by decide +kernel⟩
theorem f_R_95 : kF "PagerKernelModel" 95 3 1 := ⟨R_R, F_R, 26, rfl, by decide, (kIn 415 (by decide +kernel) rfl), uw_R⟩
theorem p_R_95 : kFp "PagerKernelModel" 95 3 1 .int := ⟨R_R, F_R, 26, ft_R, rfl, by decide, (kIn 415 (by decide +kernel) rfl), uw_R, ft_R_ok, fn_R, rfl, by decide +kernel⟩
theorem f_R_7 : kF "PagerKernelModel" 7 3 2 := ⟨R_R, F_R, 26, rfl, by decide, (kIn 416 (by decide +kernel) rfl), uw_R⟩
theorem f_R_13 : kF "PagerKernelModel" 13 3 3 := ⟨R_R, F_R, 26, rfl, by decide, (kIn 417 (by decide +kernel) rfl), uw_R⟩
theorem f_R_17 : kF "PagerKernelModel" 17 3 4 := ⟨R_R, F_R, 26, rfl, by decide, (kIn 418 (by decide +kernel) rfl), uw_R⟩
theorem f_R_20 : kF "PagerKernelModel" 20 3 5 := ⟨R_R, F_R, 26, rfl, by decide, (kIn 419 (by decide +kernel) rfl), uw_R⟩
theorem f_R_23 : kF "PagerKernelModel" 23 3 6 := ⟨R_R, F_R, 26, rfl, by decide, (kIn 420 (by decide +kernel) rfl), uw_R⟩
theorem f_R_26 : kF "PagerKernelModel" 26 3 7 := ⟨R_R, F_R, 26, rfl, by decide, (kIn 421 (by decide +kernel) rfl), uw_R⟩
theorem f_R_29 : kF "PagerKernelModel" 29 3 8 := ⟨R_R, F_R, 26, rfl, by decide, (kIn 422 (by decide +kernel) rfl), uw_R⟩
theorem f_R_32 : kF "PagerKernelModel" 32 3 9 := ⟨R_R, F_R, 26, rfl, by decide, (kIn 423 (by decide +kernel) rfl), uw_R⟩
theorem f_R_35 : kF "PagerKernelModel" 35 3 10 := ⟨R_R, F_R, 26, rfl, by decide, (kIn 424 (by decide +kernel) rfl), uw_R⟩
theorem f_R_38 : kF "PagerKernelModel" 38 3 11 := ⟨R_R, F_R, 26, rfl, by decide, (kIn 425 (by decide +kernel) rfl), uw_R⟩
theorem f_R_41 : kF "PagerKernelModel" 41 3 12 := ⟨R_R, F_R, 26, rfl, by decide, (kIn 426 (by decide +kernel) rfl), uw_R⟩
theorem f_R_44 : kF "PagerKernelModel" 44 3 13 := ⟨R_R, F_R, 26, rfl, by decide, (kIn 427 (by decide +kernel) rfl), uw_R⟩
theorem f_R_47 : kF "PagerKernelModel" 47 3 14 := ⟨R_R, F_R, 26, rfl, by decide, (kIn 428 (by decide +kernel) rfl), uw_R⟩
theorem f_R_50 : kF "PagerKernelModel" 50 3 15 := ⟨R_R, F_R, 26, rfl, by decide, (kIn 429 (by decide +kernel) rfl), uw_R⟩
theorem f_R_53 : kF "PagerKernelModel" 53 3 16 := ⟨R_R, F_R, 26, rfl, by decide, (kIn 430 (by decide +kernel) rfl), uw_R⟩
theorem f_R_56 : kF "PagerKernelModel" 56 3 17 := ⟨R_R, F_R, 26, rfl, by decide, (kIn 431 (by decide +kernel) rfl), uw_R⟩
theorem f_R_59 : kF "PagerKernelModel" 59 3 18 := ⟨R_R, F_R, 26, rfl, by decide, (kIn 432 (by decide +kernel) rfl), uw_R⟩
theorem f_R_62 : kF "PagerKernelModel" 62 3 19 := ⟨R_R, F_R, 26, rfl, by decide, (kIn 433 (by decide +kernel) rfl), uw_R⟩
theorem f_R_65 : kF "PagerKernelModel" 65 3 20 := ⟨R_R, F_R, 26, rfl, by decide, (kIn 434 (by decide +kernel) rfl), uw_R⟩
theorem f_R_68 : kF "PagerKernelModel" 68 3 21 := ⟨R_R, F_R, 26, rfl, by decide, (kIn 435 (by decide +kernel) rfl), uw_R⟩
theorem f_R_71 : kF "PagerKernelModel" 71 3 22 := ⟨R_R, F_R, 26, rfl, by decide, (kIn 436 (by decide +kernel) rfl), uw_R⟩
theorem f_R_74 : kF "PagerKernelModel" 74 3 23 := ⟨R_R, F_R, 26, rfl, by decide, (kIn 437 (by decide +kernel) rfl), uw_R⟩
theorem f_R_77 : kF "PagerKernelModel" 77 3 24 := ⟨R_R, F_R, 26, rfl, by decide, (kIn 438 (by decide +kernel) rfl), uw_R⟩
theorem f_R_80 : kF "PagerKernelModel" 80 3 25 := ⟨R_R, F_R, 26, rfl, by decide, (kIn 439 (by decide +kernel) rfl), uw_R⟩
theorem l_L_17 : Cond.methodLink "PagerKernelLaw" 17 y_R_spawn ∈ kWS := kIn 494 (by decide +kernel) rfl
theorem l_R_87 : Cond.methodLink "PagerKernelModel" 87 y_R_thread ∈ kWS := kIn 498 (by decide +kernel) rfl
theorem l_L_22 : Cond.methodLink "PagerKernelLaw" 22 y_R_delete ∈ kWS := kIn 502 (by decide +kernel) rfl
theorem l_R_98 : Cond.methodLink "PagerKernelModel" 98 y_R_run ∈ kWS := kIn 506 (by decide +kernel) rfl
theorem l_L_27 : Cond.methodLink "PagerKernelLaw" 27 y_R_load ∈ kWS := kIn 510 (by decide +kernel) rfl
theorem l_R_102 : Cond.methodLink "PagerKernelModel" 102 y_R_running ∈ kWS := kIn 514 (by decide +kernel) rfl
theorem l_L_32 : Cond.methodLink "PagerKernelLaw" 32 y_R_offer ∈ kWS := kIn 518 (by decide +kernel) rfl
theorem l_L_37 : Cond.methodLink "PagerKernelLaw" 37 y_R_window ∈ kWS := kIn 522 (by decide +kernel) rfl
theorem l_L_42 : Cond.methodLink "PagerKernelLaw" 42 y_R_send ∈ kWS := kIn 526 (by decide +kernel) rfl
theorem l_R_141 : Cond.methodLink "PagerKernelModel" 141 y_R_speak ∈ kWS := kIn 530 (by decide +kernel) rfl
theorem l_R_134 : Cond.methodLink "PagerKernelModel" 134 y_R_takes ∈ kWS := kIn 534 (by decide +kernel) rfl
theorem l_R_137 : Cond.methodLink "PagerKernelModel" 137 y_R_message ∈ kWS := kIn 538 (by decide +kernel) rfl
theorem l_R_116 : Cond.methodLink "PagerKernelModel" 116 y_R_take ∈ kWS := kIn 542 (by decide +kernel) rfl
theorem l_R_120 : Cond.methodLink "PagerKernelModel" 120 y_R_handOn ∈ kWS := kIn 546 (by decide +kernel) rfl
theorem l_R_109 : Cond.methodLink "PagerKernelModel" 109 y_R_removeBelow ∈ kWS := kIn 550 (by decide +kernel) rfl
theorem l_R_105 : Cond.methodLink "PagerKernelModel" 105 y_R_descends ∈ kWS := kIn 554 (by decide +kernel) rfl
theorem l_R_113 : Cond.methodLink "PagerKernelModel" 113 y_R_move ∈ kWS := kIn 558 (by decide +kernel) rfl
theorem l_R_123 : Cond.methodLink "PagerKernelModel" 123 y_R_linger ∈ kWS := kIn 562 (by decide +kernel) rfl
theorem l_R_127 : Cond.methodLink "PagerKernelModel" 127 y_R_attempt ∈ kWS := kIn 566 (by decide +kernel) rfl
theorem l_R_131 : Cond.methodLink "PagerKernelModel" 131 y_R_report ∈ kWS := kIn 570 (by decide +kernel) rfl
theorem l_L_46 : Cond.methodLink "PagerKernelLaw" 46 y_R_call ∈ kWS := kIn 574 (by decide +kernel) rfl
theorem l_L_50 : Cond.methodLink "PagerKernelLaw" 50 y_R_receive ∈ kWS := kIn 578 (by decide +kernel) rfl
theorem l_R_145 : Cond.methodLink "PagerKernelModel" 145 y_R_waitsFor ∈ kWS := kIn 582 (by decide +kernel) rfl
theorem l_L_55 : Cond.methodLink "PagerKernelLaw" 55 y_R_access ∈ kWS := kIn 586 (by decide +kernel) rfl
theorem l_L_60 : Cond.methodLink "PagerKernelLaw" 60 y_R_unmap ∈ kWS := kIn 590 (by decide +kernel) rfl
theorem l_L_65 : Cond.methodLink "PagerKernelLaw" 65 y_R_tick ∈ kWS := kIn 594 (by decide +kernel) rfl
theorem l_L_70 : Cond.methodLink "PagerKernelLaw" 70 y_R_state ∈ kWS := kIn 598 (by decide +kernel) rfl
theorem l_L_74 : Cond.methodLink "PagerKernelLaw" 74 y_R_register ∈ kWS := kIn 602 (by decide +kernel) rfl
theorem l_L_78 : Cond.methodLink "PagerKernelLaw" 78 y_R_outcome ∈ kWS := kIn 606 (by decide +kernel) rfl
theorem l_L_82 : Cond.methodLink "PagerKernelLaw" 82 y_R_value ∈ kWS := kIn 610 (by decide +kernel) rfl
theorem l_L_86 : Cond.methodLink "PagerKernelLaw" 86 y_R_sender ∈ kWS := kIn 614 (by decide +kernel) rfl
theorem l_L_90 : Cond.methodLink "PagerKernelLaw" 90 y_R_mapping ∈ kWS := kIn 618 (by decide +kernel) rfl
theorem l_R_148 : Cond.methodLink "PagerKernelModel" 148 y_R_place ∈ kWS := kIn 622 (by decide +kernel) rfl
theorem l_L_94 : Cond.methodLink "PagerKernelLaw" 94 y_R_heirs ∈ kWS := kIn 626 (by decide +kernel) rfl
theorem l_R_152 : Cond.methodLink "PagerKernelModel" 152 y_R_descendants ∈ kWS := kIn 630 (by decide +kernel) rfl
theorem l_L_98 : Cond.methodLink "PagerKernelLaw" 98 y_R_waiting ∈ kWS := kIn 634 (by decide +kernel) rfl
theorem l_L_102 : Cond.methodLink "PagerKernelLaw" 102 y_R_word ∈ kWS := kIn 638 (by decide +kernel) rfl
end
section
theorem d_K_init_0 : kI m_K_init 0 (.aload_n 0) 1 1 := ⟨by decide +kernel, rfl⟩
theorem d_K_init_1 : kI m_K_init 1 (.invokespecial 3) 3 4 := ⟨by decide +kernel, rfl⟩
theorem d_K_init_4 : kI m_K_init 4 (.aload_n 0) 1 5 := ⟨by decide +kernel, rfl⟩
theorem d_K_init_5 : kI m_K_init 5 (.bipush 8) 2 7 := ⟨by decide +kernel, rfl⟩
theorem d_K_init_7 : kI m_K_init 7 (.anewarray 9) 3 10 := ⟨by decide +kernel, rfl⟩
theorem d_K_init_10 : kI m_K_init 10 (.putfield 11) 3 13 := ⟨by decide +kernel, rfl⟩
theorem d_K_init_13 : kI m_K_init 13 (.aload_n 0) 1 14 := ⟨by decide +kernel, rfl⟩
theorem d_K_init_14 : kI m_K_init 14 (.new 15) 3 17 := ⟨by decide +kernel, rfl⟩
theorem d_K_init_17 : kI m_K_init 17 .dup 1 18 := ⟨by decide +kernel, rfl⟩
theorem d_K_init_18 : kI m_K_init 18 (.invokespecial 17) 3 21 := ⟨by decide +kernel, rfl⟩
theorem d_K_init_21 : kI m_K_init 21 (.putfield 18) 3 24 := ⟨by decide +kernel, rfl⟩
theorem d_K_init_24 : kI m_K_init 24 (.aload_n 0) 1 25 := ⟨by decide +kernel, rfl⟩
theorem d_K_init_25 : kI m_K_init 25 (.bipush 16) 2 27 := ⟨by decide +kernel, rfl⟩
theorem d_K_init_27 : kI m_K_init 27 (.newarray .int) 2 29 := ⟨by decide +kernel, rfl⟩
theorem d_K_init_29 : kI m_K_init 29 (.putfield 22) 3 32 := ⟨by decide +kernel, rfl⟩
theorem d_K_init_32 : kI m_K_init 32 (.aload_n 0) 1 33 := ⟨by decide +kernel, rfl⟩
theorem d_K_init_33 : kI m_K_init 33 (.iconst 0) 1 34 := ⟨by decide +kernel, rfl⟩
theorem d_K_init_34 : kI m_K_init 34 (.putfield 26) 3 37 := ⟨by decide +kernel, rfl⟩
theorem d_K_init_37 : kI m_K_init 37 (.aload_n 0) 1 38 := ⟨by decide +kernel, rfl⟩
theorem d_K_init_38 : kI m_K_init 38 (.iconst 0) 1 39 := ⟨by decide +kernel, rfl⟩
theorem d_K_init_39 : kI m_K_init 39 (.putfield 30) 3 42 := ⟨by decide +kernel, rfl⟩
theorem d_K_init_42 : kI m_K_init 42 (.iconst 0) 1 43 := ⟨by decide +kernel, rfl⟩
theorem d_K_init_43 : kI m_K_init 43 (.istore_n 1) 1 44 := ⟨by decide +kernel, rfl⟩
theorem d_K_init_44 : kI m_K_init 44 (.iload_n 1) 1 45 := ⟨by decide +kernel, rfl⟩
theorem d_K_init_45 : kI m_K_init 45 (.bipush 8) 2 47 := ⟨by decide +kernel, rfl⟩
theorem d_K_init_47 : kJ m_K_init 47 (.if_icmp .ge 23) 23 50 70 := ⟨by decide +kernel, rfl, by decide⟩
theorem d_K_init_50 : kI m_K_init 50 (.aload_n 0) 1 51 := ⟨by decide +kernel, rfl⟩
theorem d_K_init_51 : kI m_K_init 51 (.getfield 11) 3 54 := ⟨by decide +kernel, rfl⟩
theorem d_K_init_54 : kI m_K_init 54 (.iload_n 1) 1 55 := ⟨by decide +kernel, rfl⟩
theorem d_K_init_55 : kI m_K_init 55 (.new 9) 3 58 := ⟨by decide +kernel, rfl⟩
theorem d_K_init_58 : kI m_K_init 58 .dup 1 59 := ⟨by decide +kernel, rfl⟩
theorem d_K_init_59 : kI m_K_init 59 (.iload_n 1) 1 60 := ⟨by decide +kernel, rfl⟩
theorem d_K_init_60 : kI m_K_init 60 (.invokespecial 33) 3 63 := ⟨by decide +kernel, rfl⟩
theorem d_K_init_63 : kI m_K_init 63 .aastore 1 64 := ⟨by decide +kernel, rfl⟩
theorem d_K_init_64 : kI m_K_init 64 (.iinc 1 1) 3 67 := ⟨by decide +kernel, rfl⟩
theorem d_K_init_67 : kJ m_K_init 67 (.goto (-23)) (-23) 70 44 := ⟨by decide +kernel, rfl, by decide⟩
theorem d_K_init_70 : kI m_K_init 70 (.aload_n 0) 1 71 := ⟨by decide +kernel, rfl⟩
theorem d_K_init_71 : kI m_K_init 71 (.getfield 11) 3 74 := ⟨by decide +kernel, rfl⟩
theorem d_K_init_74 : kI m_K_init 74 (.iconst 0) 1 75 := ⟨by decide +kernel, rfl⟩
theorem d_K_init_75 : kI m_K_init 75 .aaload 1 76 := ⟨by decide +kernel, rfl⟩
theorem d_K_init_76 : kI m_K_init 76 (.iconst 0) 1 77 := ⟨by decide +kernel, rfl⟩
theorem d_K_init_77 : kI m_K_init 77 (.iconst (-1)) 1 78 := ⟨by decide +kernel, rfl⟩
theorem d_K_init_78 : kI m_K_init 78 (.invokevirtual 36) 3 81 := ⟨by decide +kernel, rfl⟩
theorem d_K_init_81 : kI m_K_init 81 .return_ 1 82 := ⟨by decide +kernel, rfl⟩
theorem d_K_spawn_0 : kI m_K_spawn 0 (.iload_n 1) 1 1 := ⟨by decide +kernel, rfl⟩
theorem d_K_spawn_1 : kI m_K_spawn 1 (.invokestatic 40) 3 4 := ⟨by decide +kernel, rfl⟩
theorem d_K_spawn_4 : kJ m_K_spawn 4 (.ifCond .eq 16) 16 7 20 := ⟨by decide +kernel, rfl, by decide⟩
theorem d_K_spawn_7 : kI m_K_spawn 7 (.iload_n 2) 1 8 := ⟨by decide +kernel, rfl⟩
theorem d_K_spawn_8 : kI m_K_spawn 8 (.iconst (-1)) 1 9 := ⟨by decide +kernel, rfl⟩
theorem d_K_spawn_9 : kJ m_K_spawn 9 (.if_icmp .eq 13) 13 12 22 := ⟨by decide +kernel, rfl, by decide⟩
theorem d_K_spawn_12 : kI m_K_spawn 12 (.aload_n 0) 1 13 := ⟨by decide +kernel, rfl⟩
theorem d_K_spawn_13 : kI m_K_spawn 13 (.iload_n 2) 1 14 := ⟨by decide +kernel, rfl⟩
theorem d_K_spawn_14 : kI m_K_spawn 14 (.invokevirtual 44) 3 17 := ⟨by decide +kernel, rfl⟩
theorem d_K_spawn_17 : kJ m_K_spawn 17 (.ifCond .ne 5) 5 20 22 := ⟨by decide +kernel, rfl, by decide⟩
theorem d_K_spawn_20 : kI m_K_spawn 20 (.iconst (-1)) 1 21 := ⟨by decide +kernel, rfl⟩
theorem d_K_spawn_21 : kI m_K_spawn 21 .ireturn 1 22 := ⟨by decide +kernel, rfl⟩
theorem d_K_spawn_22 : kI m_K_spawn 22 (.aload_n 0) 1 23 := ⟨by decide +kernel, rfl⟩
theorem d_K_spawn_23 : kI m_K_spawn 23 (.invokevirtual 47) 3 26 := ⟨by decide +kernel, rfl⟩
theorem d_K_spawn_26 : kI m_K_spawn 26 (.istore_n 3) 1 27 := ⟨by decide +kernel, rfl⟩
theorem d_K_spawn_27 : kI m_K_spawn 27 (.iload_n 3) 1 28 := ⟨by decide +kernel, rfl⟩
theorem d_K_spawn_28 : kI m_K_spawn 28 (.iconst (-1)) 1 29 := ⟨by decide +kernel, rfl⟩
theorem d_K_spawn_29 : kJ m_K_spawn 29 (.if_icmp .ne 5) 5 32 34 := ⟨by decide +kernel, rfl, by decide⟩
theorem d_K_spawn_32 : kI m_K_spawn 32 (.iconst (-1)) 1 33 := ⟨by decide +kernel, rfl⟩
theorem d_K_spawn_33 : kI m_K_spawn 33 .ireturn 1 34 := ⟨by decide +kernel, rfl⟩
theorem d_K_spawn_34 : kI m_K_spawn 34 (.aload_n 0) 1 35 := ⟨by decide +kernel, rfl⟩
theorem d_K_spawn_35 : kI m_K_spawn 35 (.getfield 11) 3 38 := ⟨by decide +kernel, rfl⟩
theorem d_K_spawn_38 : kI m_K_spawn 38 (.iload_n 3) 1 39 := ⟨by decide +kernel, rfl⟩
theorem d_K_spawn_39 : kI m_K_spawn 39 .aaload 1 40 := ⟨by decide +kernel, rfl⟩
theorem d_K_spawn_40 : kI m_K_spawn 40 (.iload_n 1) 1 41 := ⟨by decide +kernel, rfl⟩
theorem d_K_spawn_41 : kI m_K_spawn 41 (.iload_n 2) 1 42 := ⟨by decide +kernel, rfl⟩
theorem d_K_spawn_42 : kI m_K_spawn 42 (.invokevirtual 36) 3 45 := ⟨by decide +kernel, rfl⟩
theorem d_K_spawn_45 : kI m_K_spawn 45 (.iload_n 3) 1 46 := ⟨by decide +kernel, rfl⟩
theorem d_K_spawn_46 : kI m_K_spawn 46 .ireturn 1 47 := ⟨by decide +kernel, rfl⟩
theorem d_K_delete_0 : kI m_K_delete 0 (.iload_n 1) 1 1 := ⟨by decide +kernel, rfl⟩
theorem d_K_delete_1 : kJ m_K_delete 1 (.ifCond .eq 11) 11 4 12 := ⟨by decide +kernel, rfl, by decide⟩
theorem d_K_delete_4 : kI m_K_delete 4 (.aload_n 0) 1 5 := ⟨by decide +kernel, rfl⟩
theorem d_K_delete_5 : kI m_K_delete 5 (.iload_n 1) 1 6 := ⟨by decide +kernel, rfl⟩
theorem d_K_delete_6 : kI m_K_delete 6 (.invokevirtual 44) 3 9 := ⟨by decide +kernel, rfl⟩
theorem d_K_delete_9 : kJ m_K_delete 9 (.ifCond .ne 5) 5 12 14 := ⟨by decide +kernel, rfl, by decide⟩
theorem d_K_delete_12 : kI m_K_delete 12 (.iconst 0) 1 13 := ⟨by decide +kernel, rfl⟩
theorem d_K_delete_13 : kI m_K_delete 13 .ireturn 1 14 := ⟨by decide +kernel, rfl⟩
theorem d_K_delete_14 : kI m_K_delete 14 (.aload_n 0) 1 15 := ⟨by decide +kernel, rfl⟩
theorem d_K_delete_15 : kI m_K_delete 15 (.getfield 11) 3 18 := ⟨by decide +kernel, rfl⟩
theorem d_K_delete_18 : kI m_K_delete 18 (.iload_n 1) 1 19 := ⟨by decide +kernel, rfl⟩
theorem d_K_delete_19 : kI m_K_delete 19 .aaload 1 20 := ⟨by decide +kernel, rfl⟩
theorem d_K_delete_20 : kI m_K_delete 20 (.iconst (-1)) 1 21 := ⟨by decide +kernel, rfl⟩
theorem d_K_delete_21 : kI m_K_delete 21 (.putfield 51) 3 24 := ⟨by decide +kernel, rfl⟩
theorem d_K_delete_24 : kI m_K_delete 24 (.aload_n 0) 1 25 := ⟨by decide +kernel, rfl⟩
theorem d_K_delete_25 : kI m_K_delete 25 (.getfield 11) 3 28 := ⟨by decide +kernel, rfl⟩
theorem d_K_delete_28 : kI m_K_delete 28 (.astore_n 2) 1 29 := ⟨by decide +kernel, rfl⟩
theorem d_K_delete_29 : kI m_K_delete 29 (.aload_n 2) 1 30 := ⟨by decide +kernel, rfl⟩
theorem d_K_delete_30 : kI m_K_delete 30 .arraylength 1 31 := ⟨by decide +kernel, rfl⟩
theorem d_K_delete_31 : kI m_K_delete 31 (.istore_n 3) 1 32 := ⟨by decide +kernel, rfl⟩
theorem d_K_delete_32 : kI m_K_delete 32 (.iconst 0) 1 33 := ⟨by decide +kernel, rfl⟩
theorem d_K_delete_33 : kI m_K_delete 33 (.istore 4) 2 35 := ⟨by decide +kernel, rfl⟩
theorem d_K_delete_35 : kI m_K_delete 35 (.iload 4) 2 37 := ⟨by decide +kernel, rfl⟩
theorem d_K_delete_37 : kI m_K_delete 37 (.iload_n 3) 1 38 := ⟨by decide +kernel, rfl⟩
theorem d_K_delete_38 : kJ m_K_delete 38 (.if_icmp .ge 21) 21 41 59 := ⟨by decide +kernel, rfl, by decide⟩
theorem d_K_delete_41 : kI m_K_delete 41 (.aload_n 2) 1 42 := ⟨by decide +kernel, rfl⟩
theorem d_K_delete_42 : kI m_K_delete 42 (.iload 4) 2 44 := ⟨by decide +kernel, rfl⟩
theorem d_K_delete_44 : kI m_K_delete 44 .aaload 1 45 := ⟨by decide +kernel, rfl⟩
theorem d_K_delete_45 : kI m_K_delete 45 (.astore 5) 2 47 := ⟨by decide +kernel, rfl⟩
theorem d_K_delete_47 : kI m_K_delete 47 (.aload 5) 2 49 := ⟨by decide +kernel, rfl⟩
theorem d_K_delete_49 : kI m_K_delete 49 (.iload_n 1) 1 50 := ⟨by decide +kernel, rfl⟩
theorem d_K_delete_50 : kI m_K_delete 50 (.invokevirtual 54) 3 53 := ⟨by decide +kernel, rfl⟩
theorem d_K_delete_53 : kI m_K_delete 53 (.iinc 4 1) 3 56 := ⟨by decide +kernel, rfl⟩
theorem d_K_delete_56 : kJ m_K_delete 56 (.goto (-21)) (-21) 59 35 := ⟨by decide +kernel, rfl, by decide⟩
theorem d_K_delete_59 : kI m_K_delete 59 (.iconst 1) 1 60 := ⟨by decide +kernel, rfl⟩
theorem d_K_delete_60 : kI m_K_delete 60 .ireturn 1 61 := ⟨by decide +kernel, rfl⟩
theorem d_K_load_0 : kI m_K_load 0 (.aload_n 0) 1 1 := ⟨by decide +kernel, rfl⟩
theorem d_K_load_1 : kI m_K_load 1 (.iload_n 1) 1 2 := ⟨by decide +kernel, rfl⟩
theorem d_K_load_2 : kI m_K_load 2 (.invokevirtual 57) 3 5 := ⟨by decide +kernel, rfl⟩
theorem d_K_load_5 : kJ m_K_load 5 (.ifCond .eq 12) 12 8 17 := ⟨by decide +kernel, rfl, by decide⟩
theorem d_K_load_8 : kI m_K_load 8 (.iload_n 2) 1 9 := ⟨by decide +kernel, rfl⟩
theorem d_K_load_9 : kJ m_K_load 9 (.ifCond .lt 8) 8 12 17 := ⟨by decide +kernel, rfl, by decide⟩
theorem d_K_load_12 : kI m_K_load 12 (.iload_n 2) 1 13 := ⟨by decide +kernel, rfl⟩
theorem d_K_load_13 : kI m_K_load 13 (.iconst 4) 1 14 := ⟨by decide +kernel, rfl⟩
theorem d_K_load_14 : kJ m_K_load 14 (.if_icmp .lt 5) 5 17 19 := ⟨by decide +kernel, rfl, by decide⟩
theorem d_K_load_17 : kI m_K_load 17 (.iconst 0) 1 18 := ⟨by decide +kernel, rfl⟩
theorem d_K_load_18 : kI m_K_load 18 .ireturn 1 19 := ⟨by decide +kernel, rfl⟩
theorem d_K_load_19 : kI m_K_load 19 (.aload_n 0) 1 20 := ⟨by decide +kernel, rfl⟩
theorem d_K_load_20 : kI m_K_load 20 (.getfield 11) 3 23 := ⟨by decide +kernel, rfl⟩
theorem d_K_load_23 : kI m_K_load 23 (.iload_n 1) 1 24 := ⟨by decide +kernel, rfl⟩
theorem d_K_load_24 : kI m_K_load 24 .aaload 1 25 := ⟨by decide +kernel, rfl⟩
theorem d_K_load_25 : kI m_K_load 25 (.getfield 60) 3 28 := ⟨by decide +kernel, rfl⟩
theorem d_K_load_28 : kI m_K_load 28 (.iload_n 2) 1 29 := ⟨by decide +kernel, rfl⟩
theorem d_K_load_29 : kI m_K_load 29 (.iload_n 3) 1 30 := ⟨by decide +kernel, rfl⟩
theorem d_K_load_30 : kI m_K_load 30 .iastore 1 31 := ⟨by decide +kernel, rfl⟩
theorem d_K_load_31 : kI m_K_load 31 (.iconst 1) 1 32 := ⟨by decide +kernel, rfl⟩
theorem d_K_load_32 : kI m_K_load 32 .ireturn 1 33 := ⟨by decide +kernel, rfl⟩
theorem d_K_offer_0 : kI m_K_offer 0 (.aload_n 0) 1 1 := ⟨by decide +kernel, rfl⟩
theorem d_K_offer_1 : kI m_K_offer 1 (.iload_n 1) 1 2 := ⟨by decide +kernel, rfl⟩
theorem d_K_offer_2 : kI m_K_offer 2 (.invokevirtual 57) 3 5 := ⟨by decide +kernel, rfl⟩
theorem d_K_offer_5 : kJ m_K_offer 5 (.ifCond .eq 22) 22 8 27 := ⟨by decide +kernel, rfl, by decide⟩
theorem d_K_offer_8 : kI m_K_offer 8 (.iload_n 2) 1 9 := ⟨by decide +kernel, rfl⟩
theorem d_K_offer_9 : kI m_K_offer 9 (.invokestatic 63) 3 12 := ⟨by decide +kernel, rfl⟩
theorem d_K_offer_12 : kJ m_K_offer 12 (.ifCond .eq 15) 15 15 27 := ⟨by decide +kernel, rfl, by decide⟩
theorem d_K_offer_15 : kI m_K_offer 15 (.iload_n 2) 1 16 := ⟨by decide +kernel, rfl⟩
theorem d_K_offer_16 : kI m_K_offer 16 (.iconst (-1)) 1 17 := ⟨by decide +kernel, rfl⟩
theorem d_K_offer_17 : kJ m_K_offer 17 (.if_icmp .eq 12) 12 20 29 := ⟨by decide +kernel, rfl, by decide⟩
theorem d_K_offer_20 : kI m_K_offer 20 (.iload_n 3) 1 21 := ⟨by decide +kernel, rfl⟩
theorem d_K_offer_21 : kI m_K_offer 21 (.invokestatic 66) 3 24 := ⟨by decide +kernel, rfl⟩
theorem d_K_offer_24 : kJ m_K_offer 24 (.ifCond .ne 5) 5 27 29 := ⟨by decide +kernel, rfl, by decide⟩
theorem d_K_offer_27 : kI m_K_offer 27 (.iconst 0) 1 28 := ⟨by decide +kernel, rfl⟩
theorem d_K_offer_28 : kI m_K_offer 28 .ireturn 1 29 := ⟨by decide +kernel, rfl⟩
theorem d_K_offer_29 : kI m_K_offer 29 (.aload_n 0) 1 30 := ⟨by decide +kernel, rfl⟩
theorem d_K_offer_30 : kI m_K_offer 30 (.getfield 11) 3 33 := ⟨by decide +kernel, rfl⟩
theorem d_K_offer_33 : kI m_K_offer 33 (.iload_n 1) 1 34 := ⟨by decide +kernel, rfl⟩
theorem d_K_offer_34 : kI m_K_offer 34 .aaload 1 35 := ⟨by decide +kernel, rfl⟩
theorem d_K_offer_35 : kI m_K_offer 35 (.astore 5) 2 37 := ⟨by decide +kernel, rfl⟩
theorem d_K_offer_37 : kI m_K_offer 37 (.aload 5) 2 39 := ⟨by decide +kernel, rfl⟩
theorem d_K_offer_39 : kI m_K_offer 39 (.iload_n 2) 1 40 := ⟨by decide +kernel, rfl⟩
theorem d_K_offer_40 : kI m_K_offer 40 (.putfield 69) 3 43 := ⟨by decide +kernel, rfl⟩
theorem d_K_offer_43 : kI m_K_offer 43 (.aload 5) 2 45 := ⟨by decide +kernel, rfl⟩
theorem d_K_offer_45 : kI m_K_offer 45 (.iload_n 3) 1 46 := ⟨by decide +kernel, rfl⟩
theorem d_K_offer_46 : kI m_K_offer 46 (.putfield 72) 3 49 := ⟨by decide +kernel, rfl⟩
theorem d_K_offer_49 : kI m_K_offer 49 (.aload 5) 2 51 := ⟨by decide +kernel, rfl⟩
theorem d_K_offer_51 : kI m_K_offer 51 (.iload 4) 2 53 := ⟨by decide +kernel, rfl⟩
theorem d_K_offer_53 : kI m_K_offer 53 (.putfield 75) 3 56 := ⟨by decide +kernel, rfl⟩
theorem d_K_offer_56 : kI m_K_offer 56 (.iconst 1) 1 57 := ⟨by decide +kernel, rfl⟩
theorem d_K_offer_57 : kI m_K_offer 57 .ireturn 1 58 := ⟨by decide +kernel, rfl⟩
theorem d_K_window_0 : kI m_K_window 0 (.aload_n 0) 1 1 := ⟨by decide +kernel, rfl⟩
theorem d_K_window_1 : kI m_K_window 1 (.iload_n 1) 1 2 := ⟨by decide +kernel, rfl⟩
theorem d_K_window_2 : kI m_K_window 2 (.invokevirtual 57) 3 5 := ⟨by decide +kernel, rfl⟩
theorem d_K_window_5 : kJ m_K_window 5 (.ifCond .eq 10) 10 8 15 := ⟨by decide +kernel, rfl, by decide⟩
theorem d_K_window_8 : kI m_K_window 8 (.iload_n 2) 1 9 := ⟨by decide +kernel, rfl⟩
theorem d_K_window_9 : kI m_K_window 9 (.invokestatic 63) 3 12 := ⟨by decide +kernel, rfl⟩
theorem d_K_window_12 : kJ m_K_window 12 (.ifCond .ne 5) 5 15 17 := ⟨by decide +kernel, rfl, by decide⟩
theorem d_K_window_15 : kI m_K_window 15 (.iconst 0) 1 16 := ⟨by decide +kernel, rfl⟩
theorem d_K_window_16 : kI m_K_window 16 .ireturn 1 17 := ⟨by decide +kernel, rfl⟩
theorem d_K_window_17 : kI m_K_window 17 (.aload_n 0) 1 18 := ⟨by decide +kernel, rfl⟩
theorem d_K_window_18 : kI m_K_window 18 (.getfield 11) 3 21 := ⟨by decide +kernel, rfl⟩
theorem d_K_window_21 : kI m_K_window 21 (.iload_n 1) 1 22 := ⟨by decide +kernel, rfl⟩
theorem d_K_window_22 : kI m_K_window 22 .aaload 1 23 := ⟨by decide +kernel, rfl⟩
theorem d_K_window_23 : kI m_K_window 23 (.iload_n 2) 1 24 := ⟨by decide +kernel, rfl⟩
theorem d_K_window_24 : kI m_K_window 24 (.putfield 79) 3 27 := ⟨by decide +kernel, rfl⟩
theorem d_K_window_27 : kI m_K_window 27 (.iconst 1) 1 28 := ⟨by decide +kernel, rfl⟩
theorem d_K_window_28 : kI m_K_window 28 .ireturn 1 29 := ⟨by decide +kernel, rfl⟩
theorem d_K_send_0 : kI m_K_send 0 (.aload_n 0) 1 1 := ⟨by decide +kernel, rfl⟩
theorem d_K_send_1 : kI m_K_send 1 (.iload_n 1) 1 2 := ⟨by decide +kernel, rfl⟩
theorem d_K_send_2 : kI m_K_send 2 (.iload_n 2) 1 3 := ⟨by decide +kernel, rfl⟩
theorem d_K_send_3 : kI m_K_send 3 (.iload_n 3) 1 4 := ⟨by decide +kernel, rfl⟩
theorem d_K_send_4 : kI m_K_send 4 (.invokevirtual 82) 3 7 := ⟨by decide +kernel, rfl⟩
theorem d_K_send_7 : kJ m_K_send 7 (.ifCond .ne 5) 5 10 12 := ⟨by decide +kernel, rfl, by decide⟩
theorem d_K_send_10 : kI m_K_send 10 (.iconst (-1)) 1 11 := ⟨by decide +kernel, rfl⟩
theorem d_K_send_11 : kI m_K_send 11 .ireturn 1 12 := ⟨by decide +kernel, rfl⟩
theorem d_K_send_12 : kI m_K_send 12 (.aload_n 0) 1 13 := ⟨by decide +kernel, rfl⟩
theorem d_K_send_13 : kI m_K_send 13 (.getfield 11) 3 16 := ⟨by decide +kernel, rfl⟩
theorem d_K_send_16 : kI m_K_send 16 (.iload_n 2) 1 17 := ⟨by decide +kernel, rfl⟩
theorem d_K_send_17 : kI m_K_send 17 .aaload 1 18 := ⟨by decide +kernel, rfl⟩
theorem d_K_send_18 : kI m_K_send 18 (.iload_n 1) 1 19 := ⟨by decide +kernel, rfl⟩
theorem d_K_send_19 : kI m_K_send 19 (.invokevirtual 86) 3 22 := ⟨by decide +kernel, rfl⟩
theorem d_K_send_22 : kJ m_K_send 22 (.ifCond .eq 22) 22 25 44 := ⟨by decide +kernel, rfl, by decide⟩
theorem d_K_send_25 : kI m_K_send 25 (.aload_n 0) 1 26 := ⟨by decide +kernel, rfl⟩
theorem d_K_send_26 : kI m_K_send 26 (.aload_n 0) 1 27 := ⟨by decide +kernel, rfl⟩
theorem d_K_send_27 : kI m_K_send 27 (.getfield 11) 3 30 := ⟨by decide +kernel, rfl⟩
theorem d_K_send_30 : kI m_K_send 30 (.iload_n 1) 1 31 := ⟨by decide +kernel, rfl⟩
theorem d_K_send_31 : kI m_K_send 31 .aaload 1 32 := ⟨by decide +kernel, rfl⟩
theorem d_K_send_32 : kI m_K_send 32 (.aload_n 0) 1 33 := ⟨by decide +kernel, rfl⟩
theorem d_K_send_33 : kI m_K_send 33 (.getfield 11) 3 36 := ⟨by decide +kernel, rfl⟩
theorem d_K_send_36 : kI m_K_send 36 (.iload_n 2) 1 37 := ⟨by decide +kernel, rfl⟩
theorem d_K_send_37 : kI m_K_send 37 .aaload 1 38 := ⟨by decide +kernel, rfl⟩
theorem d_K_send_38 : kI m_K_send 38 (.iconst 0) 1 39 := ⟨by decide +kernel, rfl⟩
theorem d_K_send_39 : kI m_K_send 39 (.invokevirtual 89) 3 42 := ⟨by decide +kernel, rfl⟩
theorem d_K_send_42 : kI m_K_send 42 (.iconst 0) 1 43 := ⟨by decide +kernel, rfl⟩
theorem d_K_send_43 : kI m_K_send 43 .ireturn 1 44 := ⟨by decide +kernel, rfl⟩
theorem d_K_send_44 : kI m_K_send 44 (.aload_n 0) 1 45 := ⟨by decide +kernel, rfl⟩
theorem d_K_send_45 : kI m_K_send 45 (.aload_n 0) 1 46 := ⟨by decide +kernel, rfl⟩
theorem d_K_send_46 : kI m_K_send 46 (.getfield 11) 3 49 := ⟨by decide +kernel, rfl⟩
theorem d_K_send_49 : kI m_K_send 49 (.iload_n 1) 1 50 := ⟨by decide +kernel, rfl⟩
theorem d_K_send_50 : kI m_K_send 50 .aaload 1 51 := ⟨by decide +kernel, rfl⟩
theorem d_K_send_51 : kI m_K_send 51 (.iconst 1) 1 52 := ⟨by decide +kernel, rfl⟩
theorem d_K_send_52 : kI m_K_send 52 (.iload_n 2) 1 53 := ⟨by decide +kernel, rfl⟩
theorem d_K_send_53 : kI m_K_send 53 (.iload_n 3) 1 54 := ⟨by decide +kernel, rfl⟩
theorem d_K_send_54 : kI m_K_send 54 (.invokevirtual 93) 3 57 := ⟨by decide +kernel, rfl⟩
theorem d_K_send_57 : kI m_K_send 57 .ireturn 1 58 := ⟨by decide +kernel, rfl⟩
theorem d_K_call_0 : kI m_K_call 0 (.aload_n 0) 1 1 := ⟨by decide +kernel, rfl⟩
theorem d_K_call_1 : kI m_K_call 1 (.iload_n 1) 1 2 := ⟨by decide +kernel, rfl⟩
theorem d_K_call_2 : kI m_K_call 2 (.iload_n 2) 1 3 := ⟨by decide +kernel, rfl⟩
theorem d_K_call_3 : kI m_K_call 3 (.iload_n 3) 1 4 := ⟨by decide +kernel, rfl⟩
theorem d_K_call_4 : kI m_K_call 4 (.invokevirtual 82) 3 7 := ⟨by decide +kernel, rfl⟩
theorem d_K_call_7 : kJ m_K_call 7 (.ifCond .ne 5) 5 10 12 := ⟨by decide +kernel, rfl, by decide⟩
theorem d_K_call_10 : kI m_K_call 10 (.iconst (-1)) 1 11 := ⟨by decide +kernel, rfl⟩
theorem d_K_call_11 : kI m_K_call 11 .ireturn 1 12 := ⟨by decide +kernel, rfl⟩
theorem d_K_call_12 : kI m_K_call 12 (.aload_n 0) 1 13 := ⟨by decide +kernel, rfl⟩
theorem d_K_call_13 : kI m_K_call 13 (.getfield 11) 3 16 := ⟨by decide +kernel, rfl⟩
theorem d_K_call_16 : kI m_K_call 16 (.iload_n 2) 1 17 := ⟨by decide +kernel, rfl⟩
theorem d_K_call_17 : kI m_K_call 17 .aaload 1 18 := ⟨by decide +kernel, rfl⟩
theorem d_K_call_18 : kI m_K_call 18 (.iload_n 1) 1 19 := ⟨by decide +kernel, rfl⟩
theorem d_K_call_19 : kI m_K_call 19 (.invokevirtual 86) 3 22 := ⟨by decide +kernel, rfl⟩
theorem d_K_call_22 : kJ m_K_call 22 (.ifCond .eq 22) 22 25 44 := ⟨by decide +kernel, rfl, by decide⟩
theorem d_K_call_25 : kI m_K_call 25 (.aload_n 0) 1 26 := ⟨by decide +kernel, rfl⟩
theorem d_K_call_26 : kI m_K_call 26 (.aload_n 0) 1 27 := ⟨by decide +kernel, rfl⟩
theorem d_K_call_27 : kI m_K_call 27 (.getfield 11) 3 30 := ⟨by decide +kernel, rfl⟩
theorem d_K_call_30 : kI m_K_call 30 (.iload_n 1) 1 31 := ⟨by decide +kernel, rfl⟩
theorem d_K_call_31 : kI m_K_call 31 .aaload 1 32 := ⟨by decide +kernel, rfl⟩
theorem d_K_call_32 : kI m_K_call 32 (.aload_n 0) 1 33 := ⟨by decide +kernel, rfl⟩
theorem d_K_call_33 : kI m_K_call 33 (.getfield 11) 3 36 := ⟨by decide +kernel, rfl⟩
theorem d_K_call_36 : kI m_K_call 36 (.iload_n 2) 1 37 := ⟨by decide +kernel, rfl⟩
theorem d_K_call_37 : kI m_K_call 37 .aaload 1 38 := ⟨by decide +kernel, rfl⟩
theorem d_K_call_38 : kI m_K_call 38 (.iconst 1) 1 39 := ⟨by decide +kernel, rfl⟩
theorem d_K_call_39 : kI m_K_call 39 (.invokevirtual 89) 3 42 := ⟨by decide +kernel, rfl⟩
theorem d_K_call_42 : kI m_K_call 42 (.iconst 1) 1 43 := ⟨by decide +kernel, rfl⟩
theorem d_K_call_43 : kI m_K_call 43 .ireturn 1 44 := ⟨by decide +kernel, rfl⟩
theorem d_K_call_44 : kI m_K_call 44 (.aload_n 0) 1 45 := ⟨by decide +kernel, rfl⟩
theorem d_K_call_45 : kI m_K_call 45 (.aload_n 0) 1 46 := ⟨by decide +kernel, rfl⟩
theorem d_K_call_46 : kI m_K_call 46 (.getfield 11) 3 49 := ⟨by decide +kernel, rfl⟩
theorem d_K_call_49 : kI m_K_call 49 (.iload_n 1) 1 50 := ⟨by decide +kernel, rfl⟩
theorem d_K_call_50 : kI m_K_call 50 .aaload 1 51 := ⟨by decide +kernel, rfl⟩
theorem d_K_call_51 : kI m_K_call 51 (.iconst 3) 1 52 := ⟨by decide +kernel, rfl⟩
theorem d_K_call_52 : kI m_K_call 52 (.iload_n 2) 1 53 := ⟨by decide +kernel, rfl⟩
theorem d_K_call_53 : kI m_K_call 53 (.iload_n 3) 1 54 := ⟨by decide +kernel, rfl⟩
theorem d_K_call_54 : kI m_K_call 54 (.invokevirtual 93) 3 57 := ⟨by decide +kernel, rfl⟩
theorem d_K_call_57 : kI m_K_call 57 .ireturn 1 58 := ⟨by decide +kernel, rfl⟩
theorem d_K_receive_0 : kI m_K_receive 0 (.aload_n 0) 1 1 := ⟨by decide +kernel, rfl⟩
theorem d_K_receive_1 : kI m_K_receive 1 (.iload_n 1) 1 2 := ⟨by decide +kernel, rfl⟩
theorem d_K_receive_2 : kI m_K_receive 2 (.invokevirtual 57) 3 5 := ⟨by decide +kernel, rfl⟩
theorem d_K_receive_5 : kJ m_K_receive 5 (.ifCond .eq 28) 28 8 33 := ⟨by decide +kernel, rfl, by decide⟩
theorem d_K_receive_8 : kI m_K_receive 8 (.iload_n 2) 1 9 := ⟨by decide +kernel, rfl⟩
theorem d_K_receive_9 : kI m_K_receive 9 (.iload_n 1) 1 10 := ⟨by decide +kernel, rfl⟩
theorem d_K_receive_10 : kJ m_K_receive 10 (.if_icmp .eq 23) 23 13 33 := ⟨by decide +kernel, rfl, by decide⟩
theorem d_K_receive_13 : kI m_K_receive 13 (.iload_n 2) 1 14 := ⟨by decide +kernel, rfl⟩
theorem d_K_receive_14 : kI m_K_receive 14 (.iconst (-1)) 1 15 := ⟨by decide +kernel, rfl⟩
theorem d_K_receive_15 : kJ m_K_receive 15 (.if_icmp .eq 11) 11 18 26 := ⟨by decide +kernel, rfl, by decide⟩
theorem d_K_receive_18 : kI m_K_receive 18 (.aload_n 0) 1 19 := ⟨by decide +kernel, rfl⟩
theorem d_K_receive_19 : kI m_K_receive 19 (.iload_n 2) 1 20 := ⟨by decide +kernel, rfl⟩
theorem d_K_receive_20 : kI m_K_receive 20 (.invokevirtual 44) 3 23 := ⟨by decide +kernel, rfl⟩
theorem d_K_receive_23 : kJ m_K_receive 23 (.ifCond .eq 10) 10 26 33 := ⟨by decide +kernel, rfl, by decide⟩
theorem d_K_receive_26 : kI m_K_receive 26 (.iload_n 3) 1 27 := ⟨by decide +kernel, rfl⟩
theorem d_K_receive_27 : kI m_K_receive 27 (.invokestatic 97) 3 30 := ⟨by decide +kernel, rfl⟩
theorem d_K_receive_30 : kJ m_K_receive 30 (.ifCond .ne 5) 5 33 35 := ⟨by decide +kernel, rfl, by decide⟩
theorem d_K_receive_33 : kI m_K_receive 33 (.iconst (-1)) 1 34 := ⟨by decide +kernel, rfl⟩
theorem d_K_receive_34 : kI m_K_receive 34 .ireturn 1 35 := ⟨by decide +kernel, rfl⟩
theorem d_K_receive_35 : kI m_K_receive 35 (.aload_n 0) 1 36 := ⟨by decide +kernel, rfl⟩
theorem d_K_receive_36 : kI m_K_receive 36 (.getfield 11) 3 39 := ⟨by decide +kernel, rfl⟩
theorem d_K_receive_39 : kI m_K_receive 39 (.iload_n 1) 1 40 := ⟨by decide +kernel, rfl⟩
theorem d_K_receive_40 : kI m_K_receive 40 .aaload 1 41 := ⟨by decide +kernel, rfl⟩
theorem d_K_receive_41 : kI m_K_receive 41 (.astore 4) 2 43 := ⟨by decide +kernel, rfl⟩
theorem d_K_receive_43 : kI m_K_receive 43 (.aload_n 0) 1 44 := ⟨by decide +kernel, rfl⟩
theorem d_K_receive_44 : kI m_K_receive 44 (.iload_n 1) 1 45 := ⟨by decide +kernel, rfl⟩
theorem d_K_receive_45 : kI m_K_receive 45 (.iload_n 2) 1 46 := ⟨by decide +kernel, rfl⟩
theorem d_K_receive_46 : kI m_K_receive 46 (.invokevirtual 100) 3 49 := ⟨by decide +kernel, rfl⟩
theorem d_K_receive_49 : kI m_K_receive 49 (.astore 5) 2 51 := ⟨by decide +kernel, rfl⟩
theorem d_K_receive_51 : kI m_K_receive 51 (.aload 5) 2 53 := ⟨by decide +kernel, rfl⟩
theorem d_K_receive_53 : kJ m_K_receive 53 (.ifnull 13) 13 56 66 := ⟨by decide +kernel, rfl, by decide⟩
theorem d_K_receive_56 : kI m_K_receive 56 (.aload_n 0) 1 57 := ⟨by decide +kernel, rfl⟩
theorem d_K_receive_57 : kI m_K_receive 57 (.aload 5) 2 59 := ⟨by decide +kernel, rfl⟩
theorem d_K_receive_59 : kI m_K_receive 59 (.aload 4) 2 61 := ⟨by decide +kernel, rfl⟩
theorem d_K_receive_61 : kI m_K_receive 61 (.invokevirtual 104) 3 64 := ⟨by decide +kernel, rfl⟩
theorem d_K_receive_64 : kI m_K_receive 64 (.iconst 0) 1 65 := ⟨by decide +kernel, rfl⟩
theorem d_K_receive_65 : kI m_K_receive 65 .ireturn 1 66 := ⟨by decide +kernel, rfl⟩
theorem d_K_receive_66 : kI m_K_receive 66 (.iload_n 3) 1 67 := ⟨by decide +kernel, rfl⟩
theorem d_K_receive_67 : kJ m_K_receive 67 (.ifCond .ne 9) 9 70 76 := ⟨by decide +kernel, rfl, by decide⟩
theorem d_K_receive_70 : kI m_K_receive 70 (.aload 4) 2 72 := ⟨by decide +kernel, rfl⟩
theorem d_K_receive_72 : kI m_K_receive 72 (.invokestatic 108) 3 75 := ⟨by decide +kernel, rfl⟩
theorem d_K_receive_75 : kI m_K_receive 75 .ireturn 1 76 := ⟨by decide +kernel, rfl⟩
theorem d_K_receive_76 : kI m_K_receive 76 (.aload 4) 2 78 := ⟨by decide +kernel, rfl⟩
theorem d_K_receive_78 : kI m_K_receive 78 (.iconst 2) 1 79 := ⟨by decide +kernel, rfl⟩
theorem d_K_receive_79 : kI m_K_receive 79 (.iload_n 2) 1 80 := ⟨by decide +kernel, rfl⟩
theorem d_K_receive_80 : kI m_K_receive 80 (.aload_n 0) 1 81 := ⟨by decide +kernel, rfl⟩
theorem d_K_receive_81 : kI m_K_receive 81 (.iload_n 3) 1 82 := ⟨by decide +kernel, rfl⟩
theorem d_K_receive_82 : kI m_K_receive 82 (.invokevirtual 112) 3 85 := ⟨by decide +kernel, rfl⟩
theorem d_K_receive_85 : kI m_K_receive 85 (.invokevirtual 116) 3 88 := ⟨by decide +kernel, rfl⟩
theorem d_K_receive_88 : kI m_K_receive 88 (.iconst 1) 1 89 := ⟨by decide +kernel, rfl⟩
theorem d_K_receive_89 : kI m_K_receive 89 .ireturn 1 90 := ⟨by decide +kernel, rfl⟩
theorem d_K_access_0 : kI m_K_access 0 (.aload_n 0) 1 1 := ⟨by decide +kernel, rfl⟩
theorem d_K_access_1 : kI m_K_access 1 (.iload_n 1) 1 2 := ⟨by decide +kernel, rfl⟩
theorem d_K_access_2 : kI m_K_access 2 (.invokevirtual 57) 3 5 := ⟨by decide +kernel, rfl⟩
theorem d_K_access_5 : kJ m_K_access 5 (.ifCond .eq 10) 10 8 15 := ⟨by decide +kernel, rfl, by decide⟩
theorem d_K_access_8 : kI m_K_access 8 (.iload_n 2) 1 9 := ⟨by decide +kernel, rfl⟩
theorem d_K_access_9 : kI m_K_access 9 (.invokestatic 120) 3 12 := ⟨by decide +kernel, rfl⟩
theorem d_K_access_12 : kJ m_K_access 12 (.ifCond .ne 5) 5 15 17 := ⟨by decide +kernel, rfl, by decide⟩
theorem d_K_access_15 : kI m_K_access 15 (.iconst (-1)) 1 16 := ⟨by decide +kernel, rfl⟩
theorem d_K_access_16 : kI m_K_access 16 .ireturn 1 17 := ⟨by decide +kernel, rfl⟩
theorem d_K_access_17 : kI m_K_access 17 (.aload_n 0) 1 18 := ⟨by decide +kernel, rfl⟩
theorem d_K_access_18 : kI m_K_access 18 (.getfield 11) 3 21 := ⟨by decide +kernel, rfl⟩
theorem d_K_access_21 : kI m_K_access 21 (.iload_n 1) 1 22 := ⟨by decide +kernel, rfl⟩
theorem d_K_access_22 : kI m_K_access 22 .aaload 1 23 := ⟨by decide +kernel, rfl⟩
theorem d_K_access_23 : kI m_K_access 23 (.astore 5) 2 25 := ⟨by decide +kernel, rfl⟩
theorem d_K_access_25 : kI m_K_access 25 (.aload 5) 2 27 := ⟨by decide +kernel, rfl⟩
theorem d_K_access_27 : kI m_K_access 27 (.iload_n 2) 1 28 := ⟨by decide +kernel, rfl⟩
theorem d_K_access_28 : kI m_K_access 28 (.putfield 123) 3 31 := ⟨by decide +kernel, rfl⟩
theorem d_K_access_31 : kI m_K_access 31 (.aload 5) 2 33 := ⟨by decide +kernel, rfl⟩
theorem d_K_access_33 : kI m_K_access 33 (.iload_n 3) 1 34 := ⟨by decide +kernel, rfl⟩
theorem d_K_access_34 : kJ m_K_access 34 (.ifCond .eq 7) 7 37 41 := ⟨by decide +kernel, rfl, by decide⟩
theorem d_K_access_37 : kI m_K_access 37 (.iconst 2) 1 38 := ⟨by decide +kernel, rfl⟩
theorem d_K_access_38 : kJ m_K_access 38 (.goto 4) 4 41 42 := ⟨by decide +kernel, rfl, by decide⟩
theorem d_K_access_41 : kI m_K_access 41 (.iconst 1) 1 42 := ⟨by decide +kernel, rfl⟩
theorem d_K_access_42 : kI m_K_access 42 (.putfield 126) 3 45 := ⟨by decide +kernel, rfl⟩
theorem d_K_access_45 : kI m_K_access 45 (.aload 5) 2 47 := ⟨by decide +kernel, rfl⟩
theorem d_K_access_47 : kI m_K_access 47 (.iload 4) 2 49 := ⟨by decide +kernel, rfl⟩
theorem d_K_access_49 : kI m_K_access 49 (.putfield 129) 3 52 := ⟨by decide +kernel, rfl⟩
theorem d_K_access_52 : kI m_K_access 52 (.aload_n 0) 1 53 := ⟨by decide +kernel, rfl⟩
theorem d_K_access_53 : kI m_K_access 53 (.aload 5) 2 55 := ⟨by decide +kernel, rfl⟩
theorem d_K_access_55 : kI m_K_access 55 (.invokevirtual 132) 3 58 := ⟨by decide +kernel, rfl⟩
theorem d_K_access_58 : kI m_K_access 58 (.aload 5) 2 60 := ⟨by decide +kernel, rfl⟩
theorem d_K_access_60 : kI m_K_access 60 (.getfield 51) 3 63 := ⟨by decide +kernel, rfl⟩
theorem d_K_access_63 : kJ m_K_access 63 (.ifCond .ne 5) 5 66 68 := ⟨by decide +kernel, rfl, by decide⟩
theorem d_K_access_66 : kI m_K_access 66 (.iconst 0) 1 67 := ⟨by decide +kernel, rfl⟩
theorem d_K_access_67 : kI m_K_access 67 .ireturn 1 68 := ⟨by decide +kernel, rfl⟩
theorem d_K_access_68 : kI m_K_access 68 (.aload 5) 2 70 := ⟨by decide +kernel, rfl⟩
theorem d_K_access_70 : kI m_K_access 70 (.getfield 51) 3 73 := ⟨by decide +kernel, rfl⟩
theorem d_K_access_73 : kI m_K_access 73 (.bipush 6) 2 75 := ⟨by decide +kernel, rfl⟩
theorem d_K_access_75 : kJ m_K_access 75 (.if_icmp .ne 7) 7 78 82 := ⟨by decide +kernel, rfl, by decide⟩
theorem d_K_access_78 : kI m_K_access 78 (.iconst 2) 1 79 := ⟨by decide +kernel, rfl⟩
theorem d_K_access_79 : kJ m_K_access 79 (.goto 4) 4 82 83 := ⟨by decide +kernel, rfl, by decide⟩
theorem d_K_access_82 : kI m_K_access 82 (.iconst 1) 1 83 := ⟨by decide +kernel, rfl⟩
theorem d_K_access_83 : kI m_K_access 83 .ireturn 1 84 := ⟨by decide +kernel, rfl⟩
theorem d_K_unmap_0 : kI m_K_unmap 0 (.aload_n 0) 1 1 := ⟨by decide +kernel, rfl⟩
theorem d_K_unmap_1 : kI m_K_unmap 1 (.iload_n 1) 1 2 := ⟨by decide +kernel, rfl⟩
theorem d_K_unmap_2 : kI m_K_unmap 2 (.invokevirtual 57) 3 5 := ⟨by decide +kernel, rfl⟩
theorem d_K_unmap_5 : kJ m_K_unmap 5 (.ifCond .eq 17) 17 8 22 := ⟨by decide +kernel, rfl, by decide⟩
theorem d_K_unmap_8 : kI m_K_unmap 8 (.iload_n 2) 1 9 := ⟨by decide +kernel, rfl⟩
theorem d_K_unmap_9 : kI m_K_unmap 9 (.invokestatic 120) 3 12 := ⟨by decide +kernel, rfl⟩
theorem d_K_unmap_12 : kJ m_K_unmap 12 (.ifCond .eq 10) 10 15 22 := ⟨by decide +kernel, rfl, by decide⟩
theorem d_K_unmap_15 : kI m_K_unmap 15 (.iload_n 3) 1 16 := ⟨by decide +kernel, rfl⟩
theorem d_K_unmap_16 : kI m_K_unmap 16 (.invokestatic 66) 3 19 := ⟨by decide +kernel, rfl⟩
theorem d_K_unmap_19 : kJ m_K_unmap 19 (.ifCond .ne 5) 5 22 24 := ⟨by decide +kernel, rfl, by decide⟩
theorem d_K_unmap_22 : kI m_K_unmap 22 (.iconst (-1)) 1 23 := ⟨by decide +kernel, rfl⟩
theorem d_K_unmap_23 : kI m_K_unmap 23 .ireturn 1 24 := ⟨by decide +kernel, rfl⟩
theorem d_K_unmap_24 : kI m_K_unmap 24 (.aload_n 0) 1 25 := ⟨by decide +kernel, rfl⟩
theorem d_K_unmap_25 : kI m_K_unmap 25 (.getfield 11) 3 28 := ⟨by decide +kernel, rfl⟩
theorem d_K_unmap_28 : kI m_K_unmap 28 (.iload_n 1) 1 29 := ⟨by decide +kernel, rfl⟩
theorem d_K_unmap_29 : kI m_K_unmap 29 .aaload 1 30 := ⟨by decide +kernel, rfl⟩
theorem d_K_unmap_30 : kI m_K_unmap 30 (.getfield 136) 3 33 := ⟨by decide +kernel, rfl⟩
theorem d_K_unmap_33 : kI m_K_unmap 33 (.iload_n 2) 1 34 := ⟨by decide +kernel, rfl⟩
theorem d_K_unmap_34 : kI m_K_unmap 34 (.invokestatic 139) 3 37 := ⟨by decide +kernel, rfl⟩
theorem d_K_unmap_37 : kI m_K_unmap 37 (.istore 5) 2 39 := ⟨by decide +kernel, rfl⟩
theorem d_K_unmap_39 : kI m_K_unmap 39 (.aload_n 0) 1 40 := ⟨by decide +kernel, rfl⟩
theorem d_K_unmap_40 : kI m_K_unmap 40 (.getfield 18) 3 43 := ⟨by decide +kernel, rfl⟩
theorem d_K_unmap_43 : kI m_K_unmap 43 (.iload 5) 2 45 := ⟨by decide +kernel, rfl⟩
theorem d_K_unmap_45 : kI m_K_unmap 45 (.invokevirtual 143) 3 48 := ⟨by decide +kernel, rfl⟩
theorem d_K_unmap_48 : kJ m_K_unmap 48 (.ifCond .ne 5) 5 51 53 := ⟨by decide +kernel, rfl, by decide⟩
theorem d_K_unmap_51 : kI m_K_unmap 51 (.iconst 0) 1 52 := ⟨by decide +kernel, rfl⟩
theorem d_K_unmap_52 : kI m_K_unmap 52 .ireturn 1 53 := ⟨by decide +kernel, rfl⟩
theorem d_K_unmap_53 : kI m_K_unmap 53 (.iload_n 3) 1 54 := ⟨by decide +kernel, rfl⟩
theorem d_K_unmap_54 : kI m_K_unmap 54 (.iconst 1) 1 55 := ⟨by decide +kernel, rfl⟩
theorem d_K_unmap_55 : kI m_K_unmap 55 .isub 1 56 := ⟨by decide +kernel, rfl⟩
theorem d_K_unmap_56 : kI m_K_unmap 56 (.istore 6) 2 58 := ⟨by decide +kernel, rfl⟩
theorem d_K_unmap_58 : kI m_K_unmap 58 (.aload_n 0) 1 59 := ⟨by decide +kernel, rfl⟩
theorem d_K_unmap_59 : kI m_K_unmap 59 (.getfield 18) 3 62 := ⟨by decide +kernel, rfl⟩
theorem d_K_unmap_62 : kI m_K_unmap 62 (.iload 5) 2 64 := ⟨by decide +kernel, rfl⟩
theorem d_K_unmap_64 : kI m_K_unmap 64 (.iload 6) 2 66 := ⟨by decide +kernel, rfl⟩
theorem d_K_unmap_66 : kI m_K_unmap 66 (.invokevirtual 146) 3 69 := ⟨by decide +kernel, rfl⟩
theorem d_K_unmap_69 : kI m_K_unmap 69 (.iload 4) 2 71 := ⟨by decide +kernel, rfl⟩
theorem d_K_unmap_71 : kJ m_K_unmap 71 (.ifCond .eq 17) 17 74 88 := ⟨by decide +kernel, rfl, by decide⟩
theorem d_K_unmap_74 : kI m_K_unmap 74 (.aload_n 0) 1 75 := ⟨by decide +kernel, rfl⟩
theorem d_K_unmap_75 : kI m_K_unmap 75 (.getfield 18) 3 78 := ⟨by decide +kernel, rfl⟩
theorem d_K_unmap_78 : kI m_K_unmap 78 (.iload 5) 2 80 := ⟨by decide +kernel, rfl⟩
theorem d_K_unmap_80 : kI m_K_unmap 80 (.iload 6) 2 82 := ⟨by decide +kernel, rfl⟩
theorem d_K_unmap_82 : kI m_K_unmap 82 (.invokevirtual 149) 3 85 := ⟨by decide +kernel, rfl⟩
theorem d_K_unmap_85 : kJ m_K_unmap 85 (.goto 4) 4 88 89 := ⟨by decide +kernel, rfl, by decide⟩
theorem d_K_unmap_88 : kI m_K_unmap 88 (.iconst 0) 1 89 := ⟨by decide +kernel, rfl⟩
theorem d_K_unmap_89 : kI m_K_unmap 89 .iadd 1 90 := ⟨by decide +kernel, rfl⟩
theorem d_K_unmap_90 : kI m_K_unmap 90 .ireturn 1 91 := ⟨by decide +kernel, rfl⟩
theorem d_K_tick_0 : kI m_K_tick 0 (.aload_n 0) 1 1 := ⟨by decide +kernel, rfl⟩
theorem d_K_tick_1 : kI m_K_tick 1 .dup 1 2 := ⟨by decide +kernel, rfl⟩
theorem d_K_tick_2 : kI m_K_tick 2 (.getfield 26) 3 5 := ⟨by decide +kernel, rfl⟩
theorem d_K_tick_5 : kI m_K_tick 5 (.iconst 1) 1 6 := ⟨by decide +kernel, rfl⟩
theorem d_K_tick_6 : kI m_K_tick 6 .iadd 1 7 := ⟨by decide +kernel, rfl⟩
theorem d_K_tick_7 : kI m_K_tick 7 (.putfield 26) 3 10 := ⟨by decide +kernel, rfl⟩
theorem d_K_tick_10 : kI m_K_tick 10 (.iconst 0) 1 11 := ⟨by decide +kernel, rfl⟩
theorem d_K_tick_11 : kI m_K_tick 11 (.istore_n 1) 1 12 := ⟨by decide +kernel, rfl⟩
theorem d_K_tick_12 : kI m_K_tick 12 (.aload_n 0) 1 13 := ⟨by decide +kernel, rfl⟩
theorem d_K_tick_13 : kI m_K_tick 13 (.getfield 11) 3 16 := ⟨by decide +kernel, rfl⟩
theorem d_K_tick_16 : kI m_K_tick 16 (.astore_n 2) 1 17 := ⟨by decide +kernel, rfl⟩
theorem d_K_tick_17 : kI m_K_tick 17 (.aload_n 2) 1 18 := ⟨by decide +kernel, rfl⟩
theorem d_K_tick_18 : kI m_K_tick 18 .arraylength 1 19 := ⟨by decide +kernel, rfl⟩
theorem d_K_tick_19 : kI m_K_tick 19 (.istore_n 3) 1 20 := ⟨by decide +kernel, rfl⟩
theorem d_K_tick_20 : kI m_K_tick 20 (.iconst 0) 1 21 := ⟨by decide +kernel, rfl⟩
theorem d_K_tick_21 : kI m_K_tick 21 (.istore 4) 2 23 := ⟨by decide +kernel, rfl⟩
theorem d_K_tick_23 : kI m_K_tick 23 (.iload 4) 2 25 := ⟨by decide +kernel, rfl⟩
theorem d_K_tick_25 : kI m_K_tick 25 (.iload_n 3) 1 26 := ⟨by decide +kernel, rfl⟩
theorem d_K_tick_26 : kJ m_K_tick 26 (.if_icmp .ge 44) 44 29 70 := ⟨by decide +kernel, rfl, by decide⟩
theorem d_K_tick_29 : kI m_K_tick 29 (.aload_n 2) 1 30 := ⟨by decide +kernel, rfl⟩
theorem d_K_tick_30 : kI m_K_tick 30 (.iload 4) 2 32 := ⟨by decide +kernel, rfl⟩
theorem d_K_tick_32 : kI m_K_tick 32 .aaload 1 33 := ⟨by decide +kernel, rfl⟩
theorem d_K_tick_33 : kI m_K_tick 33 (.astore 5) 2 35 := ⟨by decide +kernel, rfl⟩
theorem d_K_tick_35 : kI m_K_tick 35 (.aload 5) 2 37 := ⟨by decide +kernel, rfl⟩
theorem d_K_tick_37 : kI m_K_tick 37 (.invokevirtual 152) 3 40 := ⟨by decide +kernel, rfl⟩
theorem d_K_tick_40 : kJ m_K_tick 40 (.ifCond .eq 24) 24 43 64 := ⟨by decide +kernel, rfl, by decide⟩
theorem d_K_tick_43 : kI m_K_tick 43 (.aload 5) 2 45 := ⟨by decide +kernel, rfl⟩
theorem d_K_tick_45 : kI m_K_tick 45 (.getfield 156) 3 48 := ⟨by decide +kernel, rfl⟩
theorem d_K_tick_48 : kI m_K_tick 48 (.aload_n 0) 1 49 := ⟨by decide +kernel, rfl⟩
theorem d_K_tick_49 : kI m_K_tick 49 (.getfield 26) 3 52 := ⟨by decide +kernel, rfl⟩
theorem d_K_tick_52 : kJ m_K_tick 52 (.if_icmp .ne 12) 12 55 64 := ⟨by decide +kernel, rfl, by decide⟩
theorem d_K_tick_55 : kI m_K_tick 55 (.aload 5) 2 57 := ⟨by decide +kernel, rfl⟩
theorem d_K_tick_57 : kI m_K_tick 57 (.iconst 1) 1 58 := ⟨by decide +kernel, rfl⟩
theorem d_K_tick_58 : kI m_K_tick 58 (.invokevirtual 158) 3 61 := ⟨by decide +kernel, rfl⟩
theorem d_K_tick_61 : kI m_K_tick 61 (.iinc 1 1) 3 64 := ⟨by decide +kernel, rfl⟩
theorem d_K_tick_64 : kI m_K_tick 64 (.iinc 4 1) 3 67 := ⟨by decide +kernel, rfl⟩
theorem d_K_tick_67 : kJ m_K_tick 67 (.goto (-44)) (-44) 70 23 := ⟨by decide +kernel, rfl, by decide⟩
theorem d_K_tick_70 : kI m_K_tick 70 (.iload_n 1) 1 71 := ⟨by decide +kernel, rfl⟩
theorem d_K_tick_71 : kI m_K_tick 71 .ireturn 1 72 := ⟨by decide +kernel, rfl⟩
theorem d_K_state_0 : kI m_K_state 0 (.aload_n 0) 1 1 := ⟨by decide +kernel, rfl⟩
theorem d_K_state_1 : kI m_K_state 1 (.iload_n 1) 1 2 := ⟨by decide +kernel, rfl⟩
theorem d_K_state_2 : kI m_K_state 2 (.invokevirtual 44) 3 5 := ⟨by decide +kernel, rfl⟩
theorem d_K_state_5 : kJ m_K_state 5 (.ifCond .eq 15) 15 8 20 := ⟨by decide +kernel, rfl, by decide⟩
theorem d_K_state_8 : kI m_K_state 8 (.aload_n 0) 1 9 := ⟨by decide +kernel, rfl⟩
theorem d_K_state_9 : kI m_K_state 9 (.getfield 11) 3 12 := ⟨by decide +kernel, rfl⟩
theorem d_K_state_12 : kI m_K_state 12 (.iload_n 1) 1 13 := ⟨by decide +kernel, rfl⟩
theorem d_K_state_13 : kI m_K_state 13 .aaload 1 14 := ⟨by decide +kernel, rfl⟩
theorem d_K_state_14 : kI m_K_state 14 (.getfield 51) 3 17 := ⟨by decide +kernel, rfl⟩
theorem d_K_state_17 : kJ m_K_state 17 (.goto 4) 4 20 21 := ⟨by decide +kernel, rfl, by decide⟩
theorem d_K_state_20 : kI m_K_state 20 (.iconst (-1)) 1 21 := ⟨by decide +kernel, rfl⟩
theorem d_K_state_21 : kI m_K_state 21 .ireturn 1 22 := ⟨by decide +kernel, rfl⟩
theorem d_K_register_0 : kI m_K_register 0 (.aload_n 0) 1 1 := ⟨by decide +kernel, rfl⟩
theorem d_K_register_1 : kI m_K_register 1 (.iload_n 1) 1 2 := ⟨by decide +kernel, rfl⟩
theorem d_K_register_2 : kI m_K_register 2 (.invokevirtual 44) 3 5 := ⟨by decide +kernel, rfl⟩
theorem d_K_register_5 : kJ m_K_register 5 (.ifCond .eq 12) 12 8 17 := ⟨by decide +kernel, rfl, by decide⟩
theorem d_K_register_8 : kI m_K_register 8 (.iload_n 2) 1 9 := ⟨by decide +kernel, rfl⟩
theorem d_K_register_9 : kJ m_K_register 9 (.ifCond .lt 8) 8 12 17 := ⟨by decide +kernel, rfl, by decide⟩
theorem d_K_register_12 : kI m_K_register 12 (.iload_n 2) 1 13 := ⟨by decide +kernel, rfl⟩
theorem d_K_register_13 : kI m_K_register 13 (.iconst 4) 1 14 := ⟨by decide +kernel, rfl⟩
theorem d_K_register_14 : kJ m_K_register 14 (.if_icmp .le 5) 5 17 19 := ⟨by decide +kernel, rfl, by decide⟩
theorem d_K_register_17 : kI m_K_register 17 (.iconst 0) 1 18 := ⟨by decide +kernel, rfl⟩
theorem d_K_register_18 : kI m_K_register 18 .ireturn 1 19 := ⟨by decide +kernel, rfl⟩
theorem d_K_register_19 : kI m_K_register 19 (.iload_n 2) 1 20 := ⟨by decide +kernel, rfl⟩
theorem d_K_register_20 : kI m_K_register 20 (.iconst 4) 1 21 := ⟨by decide +kernel, rfl⟩
theorem d_K_register_21 : kJ m_K_register 21 (.if_icmp .ne 15) 15 24 36 := ⟨by decide +kernel, rfl, by decide⟩
theorem d_K_register_24 : kI m_K_register 24 (.aload_n 0) 1 25 := ⟨by decide +kernel, rfl⟩
theorem d_K_register_25 : kI m_K_register 25 (.getfield 11) 3 28 := ⟨by decide +kernel, rfl⟩
theorem d_K_register_28 : kI m_K_register 28 (.iload_n 1) 1 29 := ⟨by decide +kernel, rfl⟩
theorem d_K_register_29 : kI m_K_register 29 .aaload 1 30 := ⟨by decide +kernel, rfl⟩
theorem d_K_register_30 : kI m_K_register 30 (.getfield 161) 3 33 := ⟨by decide +kernel, rfl⟩
theorem d_K_register_33 : kJ m_K_register 33 (.goto 14) 14 36 47 := ⟨by decide +kernel, rfl, by decide⟩
theorem d_K_register_36 : kI m_K_register 36 (.aload_n 0) 1 37 := ⟨by decide +kernel, rfl⟩
theorem d_K_register_37 : kI m_K_register 37 (.getfield 11) 3 40 := ⟨by decide +kernel, rfl⟩
theorem d_K_register_40 : kI m_K_register 40 (.iload_n 1) 1 41 := ⟨by decide +kernel, rfl⟩
theorem d_K_register_41 : kI m_K_register 41 .aaload 1 42 := ⟨by decide +kernel, rfl⟩
theorem d_K_register_42 : kI m_K_register 42 (.getfield 60) 3 45 := ⟨by decide +kernel, rfl⟩
theorem d_K_register_45 : kI m_K_register 45 (.iload_n 2) 1 46 := ⟨by decide +kernel, rfl⟩
theorem d_K_register_46 : kI m_K_register 46 .iaload 1 47 := ⟨by decide +kernel, rfl⟩
theorem d_K_register_47 : kI m_K_register 47 .ireturn 1 48 := ⟨by decide +kernel, rfl⟩
theorem d_K_outcome_0 : kI m_K_outcome 0 (.aload_n 0) 1 1 := ⟨by decide +kernel, rfl⟩
theorem d_K_outcome_1 : kI m_K_outcome 1 (.iload_n 1) 1 2 := ⟨by decide +kernel, rfl⟩
theorem d_K_outcome_2 : kI m_K_outcome 2 (.invokevirtual 44) 3 5 := ⟨by decide +kernel, rfl⟩
theorem d_K_outcome_5 : kJ m_K_outcome 5 (.ifCond .eq 15) 15 8 20 := ⟨by decide +kernel, rfl, by decide⟩
theorem d_K_outcome_8 : kI m_K_outcome 8 (.aload_n 0) 1 9 := ⟨by decide +kernel, rfl⟩
theorem d_K_outcome_9 : kI m_K_outcome 9 (.getfield 11) 3 12 := ⟨by decide +kernel, rfl⟩
theorem d_K_outcome_12 : kI m_K_outcome 12 (.iload_n 1) 1 13 := ⟨by decide +kernel, rfl⟩
theorem d_K_outcome_13 : kI m_K_outcome 13 .aaload 1 14 := ⟨by decide +kernel, rfl⟩
theorem d_K_outcome_14 : kI m_K_outcome 14 (.getfield 164) 3 17 := ⟨by decide +kernel, rfl⟩
theorem d_K_outcome_17 : kJ m_K_outcome 17 (.goto 4) 4 20 21 := ⟨by decide +kernel, rfl, by decide⟩
theorem d_K_outcome_20 : kI m_K_outcome 20 (.iconst (-1)) 1 21 := ⟨by decide +kernel, rfl⟩
theorem d_K_outcome_21 : kI m_K_outcome 21 .ireturn 1 22 := ⟨by decide +kernel, rfl⟩
theorem d_K_value_0 : kI m_K_value 0 (.aload_n 0) 1 1 := ⟨by decide +kernel, rfl⟩
theorem d_K_value_1 : kI m_K_value 1 (.iload_n 1) 1 2 := ⟨by decide +kernel, rfl⟩
theorem d_K_value_2 : kI m_K_value 2 (.invokevirtual 44) 3 5 := ⟨by decide +kernel, rfl⟩
theorem d_K_value_5 : kJ m_K_value 5 (.ifCond .eq 15) 15 8 20 := ⟨by decide +kernel, rfl, by decide⟩
theorem d_K_value_8 : kI m_K_value 8 (.aload_n 0) 1 9 := ⟨by decide +kernel, rfl⟩
theorem d_K_value_9 : kI m_K_value 9 (.getfield 11) 3 12 := ⟨by decide +kernel, rfl⟩
theorem d_K_value_12 : kI m_K_value 12 (.iload_n 1) 1 13 := ⟨by decide +kernel, rfl⟩
theorem d_K_value_13 : kI m_K_value 13 .aaload 1 14 := ⟨by decide +kernel, rfl⟩
theorem d_K_value_14 : kI m_K_value 14 (.getfield 167) 3 17 := ⟨by decide +kernel, rfl⟩
theorem d_K_value_17 : kJ m_K_value 17 (.goto 4) 4 20 21 := ⟨by decide +kernel, rfl, by decide⟩
theorem d_K_value_20 : kI m_K_value 20 (.iconst 0) 1 21 := ⟨by decide +kernel, rfl⟩
theorem d_K_value_21 : kI m_K_value 21 .ireturn 1 22 := ⟨by decide +kernel, rfl⟩
theorem d_K_sender_0 : kI m_K_sender 0 (.aload_n 0) 1 1 := ⟨by decide +kernel, rfl⟩
theorem d_K_sender_1 : kI m_K_sender 1 (.iload_n 1) 1 2 := ⟨by decide +kernel, rfl⟩
theorem d_K_sender_2 : kI m_K_sender 2 (.invokevirtual 44) 3 5 := ⟨by decide +kernel, rfl⟩
theorem d_K_sender_5 : kJ m_K_sender 5 (.ifCond .eq 15) 15 8 20 := ⟨by decide +kernel, rfl, by decide⟩
theorem d_K_sender_8 : kI m_K_sender 8 (.aload_n 0) 1 9 := ⟨by decide +kernel, rfl⟩
theorem d_K_sender_9 : kI m_K_sender 9 (.getfield 11) 3 12 := ⟨by decide +kernel, rfl⟩
theorem d_K_sender_12 : kI m_K_sender 12 (.iload_n 1) 1 13 := ⟨by decide +kernel, rfl⟩
theorem d_K_sender_13 : kI m_K_sender 13 .aaload 1 14 := ⟨by decide +kernel, rfl⟩
theorem d_K_sender_14 : kI m_K_sender 14 (.getfield 170) 3 17 := ⟨by decide +kernel, rfl⟩
theorem d_K_sender_17 : kJ m_K_sender 17 (.goto 4) 4 20 21 := ⟨by decide +kernel, rfl, by decide⟩
theorem d_K_sender_20 : kI m_K_sender 20 (.iconst (-1)) 1 21 := ⟨by decide +kernel, rfl⟩
theorem d_K_sender_21 : kI m_K_sender 21 .ireturn 1 22 := ⟨by decide +kernel, rfl⟩
theorem d_K_mapping_0 : kI m_K_mapping 0 (.iload_n 1) 1 1 := ⟨by decide +kernel, rfl⟩
theorem d_K_mapping_1 : kI m_K_mapping 1 (.invokestatic 40) 3 4 := ⟨by decide +kernel, rfl⟩
theorem d_K_mapping_4 : kJ m_K_mapping 4 (.ifCond .eq 10) 10 7 14 := ⟨by decide +kernel, rfl, by decide⟩
theorem d_K_mapping_7 : kI m_K_mapping 7 (.iload_n 2) 1 8 := ⟨by decide +kernel, rfl⟩
theorem d_K_mapping_8 : kI m_K_mapping 8 (.invokestatic 120) 3 11 := ⟨by decide +kernel, rfl⟩
theorem d_K_mapping_11 : kJ m_K_mapping 11 (.ifCond .ne 5) 5 14 16 := ⟨by decide +kernel, rfl, by decide⟩
theorem d_K_mapping_14 : kI m_K_mapping 14 (.iconst (-1)) 1 15 := ⟨by decide +kernel, rfl⟩
theorem d_K_mapping_15 : kI m_K_mapping 15 .ireturn 1 16 := ⟨by decide +kernel, rfl⟩
theorem d_K_mapping_16 : kI m_K_mapping 16 (.aload_n 0) 1 17 := ⟨by decide +kernel, rfl⟩
theorem d_K_mapping_17 : kI m_K_mapping 17 (.getfield 18) 3 20 := ⟨by decide +kernel, rfl⟩
theorem d_K_mapping_20 : kI m_K_mapping 20 (.iload_n 1) 1 21 := ⟨by decide +kernel, rfl⟩
theorem d_K_mapping_21 : kI m_K_mapping 21 (.iload_n 2) 1 22 := ⟨by decide +kernel, rfl⟩
theorem d_K_mapping_22 : kI m_K_mapping 22 (.invokestatic 139) 3 25 := ⟨by decide +kernel, rfl⟩
theorem d_K_mapping_25 : kI m_K_mapping 25 (.invokevirtual 173) 3 28 := ⟨by decide +kernel, rfl⟩
theorem d_K_mapping_28 : kI m_K_mapping 28 .ireturn 1 29 := ⟨by decide +kernel, rfl⟩
theorem d_K_heirs_0 : kI m_K_heirs 0 (.iload_n 1) 1 1 := ⟨by decide +kernel, rfl⟩
theorem d_K_heirs_1 : kI m_K_heirs 1 (.invokestatic 40) 3 4 := ⟨by decide +kernel, rfl⟩
theorem d_K_heirs_4 : kJ m_K_heirs 4 (.ifCond .eq 25) 25 7 29 := ⟨by decide +kernel, rfl, by decide⟩
theorem d_K_heirs_7 : kI m_K_heirs 7 (.iload_n 2) 1 8 := ⟨by decide +kernel, rfl⟩
theorem d_K_heirs_8 : kI m_K_heirs 8 (.invokestatic 120) 3 11 := ⟨by decide +kernel, rfl⟩
theorem d_K_heirs_11 : kJ m_K_heirs 11 (.ifCond .eq 18) 18 14 29 := ⟨by decide +kernel, rfl, by decide⟩
theorem d_K_heirs_14 : kI m_K_heirs 14 (.aload_n 0) 1 15 := ⟨by decide +kernel, rfl⟩
theorem d_K_heirs_15 : kI m_K_heirs 15 (.getfield 18) 3 18 := ⟨by decide +kernel, rfl⟩
theorem d_K_heirs_18 : kI m_K_heirs 18 (.iload_n 1) 1 19 := ⟨by decide +kernel, rfl⟩
theorem d_K_heirs_19 : kI m_K_heirs 19 (.iload_n 2) 1 20 := ⟨by decide +kernel, rfl⟩
theorem d_K_heirs_20 : kI m_K_heirs 20 (.invokestatic 139) 3 23 := ⟨by decide +kernel, rfl⟩
theorem d_K_heirs_23 : kI m_K_heirs 23 (.invokevirtual 143) 3 26 := ⟨by decide +kernel, rfl⟩
theorem d_K_heirs_26 : kJ m_K_heirs 26 (.ifCond .ne 5) 5 29 31 := ⟨by decide +kernel, rfl, by decide⟩
theorem d_K_heirs_29 : kI m_K_heirs 29 (.iconst (-1)) 1 30 := ⟨by decide +kernel, rfl⟩
theorem d_K_heirs_30 : kI m_K_heirs 30 .ireturn 1 31 := ⟨by decide +kernel, rfl⟩
theorem d_K_heirs_31 : kI m_K_heirs 31 (.aload_n 0) 1 32 := ⟨by decide +kernel, rfl⟩
theorem d_K_heirs_32 : kI m_K_heirs 32 (.getfield 18) 3 35 := ⟨by decide +kernel, rfl⟩
theorem d_K_heirs_35 : kI m_K_heirs 35 (.iload_n 1) 1 36 := ⟨by decide +kernel, rfl⟩
theorem d_K_heirs_36 : kI m_K_heirs 36 (.iload_n 2) 1 37 := ⟨by decide +kernel, rfl⟩
theorem d_K_heirs_37 : kI m_K_heirs 37 (.invokestatic 139) 3 40 := ⟨by decide +kernel, rfl⟩
theorem d_K_heirs_40 : kI m_K_heirs 40 (.invokevirtual 176) 3 43 := ⟨by decide +kernel, rfl⟩
theorem d_K_heirs_43 : kI m_K_heirs 43 .ireturn 1 44 := ⟨by decide +kernel, rfl⟩
theorem d_K_waiting_0 : kI m_K_waiting 0 (.aload_n 0) 1 1 := ⟨by decide +kernel, rfl⟩
theorem d_K_waiting_1 : kI m_K_waiting 1 (.iload_n 1) 1 2 := ⟨by decide +kernel, rfl⟩
theorem d_K_waiting_2 : kI m_K_waiting 2 (.invokevirtual 44) 3 5 := ⟨by decide +kernel, rfl⟩
theorem d_K_waiting_5 : kJ m_K_waiting 5 (.ifCond .ne 5) 5 8 10 := ⟨by decide +kernel, rfl, by decide⟩
theorem d_K_waiting_8 : kI m_K_waiting 8 (.iconst (-1)) 1 9 := ⟨by decide +kernel, rfl⟩
theorem d_K_waiting_9 : kI m_K_waiting 9 .ireturn 1 10 := ⟨by decide +kernel, rfl⟩
theorem d_K_waiting_10 : kI m_K_waiting 10 (.iconst 0) 1 11 := ⟨by decide +kernel, rfl⟩
theorem d_K_waiting_11 : kI m_K_waiting 11 (.istore_n 2) 1 12 := ⟨by decide +kernel, rfl⟩
theorem d_K_waiting_12 : kI m_K_waiting 12 (.aload_n 0) 1 13 := ⟨by decide +kernel, rfl⟩
theorem d_K_waiting_13 : kI m_K_waiting 13 (.getfield 11) 3 16 := ⟨by decide +kernel, rfl⟩
theorem d_K_waiting_16 : kI m_K_waiting 16 (.astore_n 3) 1 17 := ⟨by decide +kernel, rfl⟩
theorem d_K_waiting_17 : kI m_K_waiting 17 (.aload_n 3) 1 18 := ⟨by decide +kernel, rfl⟩
theorem d_K_waiting_18 : kI m_K_waiting 18 .arraylength 1 19 := ⟨by decide +kernel, rfl⟩
theorem d_K_waiting_19 : kI m_K_waiting 19 (.istore 4) 2 21 := ⟨by decide +kernel, rfl⟩
theorem d_K_waiting_21 : kI m_K_waiting 21 (.iconst 0) 1 22 := ⟨by decide +kernel, rfl⟩
theorem d_K_waiting_22 : kI m_K_waiting 22 (.istore 5) 2 24 := ⟨by decide +kernel, rfl⟩
theorem d_K_waiting_24 : kI m_K_waiting 24 (.iload 5) 2 26 := ⟨by decide +kernel, rfl⟩
theorem d_K_waiting_26 : kI m_K_waiting 26 (.iload 4) 2 28 := ⟨by decide +kernel, rfl⟩
theorem d_K_waiting_28 : kJ m_K_waiting 28 (.if_icmp .ge 27) 27 31 55 := ⟨by decide +kernel, rfl, by decide⟩
theorem d_K_waiting_31 : kI m_K_waiting 31 (.aload_n 3) 1 32 := ⟨by decide +kernel, rfl⟩
theorem d_K_waiting_32 : kI m_K_waiting 32 (.iload 5) 2 34 := ⟨by decide +kernel, rfl⟩
theorem d_K_waiting_34 : kI m_K_waiting 34 .aaload 1 35 := ⟨by decide +kernel, rfl⟩
theorem d_K_waiting_35 : kI m_K_waiting 35 (.astore 6) 2 37 := ⟨by decide +kernel, rfl⟩
theorem d_K_waiting_37 : kI m_K_waiting 37 (.aload 6) 2 39 := ⟨by decide +kernel, rfl⟩
theorem d_K_waiting_39 : kI m_K_waiting 39 (.iload_n 1) 1 40 := ⟨by decide +kernel, rfl⟩
theorem d_K_waiting_40 : kI m_K_waiting 40 (.invokevirtual 179) 3 43 := ⟨by decide +kernel, rfl⟩
theorem d_K_waiting_43 : kJ m_K_waiting 43 (.ifCond .eq 6) 6 46 49 := ⟨by decide +kernel, rfl, by decide⟩
theorem d_K_waiting_46 : kI m_K_waiting 46 (.iinc 2 1) 3 49 := ⟨by decide +kernel, rfl⟩
theorem d_K_waiting_49 : kI m_K_waiting 49 (.iinc 5 1) 3 52 := ⟨by decide +kernel, rfl⟩
theorem d_K_waiting_52 : kJ m_K_waiting 52 (.goto (-28)) (-28) 55 24 := ⟨by decide +kernel, rfl, by decide⟩
theorem d_K_waiting_55 : kI m_K_waiting 55 (.iload_n 2) 1 56 := ⟨by decide +kernel, rfl⟩
theorem d_K_waiting_56 : kI m_K_waiting 56 .ireturn 1 57 := ⟨by decide +kernel, rfl⟩
theorem d_K_word_0 : kI m_K_word 0 (.iload_n 1) 1 1 := ⟨by decide +kernel, rfl⟩
theorem d_K_word_1 : kJ m_K_word 1 (.ifCond .lt 18) 18 4 19 := ⟨by decide +kernel, rfl, by decide⟩
theorem d_K_word_4 : kI m_K_word 4 (.iload_n 1) 1 5 := ⟨by decide +kernel, rfl⟩
theorem d_K_word_5 : kI m_K_word 5 (.bipush 16) 2 7 := ⟨by decide +kernel, rfl⟩
theorem d_K_word_7 : kJ m_K_word 7 (.if_icmp .ge 12) 12 10 19 := ⟨by decide +kernel, rfl, by decide⟩
theorem d_K_word_10 : kI m_K_word 10 (.aload_n 0) 1 11 := ⟨by decide +kernel, rfl⟩
theorem d_K_word_11 : kI m_K_word 11 (.getfield 22) 3 14 := ⟨by decide +kernel, rfl⟩
theorem d_K_word_14 : kI m_K_word 14 (.iload_n 1) 1 15 := ⟨by decide +kernel, rfl⟩
theorem d_K_word_15 : kI m_K_word 15 .iaload 1 16 := ⟨by decide +kernel, rfl⟩
theorem d_K_word_16 : kJ m_K_word 16 (.goto 4) 4 19 20 := ⟨by decide +kernel, rfl, by decide⟩
theorem d_K_word_19 : kI m_K_word 19 (.iconst 0) 1 20 := ⟨by decide +kernel, rfl⟩
theorem d_K_word_20 : kI m_K_word 20 .ireturn 1 21 := ⟨by decide +kernel, rfl⟩
theorem d_K_isThread_0 : kI m_K_isThread 0 (.iload_n 1) 1 1 := ⟨by decide +kernel, rfl⟩
theorem d_K_isThread_1 : kJ m_K_isThread 1 (.ifCond .lt 26) 26 4 27 := ⟨by decide +kernel, rfl, by decide⟩
theorem d_K_isThread_4 : kI m_K_isThread 4 (.iload_n 1) 1 5 := ⟨by decide +kernel, rfl⟩
theorem d_K_isThread_5 : kI m_K_isThread 5 (.bipush 8) 2 7 := ⟨by decide +kernel, rfl⟩
theorem d_K_isThread_7 : kJ m_K_isThread 7 (.if_icmp .ge 20) 20 10 27 := ⟨by decide +kernel, rfl, by decide⟩
theorem d_K_isThread_10 : kI m_K_isThread 10 (.aload_n 0) 1 11 := ⟨by decide +kernel, rfl⟩
theorem d_K_isThread_11 : kI m_K_isThread 11 (.getfield 11) 3 14 := ⟨by decide +kernel, rfl⟩
theorem d_K_isThread_14 : kI m_K_isThread 14 (.iload_n 1) 1 15 := ⟨by decide +kernel, rfl⟩
theorem d_K_isThread_15 : kI m_K_isThread 15 .aaload 1 16 := ⟨by decide +kernel, rfl⟩
theorem d_K_isThread_16 : kI m_K_isThread 16 (.getfield 51) 3 19 := ⟨by decide +kernel, rfl⟩
theorem d_K_isThread_19 : kI m_K_isThread 19 (.iconst (-1)) 1 20 := ⟨by decide +kernel, rfl⟩
theorem d_K_isThread_20 : kJ m_K_isThread 20 (.if_icmp .eq 7) 7 23 27 := ⟨by decide +kernel, rfl, by decide⟩
theorem d_K_isThread_23 : kI m_K_isThread 23 (.iconst 1) 1 24 := ⟨by decide +kernel, rfl⟩
theorem d_K_isThread_24 : kJ m_K_isThread 24 (.goto 4) 4 27 28 := ⟨by decide +kernel, rfl, by decide⟩
theorem d_K_isThread_27 : kI m_K_isThread 27 (.iconst 0) 1 28 := ⟨by decide +kernel, rfl⟩
theorem d_K_isThread_28 : kI m_K_isThread 28 .ireturn 1 29 := ⟨by decide +kernel, rfl⟩
theorem d_K_isRunning_0 : kI m_K_isRunning 0 (.aload_n 0) 1 1 := ⟨by decide +kernel, rfl⟩
theorem d_K_isRunning_1 : kI m_K_isRunning 1 (.iload_n 1) 1 2 := ⟨by decide +kernel, rfl⟩
theorem d_K_isRunning_2 : kI m_K_isRunning 2 (.invokevirtual 44) 3 5 := ⟨by decide +kernel, rfl⟩
theorem d_K_isRunning_5 : kJ m_K_isRunning 5 (.ifCond .eq 19) 19 8 24 := ⟨by decide +kernel, rfl, by decide⟩
theorem d_K_isRunning_8 : kI m_K_isRunning 8 (.aload_n 0) 1 9 := ⟨by decide +kernel, rfl⟩
theorem d_K_isRunning_9 : kI m_K_isRunning 9 (.getfield 11) 3 12 := ⟨by decide +kernel, rfl⟩
theorem d_K_isRunning_12 : kI m_K_isRunning 12 (.iload_n 1) 1 13 := ⟨by decide +kernel, rfl⟩
theorem d_K_isRunning_13 : kI m_K_isRunning 13 .aaload 1 14 := ⟨by decide +kernel, rfl⟩
theorem d_K_isRunning_14 : kI m_K_isRunning 14 (.getfield 51) 3 17 := ⟨by decide +kernel, rfl⟩
theorem d_K_isRunning_17 : kJ m_K_isRunning 17 (.ifCond .ne 7) 7 20 24 := ⟨by decide +kernel, rfl, by decide⟩
theorem d_K_isRunning_20 : kI m_K_isRunning 20 (.iconst 1) 1 21 := ⟨by decide +kernel, rfl⟩
theorem d_K_isRunning_21 : kJ m_K_isRunning 21 (.goto 4) 4 24 25 := ⟨by decide +kernel, rfl, by decide⟩
theorem d_K_isRunning_24 : kI m_K_isRunning 24 (.iconst 0) 1 25 := ⟨by decide +kernel, rfl⟩
theorem d_K_isRunning_25 : kI m_K_isRunning 25 .ireturn 1 26 := ⟨by decide +kernel, rfl⟩
theorem d_K_maySend_0 : kI m_K_maySend 0 (.aload_n 0) 1 1 := ⟨by decide +kernel, rfl⟩
theorem d_K_maySend_1 : kI m_K_maySend 1 (.iload_n 1) 1 2 := ⟨by decide +kernel, rfl⟩
theorem d_K_maySend_2 : kI m_K_maySend 2 (.invokevirtual 57) 3 5 := ⟨by decide +kernel, rfl⟩
theorem d_K_maySend_5 : kJ m_K_maySend 5 (.ifCond .eq 27) 27 8 32 := ⟨by decide +kernel, rfl, by decide⟩
theorem d_K_maySend_8 : kI m_K_maySend 8 (.iload_n 2) 1 9 := ⟨by decide +kernel, rfl⟩
theorem d_K_maySend_9 : kI m_K_maySend 9 (.iload_n 1) 1 10 := ⟨by decide +kernel, rfl⟩
theorem d_K_maySend_10 : kJ m_K_maySend 10 (.if_icmp .eq 22) 22 13 32 := ⟨by decide +kernel, rfl, by decide⟩
theorem d_K_maySend_13 : kI m_K_maySend 13 (.aload_n 0) 1 14 := ⟨by decide +kernel, rfl⟩
theorem d_K_maySend_14 : kI m_K_maySend 14 (.iload_n 2) 1 15 := ⟨by decide +kernel, rfl⟩
theorem d_K_maySend_15 : kI m_K_maySend 15 (.invokevirtual 44) 3 18 := ⟨by decide +kernel, rfl⟩
theorem d_K_maySend_18 : kJ m_K_maySend 18 (.ifCond .eq 14) 14 21 32 := ⟨by decide +kernel, rfl, by decide⟩
theorem d_K_maySend_21 : kI m_K_maySend 21 (.iload_n 3) 1 22 := ⟨by decide +kernel, rfl⟩
theorem d_K_maySend_22 : kI m_K_maySend 22 (.invokestatic 97) 3 25 := ⟨by decide +kernel, rfl⟩
theorem d_K_maySend_25 : kJ m_K_maySend 25 (.ifCond .eq 7) 7 28 32 := ⟨by decide +kernel, rfl, by decide⟩
theorem d_K_maySend_28 : kI m_K_maySend 28 (.iconst 1) 1 29 := ⟨by decide +kernel, rfl⟩
theorem d_K_maySend_29 : kJ m_K_maySend 29 (.goto 4) 4 32 33 := ⟨by decide +kernel, rfl, by decide⟩
theorem d_K_maySend_32 : kI m_K_maySend 32 (.iconst 0) 1 33 := ⟨by decide +kernel, rfl⟩
theorem d_K_maySend_33 : kI m_K_maySend 33 .ireturn 1 34 := ⟨by decide +kernel, rfl⟩
theorem d_K_isSpace_0 : kI m_K_isSpace 0 (.iload_n 0) 1 1 := ⟨by decide +kernel, rfl⟩
theorem d_K_isSpace_1 : kJ m_K_isSpace 1 (.ifCond .lt 13) 13 4 14 := ⟨by decide +kernel, rfl, by decide⟩
theorem d_K_isSpace_4 : kI m_K_isSpace 4 (.iload_n 0) 1 5 := ⟨by decide +kernel, rfl⟩
theorem d_K_isSpace_5 : kI m_K_isSpace 5 (.bipush 6) 2 7 := ⟨by decide +kernel, rfl⟩
theorem d_K_isSpace_7 : kJ m_K_isSpace 7 (.if_icmp .ge 7) 7 10 14 := ⟨by decide +kernel, rfl, by decide⟩
theorem d_K_isSpace_10 : kI m_K_isSpace 10 (.iconst 1) 1 11 := ⟨by decide +kernel, rfl⟩
theorem d_K_isSpace_11 : kJ m_K_isSpace 11 (.goto 4) 4 14 15 := ⟨by decide +kernel, rfl, by decide⟩
theorem d_K_isSpace_14 : kI m_K_isSpace 14 (.iconst 0) 1 15 := ⟨by decide +kernel, rfl⟩
theorem d_K_isSpace_15 : kI m_K_isSpace 15 .ireturn 1 16 := ⟨by decide +kernel, rfl⟩
theorem d_K_isPage_0 : kI m_K_isPage 0 (.iload_n 0) 1 1 := ⟨by decide +kernel, rfl⟩
theorem d_K_isPage_1 : kJ m_K_isPage 1 (.ifCond .lt 13) 13 4 14 := ⟨by decide +kernel, rfl, by decide⟩
theorem d_K_isPage_4 : kI m_K_isPage 4 (.iload_n 0) 1 5 := ⟨by decide +kernel, rfl⟩
theorem d_K_isPage_5 : kI m_K_isPage 5 (.bipush 16) 2 7 := ⟨by decide +kernel, rfl⟩
theorem d_K_isPage_7 : kJ m_K_isPage 7 (.if_icmp .ge 7) 7 10 14 := ⟨by decide +kernel, rfl, by decide⟩
theorem d_K_isPage_10 : kI m_K_isPage 10 (.iconst 1) 1 11 := ⟨by decide +kernel, rfl⟩
theorem d_K_isPage_11 : kJ m_K_isPage 11 (.goto 4) 4 14 15 := ⟨by decide +kernel, rfl, by decide⟩
theorem d_K_isPage_14 : kI m_K_isPage 14 (.iconst 0) 1 15 := ⟨by decide +kernel, rfl⟩
theorem d_K_isPage_15 : kI m_K_isPage 15 .ireturn 1 16 := ⟨by decide +kernel, rfl⟩
theorem d_K_isPageOrNone_0 : kI m_K_isPageOrNone 0 (.iload_n 0) 1 1 := ⟨by decide +kernel, rfl⟩
theorem d_K_isPageOrNone_1 : kI m_K_isPageOrNone 1 (.iconst (-1)) 1 2 := ⟨by decide +kernel, rfl⟩
theorem d_K_isPageOrNone_2 : kJ m_K_isPageOrNone 2 (.if_icmp .eq 10) 10 5 12 := ⟨by decide +kernel, rfl, by decide⟩
theorem d_K_isPageOrNone_5 : kI m_K_isPageOrNone 5 (.iload_n 0) 1 6 := ⟨by decide +kernel, rfl⟩
theorem d_K_isPageOrNone_6 : kI m_K_isPageOrNone 6 (.invokestatic 120) 3 9 := ⟨by decide +kernel, rfl⟩
theorem d_K_isPageOrNone_9 : kJ m_K_isPageOrNone 9 (.ifCond .eq 7) 7 12 16 := ⟨by decide +kernel, rfl, by decide⟩
theorem d_K_isPageOrNone_12 : kI m_K_isPageOrNone 12 (.iconst 1) 1 13 := ⟨by decide +kernel, rfl⟩
theorem d_K_isPageOrNone_13 : kJ m_K_isPageOrNone 13 (.goto 4) 4 16 17 := ⟨by decide +kernel, rfl, by decide⟩
theorem d_K_isPageOrNone_16 : kI m_K_isPageOrNone 16 (.iconst 0) 1 17 := ⟨by decide +kernel, rfl⟩
theorem d_K_isPageOrNone_17 : kI m_K_isPageOrNone 17 .ireturn 1 18 := ⟨by decide +kernel, rfl⟩
theorem d_K_isLevel_0 : kI m_K_isLevel 0 (.iload_n 0) 1 1 := ⟨by decide +kernel, rfl⟩
theorem d_K_isLevel_1 : kI m_K_isLevel 1 (.iconst 1) 1 2 := ⟨by decide +kernel, rfl⟩
theorem d_K_isLevel_2 : kJ m_K_isLevel 2 (.if_icmp .eq 8) 8 5 10 := ⟨by decide +kernel, rfl, by decide⟩
theorem d_K_isLevel_5 : kI m_K_isLevel 5 (.iload_n 0) 1 6 := ⟨by decide +kernel, rfl⟩
theorem d_K_isLevel_6 : kI m_K_isLevel 6 (.iconst 2) 1 7 := ⟨by decide +kernel, rfl⟩
theorem d_K_isLevel_7 : kJ m_K_isLevel 7 (.if_icmp .ne 7) 7 10 14 := ⟨by decide +kernel, rfl, by decide⟩
theorem d_K_isLevel_10 : kI m_K_isLevel 10 (.iconst 1) 1 11 := ⟨by decide +kernel, rfl⟩
theorem d_K_isLevel_11 : kJ m_K_isLevel 11 (.goto 4) 4 14 15 := ⟨by decide +kernel, rfl, by decide⟩
theorem d_K_isLevel_14 : kI m_K_isLevel 14 (.iconst 0) 1 15 := ⟨by decide +kernel, rfl⟩
theorem d_K_isLevel_15 : kI m_K_isLevel 15 .ireturn 1 16 := ⟨by decide +kernel, rfl⟩
theorem d_K_isLimit_0 : kI m_K_isLimit 0 (.iload_n 0) 1 1 := ⟨by decide +kernel, rfl⟩
theorem d_K_isLimit_1 : kI m_K_isLimit 1 (.iconst (-1)) 1 2 := ⟨by decide +kernel, rfl⟩
theorem d_K_isLimit_2 : kJ m_K_isLimit 2 (.if_icmp .lt 13) 13 5 15 := ⟨by decide +kernel, rfl, by decide⟩
theorem d_K_isLimit_5 : kI m_K_isLimit 5 (.iload_n 0) 1 6 := ⟨by decide +kernel, rfl⟩
theorem d_K_isLimit_6 : kI m_K_isLimit 6 (.bipush 100) 2 8 := ⟨by decide +kernel, rfl⟩
theorem d_K_isLimit_8 : kJ m_K_isLimit 8 (.if_icmp .gt 7) 7 11 15 := ⟨by decide +kernel, rfl, by decide⟩
theorem d_K_isLimit_11 : kI m_K_isLimit 11 (.iconst 1) 1 12 := ⟨by decide +kernel, rfl⟩
theorem d_K_isLimit_12 : kJ m_K_isLimit 12 (.goto 4) 4 15 16 := ⟨by decide +kernel, rfl, by decide⟩
theorem d_K_isLimit_15 : kI m_K_isLimit 15 (.iconst 0) 1 16 := ⟨by decide +kernel, rfl⟩
theorem d_K_isLimit_16 : kI m_K_isLimit 16 .ireturn 1 17 := ⟨by decide +kernel, rfl⟩
theorem d_K_slotOf_0 : kI m_K_slotOf 0 (.iload_n 0) 1 1 := ⟨by decide +kernel, rfl⟩
theorem d_K_slotOf_1 : kI m_K_slotOf 1 (.bipush 16) 2 3 := ⟨by decide +kernel, rfl⟩
theorem d_K_slotOf_3 : kI m_K_slotOf 3 .imul 1 4 := ⟨by decide +kernel, rfl⟩
theorem d_K_slotOf_4 : kI m_K_slotOf 4 (.iload_n 1) 1 5 := ⟨by decide +kernel, rfl⟩
theorem d_K_slotOf_5 : kI m_K_slotOf 5 .iadd 1 6 := ⟨by decide +kernel, rfl⟩
theorem d_K_slotOf_6 : kI m_K_slotOf 6 .ireturn 1 7 := ⟨by decide +kernel, rfl⟩
theorem d_K_deadline_0 : kI m_K_deadline 0 (.iload_n 1) 1 1 := ⟨by decide +kernel, rfl⟩
theorem d_K_deadline_1 : kI m_K_deadline 1 (.iconst (-1)) 1 2 := ⟨by decide +kernel, rfl⟩
theorem d_K_deadline_2 : kJ m_K_deadline 2 (.if_icmp .ne 7) 7 5 9 := ⟨by decide +kernel, rfl, by decide⟩
theorem d_K_deadline_5 : kI m_K_deadline 5 (.iconst (-1)) 1 6 := ⟨by decide +kernel, rfl⟩
theorem d_K_deadline_6 : kJ m_K_deadline 6 (.goto 9) 9 9 15 := ⟨by decide +kernel, rfl, by decide⟩
theorem d_K_deadline_9 : kI m_K_deadline 9 (.aload_n 0) 1 10 := ⟨by decide +kernel, rfl⟩
theorem d_K_deadline_10 : kI m_K_deadline 10 (.getfield 26) 3 13 := ⟨by decide +kernel, rfl⟩
theorem d_K_deadline_13 : kI m_K_deadline 13 (.iload_n 1) 1 14 := ⟨by decide +kernel, rfl⟩
theorem d_K_deadline_14 : kI m_K_deadline 14 .iadd 1 15 := ⟨by decide +kernel, rfl⟩
theorem d_K_deadline_15 : kI m_K_deadline 15 .ireturn 1 16 := ⟨by decide +kernel, rfl⟩
theorem d_K_leastFreeNumber_0 : kI m_K_leastFreeNumber 0 (.iconst 0) 1 1 := ⟨by decide +kernel, rfl⟩
theorem d_K_leastFreeNumber_1 : kI m_K_leastFreeNumber 1 (.istore_n 1) 1 2 := ⟨by decide +kernel, rfl⟩
theorem d_K_leastFreeNumber_2 : kI m_K_leastFreeNumber 2 (.iload_n 1) 1 3 := ⟨by decide +kernel, rfl⟩
theorem d_K_leastFreeNumber_3 : kI m_K_leastFreeNumber 3 (.bipush 8) 2 5 := ⟨by decide +kernel, rfl⟩
theorem d_K_leastFreeNumber_5 : kJ m_K_leastFreeNumber 5 (.if_icmp .ge 24) 24 8 29 := ⟨by decide +kernel, rfl, by decide⟩
theorem d_K_leastFreeNumber_8 : kI m_K_leastFreeNumber 8 (.aload_n 0) 1 9 := ⟨by decide +kernel, rfl⟩
theorem d_K_leastFreeNumber_9 : kI m_K_leastFreeNumber 9 (.getfield 11) 3 12 := ⟨by decide +kernel, rfl⟩
theorem d_K_leastFreeNumber_12 : kI m_K_leastFreeNumber 12 (.iload_n 1) 1 13 := ⟨by decide +kernel, rfl⟩
theorem d_K_leastFreeNumber_13 : kI m_K_leastFreeNumber 13 .aaload 1 14 := ⟨by decide +kernel, rfl⟩
theorem d_K_leastFreeNumber_14 : kI m_K_leastFreeNumber 14 (.getfield 51) 3 17 := ⟨by decide +kernel, rfl⟩
theorem d_K_leastFreeNumber_17 : kI m_K_leastFreeNumber 17 (.iconst (-1)) 1 18 := ⟨by decide +kernel, rfl⟩
theorem d_K_leastFreeNumber_18 : kJ m_K_leastFreeNumber 18 (.if_icmp .ne 5) 5 21 23 := ⟨by decide +kernel, rfl, by decide⟩
theorem d_K_leastFreeNumber_21 : kI m_K_leastFreeNumber 21 (.iload_n 1) 1 22 := ⟨by decide +kernel, rfl⟩
theorem d_K_leastFreeNumber_22 : kI m_K_leastFreeNumber 22 .ireturn 1 23 := ⟨by decide +kernel, rfl⟩
theorem d_K_leastFreeNumber_23 : kI m_K_leastFreeNumber 23 (.iinc 1 1) 3 26 := ⟨by decide +kernel, rfl⟩
theorem d_K_leastFreeNumber_26 : kJ m_K_leastFreeNumber 26 (.goto (-24)) (-24) 29 2 := ⟨by decide +kernel, rfl, by decide⟩
theorem d_K_leastFreeNumber_29 : kI m_K_leastFreeNumber 29 (.iconst (-1)) 1 30 := ⟨by decide +kernel, rfl⟩
theorem d_K_leastFreeNumber_30 : kI m_K_leastFreeNumber 30 .ireturn 1 31 := ⟨by decide +kernel, rfl⟩
theorem d_K_longestWaiting_0 : kI m_K_longestWaiting 0 .aconst_null 1 1 := ⟨by decide +kernel, rfl⟩
theorem d_K_longestWaiting_1 : kI m_K_longestWaiting 1 (.astore_n 3) 1 2 := ⟨by decide +kernel, rfl⟩
theorem d_K_longestWaiting_2 : kI m_K_longestWaiting 2 (.aload_n 0) 1 3 := ⟨by decide +kernel, rfl⟩
theorem d_K_longestWaiting_3 : kI m_K_longestWaiting 3 (.getfield 11) 3 6 := ⟨by decide +kernel, rfl⟩
theorem d_K_longestWaiting_6 : kI m_K_longestWaiting 6 (.astore 4) 2 8 := ⟨by decide +kernel, rfl⟩
theorem d_K_longestWaiting_8 : kI m_K_longestWaiting 8 (.aload 4) 2 10 := ⟨by decide +kernel, rfl⟩
theorem d_K_longestWaiting_10 : kI m_K_longestWaiting 10 .arraylength 1 11 := ⟨by decide +kernel, rfl⟩
theorem d_K_longestWaiting_11 : kI m_K_longestWaiting 11 (.istore 5) 2 13 := ⟨by decide +kernel, rfl⟩
theorem d_K_longestWaiting_13 : kI m_K_longestWaiting 13 (.iconst 0) 1 14 := ⟨by decide +kernel, rfl⟩
theorem d_K_longestWaiting_14 : kI m_K_longestWaiting 14 (.istore 6) 2 16 := ⟨by decide +kernel, rfl⟩
theorem d_K_longestWaiting_16 : kI m_K_longestWaiting 16 (.iload 6) 2 18 := ⟨by decide +kernel, rfl⟩
theorem d_K_longestWaiting_18 : kI m_K_longestWaiting 18 (.iload 5) 2 20 := ⟨by decide +kernel, rfl⟩
theorem d_K_longestWaiting_20 : kJ m_K_longestWaiting 20 (.if_icmp .ge 70) 70 23 90 := ⟨by decide +kernel, rfl, by decide⟩
theorem d_K_longestWaiting_23 : kI m_K_longestWaiting 23 (.aload 4) 2 25 := ⟨by decide +kernel, rfl⟩
theorem d_K_longestWaiting_25 : kI m_K_longestWaiting 25 (.iload 6) 2 27 := ⟨by decide +kernel, rfl⟩
theorem d_K_longestWaiting_27 : kI m_K_longestWaiting 27 .aaload 1 28 := ⟨by decide +kernel, rfl⟩
theorem d_K_longestWaiting_28 : kI m_K_longestWaiting 28 (.astore 7) 2 30 := ⟨by decide +kernel, rfl⟩
theorem d_K_longestWaiting_30 : kI m_K_longestWaiting 30 (.iload_n 2) 1 31 := ⟨by decide +kernel, rfl⟩
theorem d_K_longestWaiting_31 : kI m_K_longestWaiting 31 (.iconst (-1)) 1 32 := ⟨by decide +kernel, rfl⟩
theorem d_K_longestWaiting_32 : kJ m_K_longestWaiting 32 (.if_icmp .eq 12) 12 35 44 := ⟨by decide +kernel, rfl, by decide⟩
theorem d_K_longestWaiting_35 : kI m_K_longestWaiting 35 (.iload_n 2) 1 36 := ⟨by decide +kernel, rfl⟩
theorem d_K_longestWaiting_36 : kI m_K_longestWaiting 36 (.aload 7) 2 38 := ⟨by decide +kernel, rfl⟩
theorem d_K_longestWaiting_38 : kI m_K_longestWaiting 38 (.getfield 182) 3 41 := ⟨by decide +kernel, rfl⟩
theorem d_K_longestWaiting_41 : kJ m_K_longestWaiting 41 (.if_icmp .ne 7) 7 44 48 := ⟨by decide +kernel, rfl, by decide⟩
theorem d_K_longestWaiting_44 : kI m_K_longestWaiting 44 (.iconst 1) 1 45 := ⟨by decide +kernel, rfl⟩
theorem d_K_longestWaiting_45 : kJ m_K_longestWaiting 45 (.goto 4) 4 48 49 := ⟨by decide +kernel, rfl, by decide⟩
theorem d_K_longestWaiting_48 : kI m_K_longestWaiting 48 (.iconst 0) 1 49 := ⟨by decide +kernel, rfl⟩
theorem d_K_longestWaiting_49 : kI m_K_longestWaiting 49 (.istore 8) 2 51 := ⟨by decide +kernel, rfl⟩
theorem d_K_longestWaiting_51 : kI m_K_longestWaiting 51 (.iload 8) 2 53 := ⟨by decide +kernel, rfl⟩
theorem d_K_longestWaiting_53 : kJ m_K_longestWaiting 53 (.ifCond .eq 31) 31 56 84 := ⟨by decide +kernel, rfl, by decide⟩
theorem d_K_longestWaiting_56 : kI m_K_longestWaiting 56 (.aload 7) 2 58 := ⟨by decide +kernel, rfl⟩
theorem d_K_longestWaiting_58 : kI m_K_longestWaiting 58 (.iload_n 1) 1 59 := ⟨by decide +kernel, rfl⟩
theorem d_K_longestWaiting_59 : kI m_K_longestWaiting 59 (.invokevirtual 179) 3 62 := ⟨by decide +kernel, rfl⟩
theorem d_K_longestWaiting_62 : kJ m_K_longestWaiting 62 (.ifCond .eq 22) 22 65 84 := ⟨by decide +kernel, rfl, by decide⟩
theorem d_K_longestWaiting_65 : kI m_K_longestWaiting 65 (.aload_n 3) 1 66 := ⟨by decide +kernel, rfl⟩
theorem d_K_longestWaiting_66 : kJ m_K_longestWaiting 66 (.ifnull 15) 15 69 81 := ⟨by decide +kernel, rfl, by decide⟩
theorem d_K_longestWaiting_69 : kI m_K_longestWaiting 69 (.aload 7) 2 71 := ⟨by decide +kernel, rfl⟩
theorem d_K_longestWaiting_71 : kI m_K_longestWaiting 71 (.getfield 185) 3 74 := ⟨by decide +kernel, rfl⟩
theorem d_K_longestWaiting_74 : kI m_K_longestWaiting 74 (.aload_n 3) 1 75 := ⟨by decide +kernel, rfl⟩
theorem d_K_longestWaiting_75 : kI m_K_longestWaiting 75 (.getfield 185) 3 78 := ⟨by decide +kernel, rfl⟩
theorem d_K_longestWaiting_78 : kJ m_K_longestWaiting 78 (.if_icmp .ge 6) 6 81 84 := ⟨by decide +kernel, rfl, by decide⟩
theorem d_K_longestWaiting_81 : kI m_K_longestWaiting 81 (.aload 7) 2 83 := ⟨by decide +kernel, rfl⟩
theorem d_K_longestWaiting_83 : kI m_K_longestWaiting 83 (.astore_n 3) 1 84 := ⟨by decide +kernel, rfl⟩
theorem d_K_longestWaiting_84 : kI m_K_longestWaiting 84 (.iinc 6 1) 3 87 := ⟨by decide +kernel, rfl⟩
theorem d_K_longestWaiting_87 : kJ m_K_longestWaiting 87 (.goto (-71)) (-71) 90 16 := ⟨by decide +kernel, rfl, by decide⟩
theorem d_K_longestWaiting_90 : kI m_K_longestWaiting 90 (.aload_n 3) 1 91 := ⟨by decide +kernel, rfl⟩
theorem d_K_longestWaiting_91 : kI m_K_longestWaiting 91 .areturn 1 92 := ⟨by decide +kernel, rfl⟩
theorem d_K_waitToSend_0 : kI m_K_waitToSend 0 (.iload 4) 2 2 := ⟨by decide +kernel, rfl⟩
theorem d_K_waitToSend_2 : kJ m_K_waitToSend 2 (.ifCond .ne 8) 8 5 10 := ⟨by decide +kernel, rfl, by decide⟩
theorem d_K_waitToSend_5 : kI m_K_waitToSend 5 (.aload_n 1) 1 6 := ⟨by decide +kernel, rfl⟩
theorem d_K_waitToSend_6 : kI m_K_waitToSend 6 (.invokestatic 108) 3 9 := ⟨by decide +kernel, rfl⟩
theorem d_K_waitToSend_9 : kI m_K_waitToSend 9 .ireturn 1 10 := ⟨by decide +kernel, rfl⟩
theorem d_K_waitToSend_10 : kI m_K_waitToSend 10 (.aload_n 0) 1 11 := ⟨by decide +kernel, rfl⟩
theorem d_K_waitToSend_11 : kI m_K_waitToSend 11 (.aload_n 1) 1 12 := ⟨by decide +kernel, rfl⟩
theorem d_K_waitToSend_12 : kI m_K_waitToSend 12 (.iload_n 2) 1 13 := ⟨by decide +kernel, rfl⟩
theorem d_K_waitToSend_13 : kI m_K_waitToSend 13 (.iload_n 3) 1 14 := ⟨by decide +kernel, rfl⟩
theorem d_K_waitToSend_14 : kI m_K_waitToSend 14 (.aload_n 0) 1 15 := ⟨by decide +kernel, rfl⟩
theorem d_K_waitToSend_15 : kI m_K_waitToSend 15 (.iload 4) 2 17 := ⟨by decide +kernel, rfl⟩
theorem d_K_waitToSend_17 : kI m_K_waitToSend 17 (.invokevirtual 112) 3 20 := ⟨by decide +kernel, rfl⟩
theorem d_K_waitToSend_20 : kI m_K_waitToSend 20 (.invokevirtual 188) 3 23 := ⟨by decide +kernel, rfl⟩
theorem d_K_waitToSend_23 : kI m_K_waitToSend 23 (.iconst 1) 1 24 := ⟨by decide +kernel, rfl⟩
theorem d_K_waitToSend_24 : kI m_K_waitToSend 24 .ireturn 1 25 := ⟨by decide +kernel, rfl⟩
theorem d_K_giveUp_0 : kI m_K_giveUp 0 (.aload_n 0) 1 1 := ⟨by decide +kernel, rfl⟩
theorem d_K_giveUp_1 : kI m_K_giveUp 1 (.iconst 1) 1 2 := ⟨by decide +kernel, rfl⟩
theorem d_K_giveUp_2 : kI m_K_giveUp 2 (.invokevirtual 158) 3 5 := ⟨by decide +kernel, rfl⟩
theorem d_K_giveUp_5 : kI m_K_giveUp 5 (.iconst 2) 1 6 := ⟨by decide +kernel, rfl⟩
theorem d_K_giveUp_6 : kI m_K_giveUp 6 .ireturn 1 7 := ⟨by decide +kernel, rfl⟩
theorem d_K_joinLine_0 : kI m_K_joinLine 0 (.aload_n 1) 1 1 := ⟨by decide +kernel, rfl⟩
theorem d_K_joinLine_1 : kI m_K_joinLine 1 (.aload_n 0) 1 2 := ⟨by decide +kernel, rfl⟩
theorem d_K_joinLine_2 : kI m_K_joinLine 2 (.getfield 30) 3 5 := ⟨by decide +kernel, rfl⟩
theorem d_K_joinLine_5 : kI m_K_joinLine 5 (.putfield 185) 3 8 := ⟨by decide +kernel, rfl⟩
theorem d_K_joinLine_8 : kI m_K_joinLine 8 (.aload_n 0) 1 9 := ⟨by decide +kernel, rfl⟩
theorem d_K_joinLine_9 : kI m_K_joinLine 9 .dup 1 10 := ⟨by decide +kernel, rfl⟩
theorem d_K_joinLine_10 : kI m_K_joinLine 10 (.getfield 30) 3 13 := ⟨by decide +kernel, rfl⟩
theorem d_K_joinLine_13 : kI m_K_joinLine 13 (.iconst 1) 1 14 := ⟨by decide +kernel, rfl⟩
theorem d_K_joinLine_14 : kI m_K_joinLine 14 .iadd 1 15 := ⟨by decide +kernel, rfl⟩
theorem d_K_joinLine_15 : kI m_K_joinLine 15 (.putfield 30) 3 18 := ⟨by decide +kernel, rfl⟩
theorem d_K_joinLine_18 : kI m_K_joinLine 18 (.aload_n 1) 1 19 := ⟨by decide +kernel, rfl⟩
theorem d_K_joinLine_19 : kI m_K_joinLine 19 (.iload_n 2) 1 20 := ⟨by decide +kernel, rfl⟩
theorem d_K_joinLine_20 : kI m_K_joinLine 20 (.iload_n 3) 1 21 := ⟨by decide +kernel, rfl⟩
theorem d_K_joinLine_21 : kI m_K_joinLine 21 (.iload 4) 2 23 := ⟨by decide +kernel, rfl⟩
theorem d_K_joinLine_23 : kI m_K_joinLine 23 (.invokevirtual 116) 3 26 := ⟨by decide +kernel, rfl⟩
theorem d_K_joinLine_26 : kI m_K_joinLine 26 .return_ 1 27 := ⟨by decide +kernel, rfl⟩
theorem d_K_takeWaitingMessage_0 : kI m_K_takeWaitingMessage 0 (.aload_n 1) 1 1 := ⟨by decide +kernel, rfl⟩
theorem d_K_takeWaitingMessage_1 : kI m_K_takeWaitingMessage 1 (.getfield 51) 3 4 := ⟨by decide +kernel, rfl⟩
theorem d_K_takeWaitingMessage_4 : kI m_K_takeWaitingMessage 4 (.iconst 4) 1 5 := ⟨by decide +kernel, rfl⟩
theorem d_K_takeWaitingMessage_5 : kJ m_K_takeWaitingMessage 5 (.if_icmp .ne 12) 12 8 17 := ⟨by decide +kernel, rfl, by decide⟩
theorem d_K_takeWaitingMessage_8 : kI m_K_takeWaitingMessage 8 (.aload_n 0) 1 9 := ⟨by decide +kernel, rfl⟩
theorem d_K_takeWaitingMessage_9 : kI m_K_takeWaitingMessage 9 (.aload_n 1) 1 10 := ⟨by decide +kernel, rfl⟩
theorem d_K_takeWaitingMessage_10 : kI m_K_takeWaitingMessage 10 (.aload_n 2) 1 11 := ⟨by decide +kernel, rfl⟩
theorem d_K_takeWaitingMessage_11 : kI m_K_takeWaitingMessage 11 (.invokevirtual 192) 3 14 := ⟨by decide +kernel, rfl⟩
theorem d_K_takeWaitingMessage_14 : kJ m_K_takeWaitingMessage 14 (.goto 22) 22 17 36 := ⟨by decide +kernel, rfl, by decide⟩
theorem d_K_takeWaitingMessage_17 : kI m_K_takeWaitingMessage 17 (.aload_n 0) 1 18 := ⟨by decide +kernel, rfl⟩
theorem d_K_takeWaitingMessage_18 : kI m_K_takeWaitingMessage 18 (.aload_n 1) 1 19 := ⟨by decide +kernel, rfl⟩
theorem d_K_takeWaitingMessage_19 : kI m_K_takeWaitingMessage 19 (.aload_n 2) 1 20 := ⟨by decide +kernel, rfl⟩
theorem d_K_takeWaitingMessage_20 : kI m_K_takeWaitingMessage 20 (.aload_n 1) 1 21 := ⟨by decide +kernel, rfl⟩
theorem d_K_takeWaitingMessage_21 : kI m_K_takeWaitingMessage 21 (.getfield 51) 3 24 := ⟨by decide +kernel, rfl⟩
theorem d_K_takeWaitingMessage_24 : kI m_K_takeWaitingMessage 24 (.iconst 3) 1 25 := ⟨by decide +kernel, rfl⟩
theorem d_K_takeWaitingMessage_25 : kJ m_K_takeWaitingMessage 25 (.if_icmp .ne 7) 7 28 32 := ⟨by decide +kernel, rfl, by decide⟩
theorem d_K_takeWaitingMessage_28 : kI m_K_takeWaitingMessage 28 (.iconst 1) 1 29 := ⟨by decide +kernel, rfl⟩
theorem d_K_takeWaitingMessage_29 : kJ m_K_takeWaitingMessage 29 (.goto 4) 4 32 33 := ⟨by decide +kernel, rfl, by decide⟩
theorem d_K_takeWaitingMessage_32 : kI m_K_takeWaitingMessage 32 (.iconst 0) 1 33 := ⟨by decide +kernel, rfl⟩
theorem d_K_takeWaitingMessage_33 : kI m_K_takeWaitingMessage 33 (.invokevirtual 89) 3 36 := ⟨by decide +kernel, rfl⟩
theorem d_K_takeWaitingMessage_36 : kI m_K_takeWaitingMessage 36 .return_ 1 37 := ⟨by decide +kernel, rfl⟩
theorem d_K_passMessage_0 : kI m_K_passMessage 0 (.aload_n 2) 1 1 := ⟨by decide +kernel, rfl⟩
theorem d_K_passMessage_1 : kI m_K_passMessage 1 (.getfield 51) 3 4 := ⟨by decide +kernel, rfl⟩
theorem d_K_passMessage_4 : kI m_K_passMessage 4 (.iconst 5) 1 5 := ⟨by decide +kernel, rfl⟩
theorem d_K_passMessage_5 : kJ m_K_passMessage 5 (.if_icmp .ne 7) 7 8 12 := ⟨by decide +kernel, rfl, by decide⟩
theorem d_K_passMessage_8 : kI m_K_passMessage 8 (.iconst 1) 1 9 := ⟨by decide +kernel, rfl⟩
theorem d_K_passMessage_9 : kJ m_K_passMessage 9 (.goto 4) 4 12 13 := ⟨by decide +kernel, rfl, by decide⟩
theorem d_K_passMessage_12 : kI m_K_passMessage 12 (.iconst 0) 1 13 := ⟨by decide +kernel, rfl⟩
theorem d_K_passMessage_13 : kI m_K_passMessage 13 (.istore 4) 2 15 := ⟨by decide +kernel, rfl⟩
theorem d_K_passMessage_15 : kI m_K_passMessage 15 (.iload 4) 2 17 := ⟨by decide +kernel, rfl⟩
theorem d_K_passMessage_17 : kJ m_K_passMessage 17 (.ifCond .ne 33) 33 20 50 := ⟨by decide +kernel, rfl, by decide⟩
theorem d_K_passMessage_20 : kI m_K_passMessage 20 (.aload_n 1) 1 21 := ⟨by decide +kernel, rfl⟩
theorem d_K_passMessage_21 : kI m_K_passMessage 21 (.getfield 60) 3 24 := ⟨by decide +kernel, rfl⟩
theorem d_K_passMessage_24 : kI m_K_passMessage 24 (.astore 5) 2 26 := ⟨by decide +kernel, rfl⟩
theorem d_K_passMessage_26 : kI m_K_passMessage 26 (.aload_n 2) 1 27 := ⟨by decide +kernel, rfl⟩
theorem d_K_passMessage_27 : kI m_K_passMessage 27 (.aload_n 1) 1 28 := ⟨by decide +kernel, rfl⟩
theorem d_K_passMessage_28 : kI m_K_passMessage 28 (.getfield 182) 3 31 := ⟨by decide +kernel, rfl⟩
theorem d_K_passMessage_31 : kI m_K_passMessage 31 (.aload 5) 2 33 := ⟨by decide +kernel, rfl⟩
theorem d_K_passMessage_33 : kI m_K_passMessage 33 (.iconst 0) 1 34 := ⟨by decide +kernel, rfl⟩
theorem d_K_passMessage_34 : kI m_K_passMessage 34 .iaload 1 35 := ⟨by decide +kernel, rfl⟩
theorem d_K_passMessage_35 : kI m_K_passMessage 35 (.aload 5) 2 37 := ⟨by decide +kernel, rfl⟩
theorem d_K_passMessage_37 : kI m_K_passMessage 37 (.iconst 1) 1 38 := ⟨by decide +kernel, rfl⟩
theorem d_K_passMessage_38 : kI m_K_passMessage 38 .iaload 1 39 := ⟨by decide +kernel, rfl⟩
theorem d_K_passMessage_39 : kI m_K_passMessage 39 (.aload 5) 2 41 := ⟨by decide +kernel, rfl⟩
theorem d_K_passMessage_41 : kI m_K_passMessage 41 (.iconst 2) 1 42 := ⟨by decide +kernel, rfl⟩
theorem d_K_passMessage_42 : kI m_K_passMessage 42 .iaload 1 43 := ⟨by decide +kernel, rfl⟩
theorem d_K_passMessage_43 : kI m_K_passMessage 43 (.aload 5) 2 45 := ⟨by decide +kernel, rfl⟩
theorem d_K_passMessage_45 : kI m_K_passMessage 45 (.iconst 3) 1 46 := ⟨by decide +kernel, rfl⟩
theorem d_K_passMessage_46 : kI m_K_passMessage 46 .iaload 1 47 := ⟨by decide +kernel, rfl⟩
theorem d_K_passMessage_47 : kI m_K_passMessage 47 (.invokevirtual 195) 3 50 := ⟨by decide +kernel, rfl⟩
theorem d_K_passMessage_50 : kI m_K_passMessage 50 (.aload_n 0) 1 51 := ⟨by decide +kernel, rfl⟩
theorem d_K_passMessage_51 : kI m_K_passMessage 51 (.aload_n 1) 1 52 := ⟨by decide +kernel, rfl⟩
theorem d_K_passMessage_52 : kI m_K_passMessage 52 (.aload_n 2) 1 53 := ⟨by decide +kernel, rfl⟩
theorem d_K_passMessage_53 : kI m_K_passMessage 53 (.invokevirtual 199) 3 56 := ⟨by decide +kernel, rfl⟩
theorem d_K_passMessage_56 : kI m_K_passMessage 56 (.iload_n 3) 1 57 := ⟨by decide +kernel, rfl⟩
theorem d_K_passMessage_57 : kJ m_K_passMessage 57 (.ifCond .eq 16) 16 60 73 := ⟨by decide +kernel, rfl, by decide⟩
theorem d_K_passMessage_60 : kI m_K_passMessage 60 (.aload_n 1) 1 61 := ⟨by decide +kernel, rfl⟩
theorem d_K_passMessage_61 : kI m_K_passMessage 61 (.iconst 2) 1 62 := ⟨by decide +kernel, rfl⟩
theorem d_K_passMessage_62 : kI m_K_passMessage 62 (.aload_n 2) 1 63 := ⟨by decide +kernel, rfl⟩
theorem d_K_passMessage_63 : kI m_K_passMessage 63 (.getfield 182) 3 66 := ⟨by decide +kernel, rfl⟩
theorem d_K_passMessage_66 : kI m_K_passMessage 66 (.iconst (-1)) 1 67 := ⟨by decide +kernel, rfl⟩
theorem d_K_passMessage_67 : kI m_K_passMessage 67 (.invokevirtual 116) 3 70 := ⟨by decide +kernel, rfl⟩
theorem d_K_passMessage_70 : kJ m_K_passMessage 70 (.goto 8) 8 73 78 := ⟨by decide +kernel, rfl, by decide⟩
theorem d_K_passMessage_73 : kI m_K_passMessage 73 (.aload_n 1) 1 74 := ⟨by decide +kernel, rfl⟩
theorem d_K_passMessage_74 : kI m_K_passMessage 74 (.iconst 0) 1 75 := ⟨by decide +kernel, rfl⟩
theorem d_K_passMessage_75 : kI m_K_passMessage 75 (.invokevirtual 158) 3 78 := ⟨by decide +kernel, rfl⟩
theorem d_K_passMessage_78 : kI m_K_passMessage 78 (.iload 4) 2 80 := ⟨by decide +kernel, rfl⟩
theorem d_K_passMessage_80 : kJ m_K_passMessage 80 (.ifCond .eq 11) 11 83 91 := ⟨by decide +kernel, rfl, by decide⟩
theorem d_K_passMessage_83 : kI m_K_passMessage 83 (.aload_n 0) 1 84 := ⟨by decide +kernel, rfl⟩
theorem d_K_passMessage_84 : kI m_K_passMessage 84 (.aload_n 2) 1 85 := ⟨by decide +kernel, rfl⟩
theorem d_K_passMessage_85 : kI m_K_passMessage 85 (.invokevirtual 132) 3 88 := ⟨by decide +kernel, rfl⟩
theorem d_K_passMessage_88 : kJ m_K_passMessage 88 (.goto 8) 8 91 96 := ⟨by decide +kernel, rfl, by decide⟩
theorem d_K_passMessage_91 : kI m_K_passMessage 91 (.aload_n 2) 1 92 := ⟨by decide +kernel, rfl⟩
theorem d_K_passMessage_92 : kI m_K_passMessage 92 (.iconst 0) 1 93 := ⟨by decide +kernel, rfl⟩
theorem d_K_passMessage_93 : kI m_K_passMessage 93 (.invokevirtual 158) 3 96 := ⟨by decide +kernel, rfl⟩
theorem d_K_passMessage_96 : kI m_K_passMessage 96 .return_ 1 97 := ⟨by decide +kernel, rfl⟩
theorem d_K_passOffer_0 : kI m_K_passOffer 0 (.aload_n 2) 1 1 := ⟨by decide +kernel, rfl⟩
theorem d_K_passOffer_1 : kI m_K_passOffer 1 (.getfield 51) 3 4 := ⟨by decide +kernel, rfl⟩
theorem d_K_passOffer_4 : kI m_K_passOffer 4 (.iconst 5) 1 5 := ⟨by decide +kernel, rfl⟩
theorem d_K_passOffer_5 : kJ m_K_passOffer 5 (.if_icmp .ne 10) 10 8 15 := ⟨by decide +kernel, rfl, by decide⟩
theorem d_K_passOffer_8 : kI m_K_passOffer 8 (.aload_n 2) 1 9 := ⟨by decide +kernel, rfl⟩
theorem d_K_passOffer_9 : kI m_K_passOffer 9 (.getfield 123) 3 12 := ⟨by decide +kernel, rfl⟩
theorem d_K_passOffer_12 : kJ m_K_passOffer 12 (.goto 7) 7 15 19 := ⟨by decide +kernel, rfl, by decide⟩
theorem d_K_passOffer_15 : kI m_K_passOffer 15 (.aload_n 2) 1 16 := ⟨by decide +kernel, rfl⟩
theorem d_K_passOffer_16 : kI m_K_passOffer 16 (.getfield 79) 3 19 := ⟨by decide +kernel, rfl⟩
theorem d_K_passOffer_19 : kI m_K_passOffer 19 (.istore_n 3) 1 20 := ⟨by decide +kernel, rfl⟩
theorem d_K_passOffer_20 : kI m_K_passOffer 20 (.aload_n 1) 1 21 := ⟨by decide +kernel, rfl⟩
theorem d_K_passOffer_21 : kI m_K_passOffer 21 (.getfield 69) 3 24 := ⟨by decide +kernel, rfl⟩
theorem d_K_passOffer_24 : kI m_K_passOffer 24 (.iconst (-1)) 1 25 := ⟨by decide +kernel, rfl⟩
theorem d_K_passOffer_25 : kJ m_K_passOffer 25 (.if_icmp .eq 46) 46 28 71 := ⟨by decide +kernel, rfl, by decide⟩
theorem d_K_passOffer_28 : kI m_K_passOffer 28 (.iload_n 3) 1 29 := ⟨by decide +kernel, rfl⟩
theorem d_K_passOffer_29 : kI m_K_passOffer 29 (.iconst (-1)) 1 30 := ⟨by decide +kernel, rfl⟩
theorem d_K_passOffer_30 : kJ m_K_passOffer 30 (.if_icmp .eq 41) 41 33 71 := ⟨by decide +kernel, rfl, by decide⟩
theorem d_K_passOffer_33 : kI m_K_passOffer 33 (.aload_n 1) 1 34 := ⟨by decide +kernel, rfl⟩
theorem d_K_passOffer_34 : kI m_K_passOffer 34 (.getfield 136) 3 37 := ⟨by decide +kernel, rfl⟩
theorem d_K_passOffer_37 : kI m_K_passOffer 37 (.aload_n 1) 1 38 := ⟨by decide +kernel, rfl⟩
theorem d_K_passOffer_38 : kI m_K_passOffer 38 (.getfield 69) 3 41 := ⟨by decide +kernel, rfl⟩
theorem d_K_passOffer_41 : kI m_K_passOffer 41 (.invokestatic 139) 3 44 := ⟨by decide +kernel, rfl⟩
theorem d_K_passOffer_44 : kI m_K_passOffer 44 (.istore 4) 2 46 := ⟨by decide +kernel, rfl⟩
theorem d_K_passOffer_46 : kI m_K_passOffer 46 (.aload_n 0) 1 47 := ⟨by decide +kernel, rfl⟩
theorem d_K_passOffer_47 : kI m_K_passOffer 47 (.getfield 18) 3 50 := ⟨by decide +kernel, rfl⟩
theorem d_K_passOffer_50 : kI m_K_passOffer 50 (.iload 4) 2 52 := ⟨by decide +kernel, rfl⟩
theorem d_K_passOffer_52 : kI m_K_passOffer 52 (.aload_n 2) 1 53 := ⟨by decide +kernel, rfl⟩
theorem d_K_passOffer_53 : kI m_K_passOffer 53 (.getfield 136) 3 56 := ⟨by decide +kernel, rfl⟩
theorem d_K_passOffer_56 : kI m_K_passOffer 56 (.iload_n 3) 1 57 := ⟨by decide +kernel, rfl⟩
theorem d_K_passOffer_57 : kI m_K_passOffer 57 (.invokestatic 139) 3 60 := ⟨by decide +kernel, rfl⟩
theorem d_K_passOffer_60 : kI m_K_passOffer 60 (.aload_n 1) 1 61 := ⟨by decide +kernel, rfl⟩
theorem d_K_passOffer_61 : kI m_K_passOffer 61 (.getfield 72) 3 64 := ⟨by decide +kernel, rfl⟩
theorem d_K_passOffer_64 : kI m_K_passOffer 64 (.aload_n 1) 1 65 := ⟨by decide +kernel, rfl⟩
theorem d_K_passOffer_65 : kI m_K_passOffer 65 (.getfield 75) 3 68 := ⟨by decide +kernel, rfl⟩
theorem d_K_passOffer_68 : kI m_K_passOffer 68 (.invokevirtual 202) 3 71 := ⟨by decide +kernel, rfl⟩
theorem d_K_passOffer_71 : kI m_K_passOffer 71 (.aload_n 1) 1 72 := ⟨by decide +kernel, rfl⟩
theorem d_K_passOffer_72 : kI m_K_passOffer 72 (.iconst (-1)) 1 73 := ⟨by decide +kernel, rfl⟩
theorem d_K_passOffer_73 : kI m_K_passOffer 73 (.putfield 69) 3 76 := ⟨by decide +kernel, rfl⟩
theorem d_K_passOffer_76 : kI m_K_passOffer 76 .return_ 1 77 := ⟨by decide +kernel, rfl⟩
theorem d_K_passFault_0 : kI m_K_passFault 0 (.aload_n 2) 1 1 := ⟨by decide +kernel, rfl⟩
theorem d_K_passFault_1 : kI m_K_passFault 1 (.aload_n 1) 1 2 := ⟨by decide +kernel, rfl⟩
theorem d_K_passFault_2 : kI m_K_passFault 2 (.getfield 182) 3 5 := ⟨by decide +kernel, rfl⟩
theorem d_K_passFault_5 : kI m_K_passFault 5 (.aload_n 1) 1 6 := ⟨by decide +kernel, rfl⟩
theorem d_K_passFault_6 : kI m_K_passFault 6 (.getfield 123) 3 9 := ⟨by decide +kernel, rfl⟩
theorem d_K_passFault_9 : kI m_K_passFault 9 (.aload_n 1) 1 10 := ⟨by decide +kernel, rfl⟩
theorem d_K_passFault_10 : kI m_K_passFault 10 (.getfield 126) 3 13 := ⟨by decide +kernel, rfl⟩
theorem d_K_passFault_13 : kI m_K_passFault 13 (.iconst 0) 1 14 := ⟨by decide +kernel, rfl⟩
theorem d_K_passFault_14 : kI m_K_passFault 14 (.iconst 0) 1 15 := ⟨by decide +kernel, rfl⟩
theorem d_K_passFault_15 : kI m_K_passFault 15 (.invokevirtual 195) 3 18 := ⟨by decide +kernel, rfl⟩
theorem d_K_passFault_18 : kI m_K_passFault 18 (.aload_n 1) 1 19 := ⟨by decide +kernel, rfl⟩
theorem d_K_passFault_19 : kI m_K_passFault 19 (.iconst 5) 1 20 := ⟨by decide +kernel, rfl⟩
theorem d_K_passFault_20 : kI m_K_passFault 20 (.aload_n 2) 1 21 := ⟨by decide +kernel, rfl⟩
theorem d_K_passFault_21 : kI m_K_passFault 21 (.getfield 182) 3 24 := ⟨by decide +kernel, rfl⟩
theorem d_K_passFault_24 : kI m_K_passFault 24 (.iconst (-1)) 1 25 := ⟨by decide +kernel, rfl⟩
theorem d_K_passFault_25 : kI m_K_passFault 25 (.invokevirtual 116) 3 28 := ⟨by decide +kernel, rfl⟩
theorem d_K_passFault_28 : kI m_K_passFault 28 (.aload_n 2) 1 29 := ⟨by decide +kernel, rfl⟩
theorem d_K_passFault_29 : kI m_K_passFault 29 (.iconst 0) 1 30 := ⟨by decide +kernel, rfl⟩
theorem d_K_passFault_30 : kI m_K_passFault 30 (.invokevirtual 158) 3 33 := ⟨by decide +kernel, rfl⟩
theorem d_K_passFault_33 : kI m_K_passFault 33 .return_ 1 34 := ⟨by decide +kernel, rfl⟩
theorem d_K_tryAccess_0 : kI m_K_tryAccess 0 (.aload_n 1) 1 1 := ⟨by decide +kernel, rfl⟩
theorem d_K_tryAccess_1 : kI m_K_tryAccess 1 (.getfield 136) 3 4 := ⟨by decide +kernel, rfl⟩
theorem d_K_tryAccess_4 : kI m_K_tryAccess 4 (.aload_n 1) 1 5 := ⟨by decide +kernel, rfl⟩
theorem d_K_tryAccess_5 : kI m_K_tryAccess 5 (.getfield 123) 3 8 := ⟨by decide +kernel, rfl⟩
theorem d_K_tryAccess_8 : kI m_K_tryAccess 8 (.invokestatic 139) 3 11 := ⟨by decide +kernel, rfl⟩
theorem d_K_tryAccess_11 : kI m_K_tryAccess 11 (.istore_n 2) 1 12 := ⟨by decide +kernel, rfl⟩
theorem d_K_tryAccess_12 : kI m_K_tryAccess 12 (.aload_n 0) 1 13 := ⟨by decide +kernel, rfl⟩
theorem d_K_tryAccess_13 : kI m_K_tryAccess 13 (.getfield 18) 3 16 := ⟨by decide +kernel, rfl⟩
theorem d_K_tryAccess_16 : kI m_K_tryAccess 16 (.getfield 206) 3 19 := ⟨by decide +kernel, rfl⟩
theorem d_K_tryAccess_19 : kI m_K_tryAccess 19 (.iload_n 2) 1 20 := ⟨by decide +kernel, rfl⟩
theorem d_K_tryAccess_20 : kI m_K_tryAccess 20 .iaload 1 21 := ⟨by decide +kernel, rfl⟩
theorem d_K_tryAccess_21 : kI m_K_tryAccess 21 (.aload_n 1) 1 22 := ⟨by decide +kernel, rfl⟩
theorem d_K_tryAccess_22 : kI m_K_tryAccess 22 (.getfield 126) 3 25 := ⟨by decide +kernel, rfl⟩
theorem d_K_tryAccess_25 : kJ m_K_tryAccess 25 (.if_icmp .lt 20) 20 28 45 := ⟨by decide +kernel, rfl, by decide⟩
theorem d_K_tryAccess_28 : kI m_K_tryAccess 28 (.aload_n 0) 1 29 := ⟨by decide +kernel, rfl⟩
theorem d_K_tryAccess_29 : kI m_K_tryAccess 29 (.aload_n 1) 1 30 := ⟨by decide +kernel, rfl⟩
theorem d_K_tryAccess_30 : kI m_K_tryAccess 30 (.aload_n 0) 1 31 := ⟨by decide +kernel, rfl⟩
theorem d_K_tryAccess_31 : kI m_K_tryAccess 31 (.getfield 18) 3 34 := ⟨by decide +kernel, rfl⟩
theorem d_K_tryAccess_34 : kI m_K_tryAccess 34 (.getfield 209) 3 37 := ⟨by decide +kernel, rfl⟩
theorem d_K_tryAccess_37 : kI m_K_tryAccess 37 (.iload_n 2) 1 38 := ⟨by decide +kernel, rfl⟩
theorem d_K_tryAccess_38 : kI m_K_tryAccess 38 .iaload 1 39 := ⟨by decide +kernel, rfl⟩
theorem d_K_tryAccess_39 : kI m_K_tryAccess 39 (.invokevirtual 212) 3 42 := ⟨by decide +kernel, rfl⟩
theorem d_K_tryAccess_42 : kJ m_K_tryAccess 42 (.goto 34) 34 45 76 := ⟨by decide +kernel, rfl, by decide⟩
theorem d_K_tryAccess_45 : kI m_K_tryAccess 45 (.aload_n 1) 1 46 := ⟨by decide +kernel, rfl⟩
theorem d_K_tryAccess_46 : kI m_K_tryAccess 46 (.getfield 216) 3 49 := ⟨by decide +kernel, rfl⟩
theorem d_K_tryAccess_49 : kI m_K_tryAccess 49 (.iconst (-1)) 1 50 := ⟨by decide +kernel, rfl⟩
theorem d_K_tryAccess_50 : kJ m_K_tryAccess 50 (.if_icmp .ne 12) 12 53 62 := ⟨by decide +kernel, rfl, by decide⟩
theorem d_K_tryAccess_53 : kI m_K_tryAccess 53 (.aload_n 1) 1 54 := ⟨by decide +kernel, rfl⟩
theorem d_K_tryAccess_54 : kI m_K_tryAccess 54 (.bipush 6) 2 56 := ⟨by decide +kernel, rfl⟩
theorem d_K_tryAccess_56 : kI m_K_tryAccess 56 (.putfield 51) 3 59 := ⟨by decide +kernel, rfl⟩
theorem d_K_tryAccess_59 : kJ m_K_tryAccess 59 (.goto 17) 17 62 76 := ⟨by decide +kernel, rfl, by decide⟩
theorem d_K_tryAccess_62 : kI m_K_tryAccess 62 (.aload_n 0) 1 63 := ⟨by decide +kernel, rfl⟩
theorem d_K_tryAccess_63 : kI m_K_tryAccess 63 (.aload_n 1) 1 64 := ⟨by decide +kernel, rfl⟩
theorem d_K_tryAccess_64 : kI m_K_tryAccess 64 (.aload_n 0) 1 65 := ⟨by decide +kernel, rfl⟩
theorem d_K_tryAccess_65 : kI m_K_tryAccess 65 (.getfield 11) 3 68 := ⟨by decide +kernel, rfl⟩
theorem d_K_tryAccess_68 : kI m_K_tryAccess 68 (.aload_n 1) 1 69 := ⟨by decide +kernel, rfl⟩
theorem d_K_tryAccess_69 : kI m_K_tryAccess 69 (.getfield 216) 3 72 := ⟨by decide +kernel, rfl⟩
theorem d_K_tryAccess_72 : kI m_K_tryAccess 72 .aaload 1 73 := ⟨by decide +kernel, rfl⟩
theorem d_K_tryAccess_73 : kI m_K_tryAccess 73 (.invokevirtual 219) 3 76 := ⟨by decide +kernel, rfl⟩
theorem d_K_tryAccess_76 : kI m_K_tryAccess 76 .return_ 1 77 := ⟨by decide +kernel, rfl⟩
theorem d_K_doAccess_0 : kI m_K_doAccess 0 (.aload_n 1) 1 1 := ⟨by decide +kernel, rfl⟩
theorem d_K_doAccess_1 : kI m_K_doAccess 1 (.getfield 126) 3 4 := ⟨by decide +kernel, rfl⟩
theorem d_K_doAccess_4 : kI m_K_doAccess 4 (.iconst 2) 1 5 := ⟨by decide +kernel, rfl⟩
theorem d_K_doAccess_5 : kJ m_K_doAccess 5 (.if_icmp .ne 16) 16 8 21 := ⟨by decide +kernel, rfl, by decide⟩
theorem d_K_doAccess_8 : kI m_K_doAccess 8 (.aload_n 0) 1 9 := ⟨by decide +kernel, rfl⟩
theorem d_K_doAccess_9 : kI m_K_doAccess 9 (.getfield 22) 3 12 := ⟨by decide +kernel, rfl⟩
theorem d_K_doAccess_12 : kI m_K_doAccess 12 (.iload_n 2) 1 13 := ⟨by decide +kernel, rfl⟩
theorem d_K_doAccess_13 : kI m_K_doAccess 13 (.aload_n 1) 1 14 := ⟨by decide +kernel, rfl⟩
theorem d_K_doAccess_14 : kI m_K_doAccess 14 (.getfield 129) 3 17 := ⟨by decide +kernel, rfl⟩
theorem d_K_doAccess_17 : kI m_K_doAccess 17 .iastore 1 18 := ⟨by decide +kernel, rfl⟩
theorem d_K_doAccess_18 : kJ m_K_doAccess 18 (.goto 13) 13 21 31 := ⟨by decide +kernel, rfl, by decide⟩
theorem d_K_doAccess_21 : kI m_K_doAccess 21 (.aload_n 1) 1 22 := ⟨by decide +kernel, rfl⟩
theorem d_K_doAccess_22 : kI m_K_doAccess 22 (.aload_n 0) 1 23 := ⟨by decide +kernel, rfl⟩
theorem d_K_doAccess_23 : kI m_K_doAccess 23 (.getfield 22) 3 26 := ⟨by decide +kernel, rfl⟩
theorem d_K_doAccess_26 : kI m_K_doAccess 26 (.iload_n 2) 1 27 := ⟨by decide +kernel, rfl⟩
theorem d_K_doAccess_27 : kI m_K_doAccess 27 .iaload 1 28 := ⟨by decide +kernel, rfl⟩
theorem d_K_doAccess_28 : kI m_K_doAccess 28 (.putfield 167) 3 31 := ⟨by decide +kernel, rfl⟩
theorem d_K_doAccess_31 : kI m_K_doAccess 31 (.aload_n 1) 1 32 := ⟨by decide +kernel, rfl⟩
theorem d_K_doAccess_32 : kI m_K_doAccess 32 (.iconst 0) 1 33 := ⟨by decide +kernel, rfl⟩
theorem d_K_doAccess_33 : kI m_K_doAccess 33 (.invokevirtual 158) 3 36 := ⟨by decide +kernel, rfl⟩
theorem d_K_doAccess_36 : kI m_K_doAccess 36 .return_ 1 37 := ⟨by decide +kernel, rfl⟩
theorem d_K_fault_0 : kI m_K_fault 0 (.aload_n 0) 1 1 := ⟨by decide +kernel, rfl⟩
theorem d_K_fault_1 : kI m_K_fault 1 (.aload_n 1) 1 2 := ⟨by decide +kernel, rfl⟩
theorem d_K_fault_2 : kI m_K_fault 2 (.iconst 4) 1 3 := ⟨by decide +kernel, rfl⟩
theorem d_K_fault_3 : kI m_K_fault 3 (.aload_n 2) 1 4 := ⟨by decide +kernel, rfl⟩
theorem d_K_fault_4 : kI m_K_fault 4 (.getfield 182) 3 7 := ⟨by decide +kernel, rfl⟩
theorem d_K_fault_7 : kI m_K_fault 7 (.iconst (-1)) 1 8 := ⟨by decide +kernel, rfl⟩
theorem d_K_fault_8 : kI m_K_fault 8 (.invokevirtual 188) 3 11 := ⟨by decide +kernel, rfl⟩
theorem d_K_fault_11 : kI m_K_fault 11 (.aload_n 2) 1 12 := ⟨by decide +kernel, rfl⟩
theorem d_K_fault_12 : kI m_K_fault 12 (.aload_n 1) 1 13 := ⟨by decide +kernel, rfl⟩
theorem d_K_fault_13 : kI m_K_fault 13 (.getfield 182) 3 16 := ⟨by decide +kernel, rfl⟩
theorem d_K_fault_16 : kI m_K_fault 16 (.invokevirtual 222) 3 19 := ⟨by decide +kernel, rfl⟩
theorem d_K_fault_19 : kJ m_K_fault 19 (.ifCond .eq 9) 9 22 28 := ⟨by decide +kernel, rfl, by decide⟩
theorem d_K_fault_22 : kI m_K_fault 22 (.aload_n 0) 1 23 := ⟨by decide +kernel, rfl⟩
theorem d_K_fault_23 : kI m_K_fault 23 (.aload_n 1) 1 24 := ⟨by decide +kernel, rfl⟩
theorem d_K_fault_24 : kI m_K_fault 24 (.aload_n 2) 1 25 := ⟨by decide +kernel, rfl⟩
theorem d_K_fault_25 : kI m_K_fault 25 (.invokevirtual 192) 3 28 := ⟨by decide +kernel, rfl⟩
theorem d_K_fault_28 : kI m_K_fault 28 .return_ 1 29 := ⟨by decide +kernel, rfl⟩
theorem d_P_init_0 : kI m_P_init 0 (.aload_n 0) 1 1 := ⟨by decide +kernel, rfl⟩
theorem d_P_init_1 : kI m_P_init 1 (.invokespecial 3) 3 4 := ⟨by decide +kernel, rfl⟩
theorem d_P_init_4 : kI m_P_init 4 (.aload_n 0) 1 5 := ⟨by decide +kernel, rfl⟩
theorem d_P_init_5 : kI m_P_init 5 (.bipush 96) 2 7 := ⟨by decide +kernel, rfl⟩
theorem d_P_init_7 : kI m_P_init 7 (.newarray .int) 2 9 := ⟨by decide +kernel, rfl⟩
theorem d_P_init_9 : kI m_P_init 9 (.putfield 9) 3 12 := ⟨by decide +kernel, rfl⟩
theorem d_P_init_12 : kI m_P_init 12 (.aload_n 0) 1 13 := ⟨by decide +kernel, rfl⟩
theorem d_P_init_13 : kI m_P_init 13 (.bipush 96) 2 15 := ⟨by decide +kernel, rfl⟩
theorem d_P_init_15 : kI m_P_init 15 (.newarray .int) 2 17 := ⟨by decide +kernel, rfl⟩
theorem d_P_init_17 : kI m_P_init 17 (.putfield 15) 3 20 := ⟨by decide +kernel, rfl⟩
theorem d_P_init_20 : kI m_P_init 20 (.aload_n 0) 1 21 := ⟨by decide +kernel, rfl⟩
theorem d_P_init_21 : kI m_P_init 21 (.bipush 96) 2 23 := ⟨by decide +kernel, rfl⟩
theorem d_P_init_23 : kI m_P_init 23 (.newarray .int) 2 25 := ⟨by decide +kernel, rfl⟩
theorem d_P_init_25 : kI m_P_init 25 (.putfield 18) 3 28 := ⟨by decide +kernel, rfl⟩
theorem d_P_init_28 : kI m_P_init 28 (.aload_n 0) 1 29 := ⟨by decide +kernel, rfl⟩
theorem d_P_init_29 : kI m_P_init 29 (.bipush 96) 2 31 := ⟨by decide +kernel, rfl⟩
theorem d_P_init_31 : kI m_P_init 31 (.newarray .int) 2 33 := ⟨by decide +kernel, rfl⟩
theorem d_P_init_33 : kI m_P_init 33 (.putfield 21) 3 36 := ⟨by decide +kernel, rfl⟩
theorem d_P_init_36 : kI m_P_init 36 (.iconst 0) 1 37 := ⟨by decide +kernel, rfl⟩
theorem d_P_init_37 : kI m_P_init 37 (.istore_n 1) 1 38 := ⟨by decide +kernel, rfl⟩
theorem d_P_init_38 : kI m_P_init 38 (.iload_n 1) 1 39 := ⟨by decide +kernel, rfl⟩
theorem d_P_init_39 : kI m_P_init 39 (.bipush 16) 2 41 := ⟨by decide +kernel, rfl⟩
theorem d_P_init_41 : kJ m_P_init 41 (.if_icmp .ge 30) 30 44 71 := ⟨by decide +kernel, rfl, by decide⟩
theorem d_P_init_44 : kI m_P_init 44 (.aload_n 0) 1 45 := ⟨by decide +kernel, rfl⟩
theorem d_P_init_45 : kI m_P_init 45 (.getfield 9) 3 48 := ⟨by decide +kernel, rfl⟩
theorem d_P_init_48 : kI m_P_init 48 (.iload_n 1) 1 49 := ⟨by decide +kernel, rfl⟩
theorem d_P_init_49 : kI m_P_init 49 (.iconst 2) 1 50 := ⟨by decide +kernel, rfl⟩
theorem d_P_init_50 : kI m_P_init 50 .iastore 1 51 := ⟨by decide +kernel, rfl⟩
theorem d_P_init_51 : kI m_P_init 51 (.aload_n 0) 1 52 := ⟨by decide +kernel, rfl⟩
theorem d_P_init_52 : kI m_P_init 52 (.getfield 15) 3 55 := ⟨by decide +kernel, rfl⟩
theorem d_P_init_55 : kI m_P_init 55 (.iload_n 1) 1 56 := ⟨by decide +kernel, rfl⟩
theorem d_P_init_56 : kI m_P_init 56 (.iload_n 1) 1 57 := ⟨by decide +kernel, rfl⟩
theorem d_P_init_57 : kI m_P_init 57 .iastore 1 58 := ⟨by decide +kernel, rfl⟩
theorem d_P_init_58 : kI m_P_init 58 (.aload_n 0) 1 59 := ⟨by decide +kernel, rfl⟩
theorem d_P_init_59 : kI m_P_init 59 (.getfield 21) 3 62 := ⟨by decide +kernel, rfl⟩
theorem d_P_init_62 : kI m_P_init 62 (.iload_n 1) 1 63 := ⟨by decide +kernel, rfl⟩
theorem d_P_init_63 : kI m_P_init 63 (.iconst (-1)) 1 64 := ⟨by decide +kernel, rfl⟩
theorem d_P_init_64 : kI m_P_init 64 .iastore 1 65 := ⟨by decide +kernel, rfl⟩
theorem d_P_init_65 : kI m_P_init 65 (.iinc 1 1) 3 68 := ⟨by decide +kernel, rfl⟩
theorem d_P_init_68 : kJ m_P_init 68 (.goto (-30)) (-30) 71 38 := ⟨by decide +kernel, rfl, by decide⟩
theorem d_P_init_71 : kI m_P_init 71 .return_ 1 72 := ⟨by decide +kernel, rfl⟩
theorem d_P_holds_0 : kI m_P_holds 0 (.aload_n 0) 1 1 := ⟨by decide +kernel, rfl⟩
theorem d_P_holds_1 : kI m_P_holds 1 (.getfield 9) 3 4 := ⟨by decide +kernel, rfl⟩
theorem d_P_holds_4 : kI m_P_holds 4 (.iload_n 1) 1 5 := ⟨by decide +kernel, rfl⟩
theorem d_P_holds_5 : kI m_P_holds 5 .iaload 1 6 := ⟨by decide +kernel, rfl⟩
theorem d_P_holds_6 : kJ m_P_holds 6 (.ifCond .eq 7) 7 9 13 := ⟨by decide +kernel, rfl, by decide⟩
theorem d_P_holds_9 : kI m_P_holds 9 (.iconst 1) 1 10 := ⟨by decide +kernel, rfl⟩
theorem d_P_holds_10 : kJ m_P_holds 10 (.goto 4) 4 13 14 := ⟨by decide +kernel, rfl, by decide⟩
theorem d_P_holds_13 : kI m_P_holds 13 (.iconst 0) 1 14 := ⟨by decide +kernel, rfl⟩
theorem d_P_holds_14 : kI m_P_holds 14 .ireturn 1 15 := ⟨by decide +kernel, rfl⟩
theorem d_P_describe_0 : kI m_P_describe 0 (.aload_n 0) 1 1 := ⟨by decide +kernel, rfl⟩
theorem d_P_describe_1 : kI m_P_describe 1 (.iload_n 1) 1 2 := ⟨by decide +kernel, rfl⟩
theorem d_P_describe_2 : kI m_P_describe 2 (.invokevirtual 24) 3 5 := ⟨by decide +kernel, rfl⟩
theorem d_P_describe_5 : kJ m_P_describe 5 (.ifCond .eq 33) 33 8 38 := ⟨by decide +kernel, rfl, by decide⟩
theorem d_P_describe_8 : kI m_P_describe 8 (.sipush 1000) 3 11 := ⟨by decide +kernel, rfl⟩
theorem d_P_describe_11 : kI m_P_describe 11 (.aload_n 0) 1 12 := ⟨by decide +kernel, rfl⟩
theorem d_P_describe_12 : kI m_P_describe 12 (.getfield 18) 3 15 := ⟨by decide +kernel, rfl⟩
theorem d_P_describe_15 : kI m_P_describe 15 (.iload_n 1) 1 16 := ⟨by decide +kernel, rfl⟩
theorem d_P_describe_16 : kI m_P_describe 16 .iaload 1 17 := ⟨by decide +kernel, rfl⟩
theorem d_P_describe_17 : kI m_P_describe 17 .imul 1 18 := ⟨by decide +kernel, rfl⟩
theorem d_P_describe_18 : kI m_P_describe 18 (.bipush 10) 2 20 := ⟨by decide +kernel, rfl⟩
theorem d_P_describe_20 : kI m_P_describe 20 (.aload_n 0) 1 21 := ⟨by decide +kernel, rfl⟩
theorem d_P_describe_21 : kI m_P_describe 21 (.getfield 15) 3 24 := ⟨by decide +kernel, rfl⟩
theorem d_P_describe_24 : kI m_P_describe 24 (.iload_n 1) 1 25 := ⟨by decide +kernel, rfl⟩
theorem d_P_describe_25 : kI m_P_describe 25 .iaload 1 26 := ⟨by decide +kernel, rfl⟩
theorem d_P_describe_26 : kI m_P_describe 26 .imul 1 27 := ⟨by decide +kernel, rfl⟩
theorem d_P_describe_27 : kI m_P_describe 27 .iadd 1 28 := ⟨by decide +kernel, rfl⟩
theorem d_P_describe_28 : kI m_P_describe 28 (.aload_n 0) 1 29 := ⟨by decide +kernel, rfl⟩
theorem d_P_describe_29 : kI m_P_describe 29 (.getfield 9) 3 32 := ⟨by decide +kernel, rfl⟩
theorem d_P_describe_32 : kI m_P_describe 32 (.iload_n 1) 1 33 := ⟨by decide +kernel, rfl⟩
theorem d_P_describe_33 : kI m_P_describe 33 .iaload 1 34 := ⟨by decide +kernel, rfl⟩
theorem d_P_describe_34 : kI m_P_describe 34 .iadd 1 35 := ⟨by decide +kernel, rfl⟩
theorem d_P_describe_35 : kJ m_P_describe 35 (.goto 4) 4 38 39 := ⟨by decide +kernel, rfl, by decide⟩
theorem d_P_describe_38 : kI m_P_describe 38 (.iconst (-1)) 1 39 := ⟨by decide +kernel, rfl⟩
theorem d_P_describe_39 : kI m_P_describe 39 .ireturn 1 40 := ⟨by decide +kernel, rfl⟩
theorem d_P_descends_0 : kI m_P_descends 0 (.iload_n 1) 1 1 := ⟨by decide +kernel, rfl⟩
theorem d_P_descends_1 : kI m_P_descends 1 (.istore_n 3) 1 2 := ⟨by decide +kernel, rfl⟩
theorem d_P_descends_2 : kI m_P_descends 2 (.aload_n 0) 1 3 := ⟨by decide +kernel, rfl⟩
theorem d_P_descends_3 : kI m_P_descends 3 (.getfield 18) 3 6 := ⟨by decide +kernel, rfl⟩
theorem d_P_descends_6 : kI m_P_descends 6 (.iload_n 1) 1 7 := ⟨by decide +kernel, rfl⟩
theorem d_P_descends_7 : kI m_P_descends 7 .iaload 1 8 := ⟨by decide +kernel, rfl⟩
theorem d_P_descends_8 : kI m_P_descends 8 (.istore 4) 2 10 := ⟨by decide +kernel, rfl⟩
theorem d_P_descends_10 : kI m_P_descends 10 (.iload 4) 2 12 := ⟨by decide +kernel, rfl⟩
theorem d_P_descends_12 : kJ m_P_descends 12 (.ifCond .le 28) 28 15 40 := ⟨by decide +kernel, rfl, by decide⟩
theorem d_P_descends_15 : kI m_P_descends 15 (.iload_n 3) 1 16 := ⟨by decide +kernel, rfl⟩
theorem d_P_descends_16 : kI m_P_descends 16 (.iconst (-1)) 1 17 := ⟨by decide +kernel, rfl⟩
theorem d_P_descends_17 : kJ m_P_descends 17 (.if_icmp .eq 23) 23 20 40 := ⟨by decide +kernel, rfl, by decide⟩
theorem d_P_descends_20 : kI m_P_descends 20 (.aload_n 0) 1 21 := ⟨by decide +kernel, rfl⟩
theorem d_P_descends_21 : kI m_P_descends 21 (.getfield 21) 3 24 := ⟨by decide +kernel, rfl⟩
theorem d_P_descends_24 : kI m_P_descends 24 (.iload_n 3) 1 25 := ⟨by decide +kernel, rfl⟩
theorem d_P_descends_25 : kI m_P_descends 25 .iaload 1 26 := ⟨by decide +kernel, rfl⟩
theorem d_P_descends_26 : kI m_P_descends 26 (.istore_n 3) 1 27 := ⟨by decide +kernel, rfl⟩
theorem d_P_descends_27 : kI m_P_descends 27 (.iload_n 3) 1 28 := ⟨by decide +kernel, rfl⟩
theorem d_P_descends_28 : kI m_P_descends 28 (.iload_n 2) 1 29 := ⟨by decide +kernel, rfl⟩
theorem d_P_descends_29 : kJ m_P_descends 29 (.if_icmp .ne 5) 5 32 34 := ⟨by decide +kernel, rfl, by decide⟩
theorem d_P_descends_32 : kI m_P_descends 32 (.iconst 1) 1 33 := ⟨by decide +kernel, rfl⟩
theorem d_P_descends_33 : kI m_P_descends 33 .ireturn 1 34 := ⟨by decide +kernel, rfl⟩
theorem d_P_descends_34 : kI m_P_descends 34 (.iinc 4 (-1)) 3 37 := ⟨by decide +kernel, rfl⟩
theorem d_P_descends_37 : kJ m_P_descends 37 (.goto (-27)) (-27) 40 10 := ⟨by decide +kernel, rfl, by decide⟩
theorem d_P_descends_40 : kI m_P_descends 40 (.iconst 0) 1 41 := ⟨by decide +kernel, rfl⟩
theorem d_P_descends_41 : kI m_P_descends 41 .ireturn 1 42 := ⟨by decide +kernel, rfl⟩
theorem d_P_countDescendants_0 : kI m_P_countDescendants 0 (.iconst 0) 1 1 := ⟨by decide +kernel, rfl⟩
theorem d_P_countDescendants_1 : kI m_P_countDescendants 1 (.istore_n 2) 1 2 := ⟨by decide +kernel, rfl⟩
theorem d_P_countDescendants_2 : kI m_P_countDescendants 2 (.iconst 0) 1 3 := ⟨by decide +kernel, rfl⟩
theorem d_P_countDescendants_3 : kI m_P_countDescendants 3 (.istore_n 3) 1 4 := ⟨by decide +kernel, rfl⟩
theorem d_P_countDescendants_4 : kI m_P_countDescendants 4 (.iload_n 3) 1 5 := ⟨by decide +kernel, rfl⟩
theorem d_P_countDescendants_5 : kI m_P_countDescendants 5 (.bipush 96) 2 7 := ⟨by decide +kernel, rfl⟩
theorem d_P_countDescendants_7 : kJ m_P_countDescendants 7 (.if_icmp .ge 29) 29 10 36 := ⟨by decide +kernel, rfl, by decide⟩
theorem d_P_countDescendants_10 : kI m_P_countDescendants 10 (.aload_n 0) 1 11 := ⟨by decide +kernel, rfl⟩
theorem d_P_countDescendants_11 : kI m_P_countDescendants 11 (.iload_n 3) 1 12 := ⟨by decide +kernel, rfl⟩
theorem d_P_countDescendants_12 : kI m_P_countDescendants 12 (.invokevirtual 24) 3 15 := ⟨by decide +kernel, rfl⟩
theorem d_P_countDescendants_15 : kJ m_P_countDescendants 15 (.ifCond .eq 15) 15 18 30 := ⟨by decide +kernel, rfl, by decide⟩
theorem d_P_countDescendants_18 : kI m_P_countDescendants 18 (.aload_n 0) 1 19 := ⟨by decide +kernel, rfl⟩
theorem d_P_countDescendants_19 : kI m_P_countDescendants 19 (.iload_n 3) 1 20 := ⟨by decide +kernel, rfl⟩
theorem d_P_countDescendants_20 : kI m_P_countDescendants 20 (.iload_n 1) 1 21 := ⟨by decide +kernel, rfl⟩
theorem d_P_countDescendants_21 : kI m_P_countDescendants 21 (.invokevirtual 28) 3 24 := ⟨by decide +kernel, rfl⟩
theorem d_P_countDescendants_24 : kJ m_P_countDescendants 24 (.ifCond .eq 6) 6 27 30 := ⟨by decide +kernel, rfl, by decide⟩
theorem d_P_countDescendants_27 : kI m_P_countDescendants 27 (.iinc 2 1) 3 30 := ⟨by decide +kernel, rfl⟩
theorem d_P_countDescendants_30 : kI m_P_countDescendants 30 (.iinc 3 1) 3 33 := ⟨by decide +kernel, rfl⟩
theorem d_P_countDescendants_33 : kJ m_P_countDescendants 33 (.goto (-29)) (-29) 36 4 := ⟨by decide +kernel, rfl, by decide⟩
theorem d_P_countDescendants_36 : kI m_P_countDescendants 36 (.iload_n 2) 1 37 := ⟨by decide +kernel, rfl⟩
theorem d_P_countDescendants_37 : kI m_P_countDescendants 37 .ireturn 1 38 := ⟨by decide +kernel, rfl⟩
theorem d_P_lowerDescendants_0 : kI m_P_lowerDescendants 0 (.iconst 0) 1 1 := ⟨by decide +kernel, rfl⟩
theorem d_P_lowerDescendants_1 : kI m_P_lowerDescendants 1 (.istore_n 3) 1 2 := ⟨by decide +kernel, rfl⟩
theorem d_P_lowerDescendants_2 : kI m_P_lowerDescendants 2 (.iconst 0) 1 3 := ⟨by decide +kernel, rfl⟩
theorem d_P_lowerDescendants_3 : kI m_P_lowerDescendants 3 (.istore 4) 2 5 := ⟨by decide +kernel, rfl⟩
theorem d_P_lowerDescendants_5 : kI m_P_lowerDescendants 5 (.iload 4) 2 7 := ⟨by decide +kernel, rfl⟩
theorem d_P_lowerDescendants_7 : kI m_P_lowerDescendants 7 (.bipush 96) 2 9 := ⟨by decide +kernel, rfl⟩
theorem d_P_lowerDescendants_9 : kJ m_P_lowerDescendants 9 (.if_icmp .ge 38) 38 12 47 := ⟨by decide +kernel, rfl, by decide⟩
theorem d_P_lowerDescendants_12 : kI m_P_lowerDescendants 12 (.aload_n 0) 1 13 := ⟨by decide +kernel, rfl⟩
theorem d_P_lowerDescendants_13 : kI m_P_lowerDescendants 13 (.iload 4) 2 15 := ⟨by decide +kernel, rfl⟩
theorem d_P_lowerDescendants_15 : kI m_P_lowerDescendants 15 (.invokevirtual 24) 3 18 := ⟨by decide +kernel, rfl⟩
theorem d_P_lowerDescendants_18 : kJ m_P_lowerDescendants 18 (.ifCond .eq 23) 23 21 41 := ⟨by decide +kernel, rfl, by decide⟩
theorem d_P_lowerDescendants_21 : kI m_P_lowerDescendants 21 (.aload_n 0) 1 22 := ⟨by decide +kernel, rfl⟩
theorem d_P_lowerDescendants_22 : kI m_P_lowerDescendants 22 (.iload 4) 2 24 := ⟨by decide +kernel, rfl⟩
theorem d_P_lowerDescendants_24 : kI m_P_lowerDescendants 24 (.iload_n 1) 1 25 := ⟨by decide +kernel, rfl⟩
theorem d_P_lowerDescendants_25 : kI m_P_lowerDescendants 25 (.invokevirtual 28) 3 28 := ⟨by decide +kernel, rfl⟩
theorem d_P_lowerDescendants_28 : kJ m_P_lowerDescendants 28 (.ifCond .eq 13) 13 31 41 := ⟨by decide +kernel, rfl, by decide⟩
theorem d_P_lowerDescendants_31 : kI m_P_lowerDescendants 31 (.iload_n 3) 1 32 := ⟨by decide +kernel, rfl⟩
theorem d_P_lowerDescendants_32 : kI m_P_lowerDescendants 32 (.aload_n 0) 1 33 := ⟨by decide +kernel, rfl⟩
theorem d_P_lowerDescendants_33 : kI m_P_lowerDescendants 33 (.iload 4) 2 35 := ⟨by decide +kernel, rfl⟩
theorem d_P_lowerDescendants_35 : kI m_P_lowerDescendants 35 (.iload_n 2) 1 36 := ⟨by decide +kernel, rfl⟩
theorem d_P_lowerDescendants_36 : kI m_P_lowerDescendants 36 (.invokevirtual 32) 3 39 := ⟨by decide +kernel, rfl⟩
theorem d_P_lowerDescendants_39 : kI m_P_lowerDescendants 39 .iadd 1 40 := ⟨by decide +kernel, rfl⟩
theorem d_P_lowerDescendants_40 : kI m_P_lowerDescendants 40 (.istore_n 3) 1 41 := ⟨by decide +kernel, rfl⟩
theorem d_P_lowerDescendants_41 : kI m_P_lowerDescendants 41 (.iinc 4 1) 3 44 := ⟨by decide +kernel, rfl⟩
theorem d_P_lowerDescendants_44 : kJ m_P_lowerDescendants 44 (.goto (-39)) (-39) 47 5 := ⟨by decide +kernel, rfl, by decide⟩
theorem d_P_lowerDescendants_47 : kI m_P_lowerDescendants 47 (.iload_n 3) 1 48 := ⟨by decide +kernel, rfl⟩
theorem d_P_lowerDescendants_48 : kI m_P_lowerDescendants 48 .ireturn 1 49 := ⟨by decide +kernel, rfl⟩
theorem d_P_lower_0 : kI m_P_lower 0 (.aload_n 0) 1 1 := ⟨by decide +kernel, rfl⟩
theorem d_P_lower_1 : kI m_P_lower 1 (.getfield 9) 3 4 := ⟨by decide +kernel, rfl⟩
theorem d_P_lower_4 : kI m_P_lower 4 (.iload_n 1) 1 5 := ⟨by decide +kernel, rfl⟩
theorem d_P_lower_5 : kI m_P_lower 5 .iaload 1 6 := ⟨by decide +kernel, rfl⟩
theorem d_P_lower_6 : kI m_P_lower 6 (.iload_n 2) 1 7 := ⟨by decide +kernel, rfl⟩
theorem d_P_lower_7 : kJ m_P_lower 7 (.if_icmp .gt 5) 5 10 12 := ⟨by decide +kernel, rfl, by decide⟩
theorem d_P_lower_10 : kI m_P_lower 10 (.iconst 0) 1 11 := ⟨by decide +kernel, rfl⟩
theorem d_P_lower_11 : kI m_P_lower 11 .ireturn 1 12 := ⟨by decide +kernel, rfl⟩
theorem d_P_lower_12 : kI m_P_lower 12 (.aload_n 0) 1 13 := ⟨by decide +kernel, rfl⟩
theorem d_P_lower_13 : kI m_P_lower 13 (.getfield 9) 3 16 := ⟨by decide +kernel, rfl⟩
theorem d_P_lower_16 : kI m_P_lower 16 (.iload_n 1) 1 17 := ⟨by decide +kernel, rfl⟩
theorem d_P_lower_17 : kI m_P_lower 17 (.iload_n 2) 1 18 := ⟨by decide +kernel, rfl⟩
theorem d_P_lower_18 : kI m_P_lower 18 .iastore 1 19 := ⟨by decide +kernel, rfl⟩
theorem d_P_lower_19 : kI m_P_lower 19 (.iconst 1) 1 20 := ⟨by decide +kernel, rfl⟩
theorem d_P_lower_20 : kI m_P_lower 20 .ireturn 1 21 := ⟨by decide +kernel, rfl⟩
theorem d_P_handOn_0 : kI m_P_handOn 0 (.iload_n 1) 1 1 := ⟨by decide +kernel, rfl⟩
theorem d_P_handOn_1 : kI m_P_handOn 1 (.iload_n 2) 1 2 := ⟨by decide +kernel, rfl⟩
theorem d_P_handOn_2 : kJ m_P_handOn 2 (.if_icmp .eq 11) 11 5 13 := ⟨by decide +kernel, rfl, by decide⟩
theorem d_P_handOn_5 : kI m_P_handOn 5 (.aload_n 0) 1 6 := ⟨by decide +kernel, rfl⟩
theorem d_P_handOn_6 : kI m_P_handOn 6 (.iload_n 1) 1 7 := ⟨by decide +kernel, rfl⟩
theorem d_P_handOn_7 : kI m_P_handOn 7 (.invokevirtual 24) 3 10 := ⟨by decide +kernel, rfl⟩
theorem d_P_handOn_10 : kJ m_P_handOn 10 (.ifCond .ne 4) 4 13 14 := ⟨by decide +kernel, rfl, by decide⟩
theorem d_P_handOn_13 : kI m_P_handOn 13 .return_ 1 14 := ⟨by decide +kernel, rfl⟩
theorem d_P_handOn_14 : kI m_P_handOn 14 (.aload_n 0) 1 15 := ⟨by decide +kernel, rfl⟩
theorem d_P_handOn_15 : kI m_P_handOn 15 (.iload_n 2) 1 16 := ⟨by decide +kernel, rfl⟩
theorem d_P_handOn_16 : kI m_P_handOn 16 (.invokevirtual 24) 3 19 := ⟨by decide +kernel, rfl⟩
theorem d_P_handOn_19 : kJ m_P_handOn 19 (.ifCond .eq 17) 17 22 36 := ⟨by decide +kernel, rfl, by decide⟩
theorem d_P_handOn_22 : kI m_P_handOn 22 (.aload_n 0) 1 23 := ⟨by decide +kernel, rfl⟩
theorem d_P_handOn_23 : kI m_P_handOn 23 (.iload_n 2) 1 24 := ⟨by decide +kernel, rfl⟩
theorem d_P_handOn_24 : kI m_P_handOn 24 (.iconst 0) 1 25 := ⟨by decide +kernel, rfl⟩
theorem d_P_handOn_25 : kI m_P_handOn 25 (.invokevirtual 36) 3 28 := ⟨by decide +kernel, rfl⟩
theorem d_P_handOn_28 : kI m_P_handOn 28 .pop 1 29 := ⟨by decide +kernel, rfl⟩
theorem d_P_handOn_29 : kI m_P_handOn 29 (.aload_n 0) 1 30 := ⟨by decide +kernel, rfl⟩
theorem d_P_handOn_30 : kI m_P_handOn 30 (.iload_n 2) 1 31 := ⟨by decide +kernel, rfl⟩
theorem d_P_handOn_31 : kI m_P_handOn 31 (.iconst 0) 1 32 := ⟨by decide +kernel, rfl⟩
theorem d_P_handOn_32 : kI m_P_handOn 32 (.invokevirtual 32) 3 35 := ⟨by decide +kernel, rfl⟩
theorem d_P_handOn_35 : kI m_P_handOn 35 .pop 1 36 := ⟨by decide +kernel, rfl⟩
theorem d_P_handOn_36 : kI m_P_handOn 36 (.aload_n 0) 1 37 := ⟨by decide +kernel, rfl⟩
theorem d_P_handOn_37 : kI m_P_handOn 37 (.iload_n 1) 1 38 := ⟨by decide +kernel, rfl⟩
theorem d_P_handOn_38 : kI m_P_handOn 38 (.invokevirtual 24) 3 41 := ⟨by decide +kernel, rfl⟩
theorem d_P_handOn_41 : kJ m_P_handOn 41 (.ifCond .ne 4) 4 44 45 := ⟨by decide +kernel, rfl, by decide⟩
theorem d_P_handOn_44 : kI m_P_handOn 44 .return_ 1 45 := ⟨by decide +kernel, rfl⟩
theorem d_P_handOn_45 : kI m_P_handOn 45 (.iload 4) 2 47 := ⟨by decide +kernel, rfl⟩
theorem d_P_handOn_47 : kJ m_P_handOn 47 (.ifCond .eq 12) 12 50 59 := ⟨by decide +kernel, rfl, by decide⟩
theorem d_P_handOn_50 : kI m_P_handOn 50 (.aload_n 0) 1 51 := ⟨by decide +kernel, rfl⟩
theorem d_P_handOn_51 : kI m_P_handOn 51 (.iload_n 1) 1 52 := ⟨by decide +kernel, rfl⟩
theorem d_P_handOn_52 : kI m_P_handOn 52 (.iload_n 2) 1 53 := ⟨by decide +kernel, rfl⟩
theorem d_P_handOn_53 : kI m_P_handOn 53 (.invokevirtual 39) 3 56 := ⟨by decide +kernel, rfl⟩
theorem d_P_handOn_56 : kJ m_P_handOn 56 (.goto 30) 30 59 86 := ⟨by decide +kernel, rfl, by decide⟩
theorem d_P_handOn_59 : kI m_P_handOn 59 (.aload_n 0) 1 60 := ⟨by decide +kernel, rfl⟩
theorem d_P_handOn_60 : kI m_P_handOn 60 (.getfield 18) 3 63 := ⟨by decide +kernel, rfl⟩
theorem d_P_handOn_63 : kI m_P_handOn 63 (.iload_n 1) 1 64 := ⟨by decide +kernel, rfl⟩
theorem d_P_handOn_64 : kI m_P_handOn 64 .iaload 1 65 := ⟨by decide +kernel, rfl⟩
theorem d_P_handOn_65 : kI m_P_handOn 65 (.bipush 12) 2 67 := ⟨by decide +kernel, rfl⟩
theorem d_P_handOn_67 : kJ m_P_handOn 67 (.if_icmp .ge 19) 19 70 86 := ⟨by decide +kernel, rfl, by decide⟩
theorem d_P_handOn_70 : kI m_P_handOn 70 (.aload_n 0) 1 71 := ⟨by decide +kernel, rfl⟩
theorem d_P_handOn_71 : kI m_P_handOn 71 (.iload_n 1) 1 72 := ⟨by decide +kernel, rfl⟩
theorem d_P_handOn_72 : kI m_P_handOn 72 (.iload_n 2) 1 73 := ⟨by decide +kernel, rfl⟩
theorem d_P_handOn_73 : kI m_P_handOn 73 (.iload_n 3) 1 74 := ⟨by decide +kernel, rfl⟩
theorem d_P_handOn_74 : kI m_P_handOn 74 (.aload_n 0) 1 75 := ⟨by decide +kernel, rfl⟩
theorem d_P_handOn_75 : kI m_P_handOn 75 (.getfield 9) 3 78 := ⟨by decide +kernel, rfl⟩
theorem d_P_handOn_78 : kI m_P_handOn 78 (.iload_n 1) 1 79 := ⟨by decide +kernel, rfl⟩
theorem d_P_handOn_79 : kI m_P_handOn 79 .iaload 1 80 := ⟨by decide +kernel, rfl⟩
theorem d_P_handOn_80 : kI m_P_handOn 80 (.invokestatic 43) 3 83 := ⟨by decide +kernel, rfl⟩
theorem d_P_handOn_83 : kI m_P_handOn 83 (.invokevirtual 48) 3 86 := ⟨by decide +kernel, rfl⟩
theorem d_P_handOn_86 : kI m_P_handOn 86 .return_ 1 87 := ⟨by decide +kernel, rfl⟩
theorem d_P_move_0 : kI m_P_move 0 (.aload_n 0) 1 1 := ⟨by decide +kernel, rfl⟩
theorem d_P_move_1 : kI m_P_move 1 (.getfield 9) 3 4 := ⟨by decide +kernel, rfl⟩
theorem d_P_move_4 : kI m_P_move 4 (.iload_n 2) 1 5 := ⟨by decide +kernel, rfl⟩
theorem d_P_move_5 : kI m_P_move 5 (.aload_n 0) 1 6 := ⟨by decide +kernel, rfl⟩
theorem d_P_move_6 : kI m_P_move 6 (.getfield 9) 3 9 := ⟨by decide +kernel, rfl⟩
theorem d_P_move_9 : kI m_P_move 9 (.iload_n 1) 1 10 := ⟨by decide +kernel, rfl⟩
theorem d_P_move_10 : kI m_P_move 10 .iaload 1 11 := ⟨by decide +kernel, rfl⟩
theorem d_P_move_11 : kI m_P_move 11 .iastore 1 12 := ⟨by decide +kernel, rfl⟩
theorem d_P_move_12 : kI m_P_move 12 (.aload_n 0) 1 13 := ⟨by decide +kernel, rfl⟩
theorem d_P_move_13 : kI m_P_move 13 (.getfield 15) 3 16 := ⟨by decide +kernel, rfl⟩
theorem d_P_move_16 : kI m_P_move 16 (.iload_n 2) 1 17 := ⟨by decide +kernel, rfl⟩
theorem d_P_move_17 : kI m_P_move 17 (.aload_n 0) 1 18 := ⟨by decide +kernel, rfl⟩
theorem d_P_move_18 : kI m_P_move 18 (.getfield 15) 3 21 := ⟨by decide +kernel, rfl⟩
theorem d_P_move_21 : kI m_P_move 21 (.iload_n 1) 1 22 := ⟨by decide +kernel, rfl⟩
theorem d_P_move_22 : kI m_P_move 22 .iaload 1 23 := ⟨by decide +kernel, rfl⟩
theorem d_P_move_23 : kI m_P_move 23 .iastore 1 24 := ⟨by decide +kernel, rfl⟩
theorem d_P_move_24 : kI m_P_move 24 (.aload_n 0) 1 25 := ⟨by decide +kernel, rfl⟩
theorem d_P_move_25 : kI m_P_move 25 (.getfield 18) 3 28 := ⟨by decide +kernel, rfl⟩
theorem d_P_move_28 : kI m_P_move 28 (.iload_n 2) 1 29 := ⟨by decide +kernel, rfl⟩
theorem d_P_move_29 : kI m_P_move 29 (.aload_n 0) 1 30 := ⟨by decide +kernel, rfl⟩
theorem d_P_move_30 : kI m_P_move 30 (.getfield 18) 3 33 := ⟨by decide +kernel, rfl⟩
theorem d_P_move_33 : kI m_P_move 33 (.iload_n 1) 1 34 := ⟨by decide +kernel, rfl⟩
theorem d_P_move_34 : kI m_P_move 34 .iaload 1 35 := ⟨by decide +kernel, rfl⟩
theorem d_P_move_35 : kI m_P_move 35 .iastore 1 36 := ⟨by decide +kernel, rfl⟩
theorem d_P_move_36 : kI m_P_move 36 (.aload_n 0) 1 37 := ⟨by decide +kernel, rfl⟩
theorem d_P_move_37 : kI m_P_move 37 (.getfield 21) 3 40 := ⟨by decide +kernel, rfl⟩
theorem d_P_move_40 : kI m_P_move 40 (.iload_n 2) 1 41 := ⟨by decide +kernel, rfl⟩
theorem d_P_move_41 : kI m_P_move 41 (.aload_n 0) 1 42 := ⟨by decide +kernel, rfl⟩
theorem d_P_move_42 : kI m_P_move 42 (.getfield 21) 3 45 := ⟨by decide +kernel, rfl⟩
theorem d_P_move_45 : kI m_P_move 45 (.iload_n 1) 1 46 := ⟨by decide +kernel, rfl⟩
theorem d_P_move_46 : kI m_P_move 46 .iaload 1 47 := ⟨by decide +kernel, rfl⟩
theorem d_P_move_47 : kI m_P_move 47 .iastore 1 48 := ⟨by decide +kernel, rfl⟩
theorem d_P_move_48 : kI m_P_move 48 (.iconst 0) 1 49 := ⟨by decide +kernel, rfl⟩
theorem d_P_move_49 : kI m_P_move 49 (.istore_n 3) 1 50 := ⟨by decide +kernel, rfl⟩
theorem d_P_move_50 : kI m_P_move 50 (.iload_n 3) 1 51 := ⟨by decide +kernel, rfl⟩
theorem d_P_move_51 : kI m_P_move 51 (.bipush 96) 2 53 := ⟨by decide +kernel, rfl⟩
theorem d_P_move_53 : kJ m_P_move 53 (.if_icmp .ge 34) 34 56 87 := ⟨by decide +kernel, rfl, by decide⟩
theorem d_P_move_56 : kI m_P_move 56 (.aload_n 0) 1 57 := ⟨by decide +kernel, rfl⟩
theorem d_P_move_57 : kI m_P_move 57 (.iload_n 3) 1 58 := ⟨by decide +kernel, rfl⟩
theorem d_P_move_58 : kI m_P_move 58 (.invokevirtual 24) 3 61 := ⟨by decide +kernel, rfl⟩
theorem d_P_move_61 : kJ m_P_move 61 (.ifCond .eq 20) 20 64 81 := ⟨by decide +kernel, rfl, by decide⟩
theorem d_P_move_64 : kI m_P_move 64 (.aload_n 0) 1 65 := ⟨by decide +kernel, rfl⟩
theorem d_P_move_65 : kI m_P_move 65 (.getfield 21) 3 68 := ⟨by decide +kernel, rfl⟩
theorem d_P_move_68 : kI m_P_move 68 (.iload_n 3) 1 69 := ⟨by decide +kernel, rfl⟩
theorem d_P_move_69 : kI m_P_move 69 .iaload 1 70 := ⟨by decide +kernel, rfl⟩
theorem d_P_move_70 : kI m_P_move 70 (.iload_n 1) 1 71 := ⟨by decide +kernel, rfl⟩
theorem d_P_move_71 : kJ m_P_move 71 (.if_icmp .ne 10) 10 74 81 := ⟨by decide +kernel, rfl, by decide⟩
theorem d_P_move_74 : kI m_P_move 74 (.aload_n 0) 1 75 := ⟨by decide +kernel, rfl⟩
theorem d_P_move_75 : kI m_P_move 75 (.getfield 21) 3 78 := ⟨by decide +kernel, rfl⟩
theorem d_P_move_78 : kI m_P_move 78 (.iload_n 3) 1 79 := ⟨by decide +kernel, rfl⟩
theorem d_P_move_79 : kI m_P_move 79 (.iload_n 2) 1 80 := ⟨by decide +kernel, rfl⟩
theorem d_P_move_80 : kI m_P_move 80 .iastore 1 81 := ⟨by decide +kernel, rfl⟩
theorem d_P_move_81 : kI m_P_move 81 (.iinc 3 1) 3 84 := ⟨by decide +kernel, rfl⟩
theorem d_P_move_84 : kJ m_P_move 84 (.goto (-34)) (-34) 87 50 := ⟨by decide +kernel, rfl, by decide⟩
theorem d_P_move_87 : kI m_P_move 87 (.aload_n 0) 1 88 := ⟨by decide +kernel, rfl⟩
theorem d_P_move_88 : kI m_P_move 88 (.getfield 9) 3 91 := ⟨by decide +kernel, rfl⟩
theorem d_P_move_91 : kI m_P_move 91 (.iload_n 1) 1 92 := ⟨by decide +kernel, rfl⟩
theorem d_P_move_92 : kI m_P_move 92 (.iconst 0) 1 93 := ⟨by decide +kernel, rfl⟩
theorem d_P_move_93 : kI m_P_move 93 .iastore 1 94 := ⟨by decide +kernel, rfl⟩
theorem d_P_move_94 : kI m_P_move 94 .return_ 1 95 := ⟨by decide +kernel, rfl⟩
theorem d_P_derive_0 : kI m_P_derive 0 (.aload_n 0) 1 1 := ⟨by decide +kernel, rfl⟩
theorem d_P_derive_1 : kI m_P_derive 1 (.getfield 9) 3 4 := ⟨by decide +kernel, rfl⟩
theorem d_P_derive_4 : kI m_P_derive 4 (.iload_n 2) 1 5 := ⟨by decide +kernel, rfl⟩
theorem d_P_derive_5 : kI m_P_derive 5 (.iload_n 3) 1 6 := ⟨by decide +kernel, rfl⟩
theorem d_P_derive_6 : kI m_P_derive 6 .iastore 1 7 := ⟨by decide +kernel, rfl⟩
theorem d_P_derive_7 : kI m_P_derive 7 (.aload_n 0) 1 8 := ⟨by decide +kernel, rfl⟩
theorem d_P_derive_8 : kI m_P_derive 8 (.getfield 15) 3 11 := ⟨by decide +kernel, rfl⟩
theorem d_P_derive_11 : kI m_P_derive 11 (.iload_n 2) 1 12 := ⟨by decide +kernel, rfl⟩
theorem d_P_derive_12 : kI m_P_derive 12 (.aload_n 0) 1 13 := ⟨by decide +kernel, rfl⟩
theorem d_P_derive_13 : kI m_P_derive 13 (.getfield 15) 3 16 := ⟨by decide +kernel, rfl⟩
theorem d_P_derive_16 : kI m_P_derive 16 (.iload_n 1) 1 17 := ⟨by decide +kernel, rfl⟩
theorem d_P_derive_17 : kI m_P_derive 17 .iaload 1 18 := ⟨by decide +kernel, rfl⟩
theorem d_P_derive_18 : kI m_P_derive 18 .iastore 1 19 := ⟨by decide +kernel, rfl⟩
theorem d_P_derive_19 : kI m_P_derive 19 (.aload_n 0) 1 20 := ⟨by decide +kernel, rfl⟩
theorem d_P_derive_20 : kI m_P_derive 20 (.getfield 18) 3 23 := ⟨by decide +kernel, rfl⟩
theorem d_P_derive_23 : kI m_P_derive 23 (.iload_n 2) 1 24 := ⟨by decide +kernel, rfl⟩
theorem d_P_derive_24 : kI m_P_derive 24 (.aload_n 0) 1 25 := ⟨by decide +kernel, rfl⟩
theorem d_P_derive_25 : kI m_P_derive 25 (.getfield 18) 3 28 := ⟨by decide +kernel, rfl⟩
theorem d_P_derive_28 : kI m_P_derive 28 (.iload_n 1) 1 29 := ⟨by decide +kernel, rfl⟩
theorem d_P_derive_29 : kI m_P_derive 29 .iaload 1 30 := ⟨by decide +kernel, rfl⟩
theorem d_P_derive_30 : kI m_P_derive 30 (.iconst 1) 1 31 := ⟨by decide +kernel, rfl⟩
theorem d_P_derive_31 : kI m_P_derive 31 .iadd 1 32 := ⟨by decide +kernel, rfl⟩
theorem d_P_derive_32 : kI m_P_derive 32 .iastore 1 33 := ⟨by decide +kernel, rfl⟩
theorem d_P_derive_33 : kI m_P_derive 33 (.aload_n 0) 1 34 := ⟨by decide +kernel, rfl⟩
theorem d_P_derive_34 : kI m_P_derive 34 (.getfield 21) 3 37 := ⟨by decide +kernel, rfl⟩
theorem d_P_derive_37 : kI m_P_derive 37 (.iload_n 2) 1 38 := ⟨by decide +kernel, rfl⟩
theorem d_P_derive_38 : kI m_P_derive 38 (.iload_n 1) 1 39 := ⟨by decide +kernel, rfl⟩
theorem d_P_derive_39 : kI m_P_derive 39 .iastore 1 40 := ⟨by decide +kernel, rfl⟩
theorem d_P_derive_40 : kI m_P_derive 40 .return_ 1 41 := ⟨by decide +kernel, rfl⟩
theorem d_H_init_0 : kI m_H_init 0 (.aload_n 0) 1 1 := ⟨by decide +kernel, rfl⟩
theorem d_H_init_1 : kI m_H_init 1 (.invokespecial 3) 3 4 := ⟨by decide +kernel, rfl⟩
theorem d_H_init_4 : kI m_H_init 4 (.aload_n 0) 1 5 := ⟨by decide +kernel, rfl⟩
theorem d_H_init_5 : kI m_H_init 5 (.iconst 4) 1 6 := ⟨by decide +kernel, rfl⟩
theorem d_H_init_6 : kI m_H_init 6 (.newarray .int) 2 8 := ⟨by decide +kernel, rfl⟩
theorem d_H_init_8 : kI m_H_init 8 (.putfield 9) 3 11 := ⟨by decide +kernel, rfl⟩
theorem d_H_init_11 : kI m_H_init 11 (.aload_n 0) 1 12 := ⟨by decide +kernel, rfl⟩
theorem d_H_init_12 : kI m_H_init 12 (.iconst (-1)) 1 13 := ⟨by decide +kernel, rfl⟩
theorem d_H_init_13 : kI m_H_init 13 (.putfield 15) 3 16 := ⟨by decide +kernel, rfl⟩
theorem d_H_init_16 : kI m_H_init 16 (.aload_n 0) 1 17 := ⟨by decide +kernel, rfl⟩
theorem d_H_init_17 : kI m_H_init 17 (.iload_n 1) 1 18 := ⟨by decide +kernel, rfl⟩
theorem d_H_init_18 : kI m_H_init 18 (.putfield 19) 3 21 := ⟨by decide +kernel, rfl⟩
theorem d_H_init_21 : kI m_H_init 21 .return_ 1 22 := ⟨by decide +kernel, rfl⟩
theorem d_H_begin_0 : kI m_H_begin 0 (.iconst 0) 1 1 := ⟨by decide +kernel, rfl⟩
theorem d_H_begin_1 : kI m_H_begin 1 (.istore_n 3) 1 2 := ⟨by decide +kernel, rfl⟩
theorem d_H_begin_2 : kI m_H_begin 2 (.iload_n 3) 1 3 := ⟨by decide +kernel, rfl⟩
theorem d_H_begin_3 : kI m_H_begin 3 (.iconst 4) 1 4 := ⟨by decide +kernel, rfl⟩
theorem d_H_begin_4 : kJ m_H_begin 4 (.if_icmp .ge 16) 16 7 20 := ⟨by decide +kernel, rfl, by decide⟩
theorem d_H_begin_7 : kI m_H_begin 7 (.aload_n 0) 1 8 := ⟨by decide +kernel, rfl⟩
theorem d_H_begin_8 : kI m_H_begin 8 (.getfield 9) 3 11 := ⟨by decide +kernel, rfl⟩
theorem d_H_begin_11 : kI m_H_begin 11 (.iload_n 3) 1 12 := ⟨by decide +kernel, rfl⟩
theorem d_H_begin_12 : kI m_H_begin 12 (.iconst 0) 1 13 := ⟨by decide +kernel, rfl⟩
theorem d_H_begin_13 : kI m_H_begin 13 .iastore 1 14 := ⟨by decide +kernel, rfl⟩
theorem d_H_begin_14 : kI m_H_begin 14 (.iinc 3 1) 3 17 := ⟨by decide +kernel, rfl⟩
theorem d_H_begin_17 : kJ m_H_begin 17 (.goto (-15)) (-15) 20 2 := ⟨by decide +kernel, rfl, by decide⟩
theorem d_H_begin_20 : kI m_H_begin 20 (.aload_n 0) 1 21 := ⟨by decide +kernel, rfl⟩
theorem d_H_begin_21 : kI m_H_begin 21 (.iconst 0) 1 22 := ⟨by decide +kernel, rfl⟩
theorem d_H_begin_22 : kI m_H_begin 22 (.putfield 15) 3 25 := ⟨by decide +kernel, rfl⟩
theorem d_H_begin_25 : kI m_H_begin 25 (.aload_n 0) 1 26 := ⟨by decide +kernel, rfl⟩
theorem d_H_begin_26 : kI m_H_begin 26 (.iload_n 1) 1 27 := ⟨by decide +kernel, rfl⟩
theorem d_H_begin_27 : kI m_H_begin 27 (.putfield 22) 3 30 := ⟨by decide +kernel, rfl⟩
theorem d_H_begin_30 : kI m_H_begin 30 (.aload_n 0) 1 31 := ⟨by decide +kernel, rfl⟩
theorem d_H_begin_31 : kI m_H_begin 31 (.iload_n 2) 1 32 := ⟨by decide +kernel, rfl⟩
theorem d_H_begin_32 : kI m_H_begin 32 (.putfield 25) 3 35 := ⟨by decide +kernel, rfl⟩
theorem d_H_begin_35 : kI m_H_begin 35 (.aload_n 0) 1 36 := ⟨by decide +kernel, rfl⟩
theorem d_H_begin_36 : kI m_H_begin 36 (.iconst (-1)) 1 37 := ⟨by decide +kernel, rfl⟩
theorem d_H_begin_37 : kI m_H_begin 37 (.putfield 28) 3 40 := ⟨by decide +kernel, rfl⟩
theorem d_H_begin_40 : kI m_H_begin 40 (.aload_n 0) 1 41 := ⟨by decide +kernel, rfl⟩
theorem d_H_begin_41 : kI m_H_begin 41 (.iconst (-1)) 1 42 := ⟨by decide +kernel, rfl⟩
theorem d_H_begin_42 : kI m_H_begin 42 (.putfield 31) 3 45 := ⟨by decide +kernel, rfl⟩
theorem d_H_begin_45 : kI m_H_begin 45 (.aload_n 0) 1 46 := ⟨by decide +kernel, rfl⟩
theorem d_H_begin_46 : kI m_H_begin 46 (.iconst 0) 1 47 := ⟨by decide +kernel, rfl⟩
theorem d_H_begin_47 : kI m_H_begin 47 (.putfield 34) 3 50 := ⟨by decide +kernel, rfl⟩
theorem d_H_begin_50 : kI m_H_begin 50 (.aload_n 0) 1 51 := ⟨by decide +kernel, rfl⟩
theorem d_H_begin_51 : kI m_H_begin 51 (.iconst (-1)) 1 52 := ⟨by decide +kernel, rfl⟩
theorem d_H_begin_52 : kI m_H_begin 52 (.putfield 37) 3 55 := ⟨by decide +kernel, rfl⟩
theorem d_H_begin_55 : kI m_H_begin 55 (.aload_n 0) 1 56 := ⟨by decide +kernel, rfl⟩
theorem d_H_begin_56 : kI m_H_begin 56 (.iconst 0) 1 57 := ⟨by decide +kernel, rfl⟩
theorem d_H_begin_57 : kI m_H_begin 57 (.putfield 40) 3 60 := ⟨by decide +kernel, rfl⟩
theorem d_H_begin_60 : kI m_H_begin 60 (.aload_n 0) 1 61 := ⟨by decide +kernel, rfl⟩
theorem d_H_begin_61 : kI m_H_begin 61 (.iconst 0) 1 62 := ⟨by decide +kernel, rfl⟩
theorem d_H_begin_62 : kI m_H_begin 62 (.putfield 43) 3 65 := ⟨by decide +kernel, rfl⟩
theorem d_H_begin_65 : kI m_H_begin 65 .return_ 1 66 := ⟨by decide +kernel, rfl⟩
theorem d_H_run_0 : kI m_H_run 0 (.aload_n 0) 1 1 := ⟨by decide +kernel, rfl⟩
theorem d_H_run_1 : kI m_H_run 1 (.iconst 0) 1 2 := ⟨by decide +kernel, rfl⟩
theorem d_H_run_2 : kI m_H_run 2 (.putfield 15) 3 5 := ⟨by decide +kernel, rfl⟩
theorem d_H_run_5 : kI m_H_run 5 (.aload_n 0) 1 6 := ⟨by decide +kernel, rfl⟩
theorem d_H_run_6 : kI m_H_run 6 (.iload_n 1) 1 7 := ⟨by decide +kernel, rfl⟩
theorem d_H_run_7 : kI m_H_run 7 (.putfield 34) 3 10 := ⟨by decide +kernel, rfl⟩
theorem d_H_run_10 : kI m_H_run 10 .return_ 1 11 := ⟨by decide +kernel, rfl⟩
theorem d_H_waitFor_0 : kI m_H_waitFor 0 (.aload_n 0) 1 1 := ⟨by decide +kernel, rfl⟩
theorem d_H_waitFor_1 : kI m_H_waitFor 1 (.iload_n 1) 1 2 := ⟨by decide +kernel, rfl⟩
theorem d_H_waitFor_2 : kI m_H_waitFor 2 (.putfield 15) 3 5 := ⟨by decide +kernel, rfl⟩
theorem d_H_waitFor_5 : kI m_H_waitFor 5 (.aload_n 0) 1 6 := ⟨by decide +kernel, rfl⟩
theorem d_H_waitFor_6 : kI m_H_waitFor 6 (.iload_n 2) 1 7 := ⟨by decide +kernel, rfl⟩
theorem d_H_waitFor_7 : kI m_H_waitFor 7 (.putfield 46) 3 10 := ⟨by decide +kernel, rfl⟩
theorem d_H_waitFor_10 : kI m_H_waitFor 10 (.aload_n 0) 1 11 := ⟨by decide +kernel, rfl⟩
theorem d_H_waitFor_11 : kI m_H_waitFor 11 (.iload_n 3) 1 12 := ⟨by decide +kernel, rfl⟩
theorem d_H_waitFor_12 : kI m_H_waitFor 12 (.putfield 49) 3 15 := ⟨by decide +kernel, rfl⟩
theorem d_H_waitFor_15 : kI m_H_waitFor 15 .return_ 1 16 := ⟨by decide +kernel, rfl⟩
theorem d_H_take_0 : kI m_H_take 0 (.aload_n 0) 1 1 := ⟨by decide +kernel, rfl⟩
theorem d_H_take_1 : kI m_H_take 1 (.getfield 9) 3 4 := ⟨by decide +kernel, rfl⟩
theorem d_H_take_4 : kI m_H_take 4 (.iconst 0) 1 5 := ⟨by decide +kernel, rfl⟩
theorem d_H_take_5 : kI m_H_take 5 (.iload_n 2) 1 6 := ⟨by decide +kernel, rfl⟩
theorem d_H_take_6 : kI m_H_take 6 .iastore 1 7 := ⟨by decide +kernel, rfl⟩
theorem d_H_take_7 : kI m_H_take 7 (.aload_n 0) 1 8 := ⟨by decide +kernel, rfl⟩
theorem d_H_take_8 : kI m_H_take 8 (.getfield 9) 3 11 := ⟨by decide +kernel, rfl⟩
theorem d_H_take_11 : kI m_H_take 11 (.iconst 1) 1 12 := ⟨by decide +kernel, rfl⟩
theorem d_H_take_12 : kI m_H_take 12 (.iload_n 3) 1 13 := ⟨by decide +kernel, rfl⟩
theorem d_H_take_13 : kI m_H_take 13 .iastore 1 14 := ⟨by decide +kernel, rfl⟩
theorem d_H_take_14 : kI m_H_take 14 (.aload_n 0) 1 15 := ⟨by decide +kernel, rfl⟩
theorem d_H_take_15 : kI m_H_take 15 (.getfield 9) 3 18 := ⟨by decide +kernel, rfl⟩
theorem d_H_take_18 : kI m_H_take 18 (.iconst 2) 1 19 := ⟨by decide +kernel, rfl⟩
theorem d_H_take_19 : kI m_H_take 19 (.iload 4) 2 21 := ⟨by decide +kernel, rfl⟩
theorem d_H_take_21 : kI m_H_take 21 .iastore 1 22 := ⟨by decide +kernel, rfl⟩
theorem d_H_take_22 : kI m_H_take 22 (.aload_n 0) 1 23 := ⟨by decide +kernel, rfl⟩
theorem d_H_take_23 : kI m_H_take 23 (.getfield 9) 3 26 := ⟨by decide +kernel, rfl⟩
theorem d_H_take_26 : kI m_H_take 26 (.iconst 3) 1 27 := ⟨by decide +kernel, rfl⟩
theorem d_H_take_27 : kI m_H_take 27 (.iload 5) 2 29 := ⟨by decide +kernel, rfl⟩
theorem d_H_take_29 : kI m_H_take 29 .iastore 1 30 := ⟨by decide +kernel, rfl⟩
theorem d_H_take_30 : kI m_H_take 30 (.aload_n 0) 1 31 := ⟨by decide +kernel, rfl⟩
theorem d_H_take_31 : kI m_H_take 31 (.iload_n 1) 1 32 := ⟨by decide +kernel, rfl⟩
theorem d_H_take_32 : kI m_H_take 32 (.putfield 37) 3 35 := ⟨by decide +kernel, rfl⟩
theorem d_H_take_35 : kI m_H_take 35 (.aload_n 0) 1 36 := ⟨by decide +kernel, rfl⟩
theorem d_H_take_36 : kI m_H_take 36 .dup 1 37 := ⟨by decide +kernel, rfl⟩
theorem d_H_take_37 : kI m_H_take 37 (.getfield 43) 3 40 := ⟨by decide +kernel, rfl⟩
theorem d_H_take_40 : kI m_H_take 40 (.iconst 1) 1 41 := ⟨by decide +kernel, rfl⟩
theorem d_H_take_41 : kI m_H_take 41 .iadd 1 42 := ⟨by decide +kernel, rfl⟩
theorem d_H_take_42 : kI m_H_take 42 (.putfield 43) 3 45 := ⟨by decide +kernel, rfl⟩
theorem d_H_take_45 : kI m_H_take 45 .return_ 1 46 := ⟨by decide +kernel, rfl⟩
theorem d_H_outlive_0 : kI m_H_outlive 0 (.aload_n 0) 1 1 := ⟨by decide +kernel, rfl⟩
theorem d_H_outlive_1 : kI m_H_outlive 1 (.invokevirtual 52) 3 4 := ⟨by decide +kernel, rfl⟩
theorem d_H_outlive_4 : kJ m_H_outlive 4 (.ifCond .eq 16) 16 7 20 := ⟨by decide +kernel, rfl, by decide⟩
theorem d_H_outlive_7 : kI m_H_outlive 7 (.aload_n 0) 1 8 := ⟨by decide +kernel, rfl⟩
theorem d_H_outlive_8 : kI m_H_outlive 8 (.getfield 46) 3 11 := ⟨by decide +kernel, rfl⟩
theorem d_H_outlive_11 : kI m_H_outlive 11 (.iload_n 1) 1 12 := ⟨by decide +kernel, rfl⟩
theorem d_H_outlive_12 : kJ m_H_outlive 12 (.if_icmp .ne 8) 8 15 20 := ⟨by decide +kernel, rfl, by decide⟩
theorem d_H_outlive_15 : kI m_H_outlive 15 (.aload_n 0) 1 16 := ⟨by decide +kernel, rfl⟩
theorem d_H_outlive_16 : kI m_H_outlive 16 (.iconst 2) 1 17 := ⟨by decide +kernel, rfl⟩
theorem d_H_outlive_17 : kI m_H_outlive 17 (.invokevirtual 56) 3 20 := ⟨by decide +kernel, rfl⟩
theorem d_H_outlive_20 : kI m_H_outlive 20 (.aload_n 0) 1 21 := ⟨by decide +kernel, rfl⟩
theorem d_H_outlive_21 : kI m_H_outlive 21 (.getfield 25) 3 24 := ⟨by decide +kernel, rfl⟩
theorem d_H_outlive_24 : kI m_H_outlive 24 (.iload_n 1) 1 25 := ⟨by decide +kernel, rfl⟩
theorem d_H_outlive_25 : kJ m_H_outlive 25 (.if_icmp .ne 30) 30 28 55 := ⟨by decide +kernel, rfl, by decide⟩
theorem d_H_outlive_28 : kI m_H_outlive 28 (.aload_n 0) 1 29 := ⟨by decide +kernel, rfl⟩
theorem d_H_outlive_29 : kI m_H_outlive 29 (.iconst (-1)) 1 30 := ⟨by decide +kernel, rfl⟩
theorem d_H_outlive_30 : kI m_H_outlive 30 (.putfield 25) 3 33 := ⟨by decide +kernel, rfl⟩
theorem d_H_outlive_33 : kI m_H_outlive 33 (.aload_n 0) 1 34 := ⟨by decide +kernel, rfl⟩
theorem d_H_outlive_34 : kI m_H_outlive 34 (.getfield 15) 3 37 := ⟨by decide +kernel, rfl⟩
theorem d_H_outlive_37 : kI m_H_outlive 37 (.iconst 4) 1 38 := ⟨by decide +kernel, rfl⟩
theorem d_H_outlive_38 : kJ m_H_outlive 38 (.if_icmp .eq 11) 11 41 49 := ⟨by decide +kernel, rfl, by decide⟩
theorem d_H_outlive_41 : kI m_H_outlive 41 (.aload_n 0) 1 42 := ⟨by decide +kernel, rfl⟩
theorem d_H_outlive_42 : kI m_H_outlive 42 (.getfield 15) 3 45 := ⟨by decide +kernel, rfl⟩
theorem d_H_outlive_45 : kI m_H_outlive 45 (.iconst 5) 1 46 := ⟨by decide +kernel, rfl⟩
theorem d_H_outlive_46 : kJ m_H_outlive 46 (.if_icmp .ne 9) 9 49 55 := ⟨by decide +kernel, rfl, by decide⟩
theorem d_H_outlive_49 : kI m_H_outlive 49 (.aload_n 0) 1 50 := ⟨by decide +kernel, rfl⟩
theorem d_H_outlive_50 : kI m_H_outlive 50 (.bipush 6) 2 52 := ⟨by decide +kernel, rfl⟩
theorem d_H_outlive_52 : kI m_H_outlive 52 (.putfield 15) 3 55 := ⟨by decide +kernel, rfl⟩
theorem d_H_outlive_55 : kI m_H_outlive 55 .return_ 1 56 := ⟨by decide +kernel, rfl⟩
theorem d_H_waitsForThread_0 : kI m_H_waitsForThread 0 (.aload_n 0) 1 1 := ⟨by decide +kernel, rfl⟩
theorem d_H_waitsForThread_1 : kI m_H_waitsForThread 1 (.getfield 15) 3 4 := ⟨by decide +kernel, rfl⟩
theorem d_H_waitsForThread_4 : kI m_H_waitsForThread 4 (.iconst 1) 1 5 := ⟨by decide +kernel, rfl⟩
theorem d_H_waitsForThread_5 : kJ m_H_waitsForThread 5 (.if_icmp .eq 19) 19 8 24 := ⟨by decide +kernel, rfl, by decide⟩
theorem d_H_waitsForThread_8 : kI m_H_waitsForThread 8 (.aload_n 0) 1 9 := ⟨by decide +kernel, rfl⟩
theorem d_H_waitsForThread_9 : kI m_H_waitsForThread 9 (.getfield 15) 3 12 := ⟨by decide +kernel, rfl⟩
theorem d_H_waitsForThread_12 : kI m_H_waitsForThread 12 (.iconst 2) 1 13 := ⟨by decide +kernel, rfl⟩
theorem d_H_waitsForThread_13 : kJ m_H_waitsForThread 13 (.if_icmp .eq 11) 11 16 24 := ⟨by decide +kernel, rfl, by decide⟩
theorem d_H_waitsForThread_16 : kI m_H_waitsForThread 16 (.aload_n 0) 1 17 := ⟨by decide +kernel, rfl⟩
theorem d_H_waitsForThread_17 : kI m_H_waitsForThread 17 (.getfield 15) 3 20 := ⟨by decide +kernel, rfl⟩
theorem d_H_waitsForThread_20 : kI m_H_waitsForThread 20 (.iconst 3) 1 21 := ⟨by decide +kernel, rfl⟩
theorem d_H_waitsForThread_21 : kJ m_H_waitsForThread 21 (.if_icmp .ne 7) 7 24 28 := ⟨by decide +kernel, rfl, by decide⟩
theorem d_H_waitsForThread_24 : kI m_H_waitsForThread 24 (.iconst 1) 1 25 := ⟨by decide +kernel, rfl⟩
theorem d_H_waitsForThread_25 : kJ m_H_waitsForThread 25 (.goto 4) 4 28 29 := ⟨by decide +kernel, rfl, by decide⟩
theorem d_H_waitsForThread_28 : kI m_H_waitsForThread 28 (.iconst 0) 1 29 := ⟨by decide +kernel, rfl⟩
theorem d_H_waitsForThread_29 : kI m_H_waitsForThread 29 .ireturn 1 30 := ⟨by decide +kernel, rfl⟩
theorem d_H_waitsToSendTo_0 : kI m_H_waitsToSendTo 0 (.aload_n 0) 1 1 := ⟨by decide +kernel, rfl⟩
theorem d_H_waitsToSendTo_1 : kI m_H_waitsToSendTo 1 (.getfield 15) 3 4 := ⟨by decide +kernel, rfl⟩
theorem d_H_waitsToSendTo_4 : kI m_H_waitsToSendTo 4 (.iconst 1) 1 5 := ⟨by decide +kernel, rfl⟩
theorem d_H_waitsToSendTo_5 : kJ m_H_waitsToSendTo 5 (.if_icmp .eq 19) 19 8 24 := ⟨by decide +kernel, rfl, by decide⟩
theorem d_H_waitsToSendTo_8 : kI m_H_waitsToSendTo 8 (.aload_n 0) 1 9 := ⟨by decide +kernel, rfl⟩
theorem d_H_waitsToSendTo_9 : kI m_H_waitsToSendTo 9 (.getfield 15) 3 12 := ⟨by decide +kernel, rfl⟩
theorem d_H_waitsToSendTo_12 : kI m_H_waitsToSendTo 12 (.iconst 3) 1 13 := ⟨by decide +kernel, rfl⟩
theorem d_H_waitsToSendTo_13 : kJ m_H_waitsToSendTo 13 (.if_icmp .eq 11) 11 16 24 := ⟨by decide +kernel, rfl, by decide⟩
theorem d_H_waitsToSendTo_16 : kI m_H_waitsToSendTo 16 (.aload_n 0) 1 17 := ⟨by decide +kernel, rfl⟩
theorem d_H_waitsToSendTo_17 : kI m_H_waitsToSendTo 17 (.getfield 15) 3 20 := ⟨by decide +kernel, rfl⟩
theorem d_H_waitsToSendTo_20 : kI m_H_waitsToSendTo 20 (.iconst 4) 1 21 := ⟨by decide +kernel, rfl⟩
theorem d_H_waitsToSendTo_21 : kJ m_H_waitsToSendTo 21 (.if_icmp .ne 15) 15 24 36 := ⟨by decide +kernel, rfl, by decide⟩
theorem d_H_waitsToSendTo_24 : kI m_H_waitsToSendTo 24 (.aload_n 0) 1 25 := ⟨by decide +kernel, rfl⟩
theorem d_H_waitsToSendTo_25 : kI m_H_waitsToSendTo 25 (.getfield 46) 3 28 := ⟨by decide +kernel, rfl⟩
theorem d_H_waitsToSendTo_28 : kI m_H_waitsToSendTo 28 (.iload_n 1) 1 29 := ⟨by decide +kernel, rfl⟩
theorem d_H_waitsToSendTo_29 : kJ m_H_waitsToSendTo 29 (.if_icmp .ne 7) 7 32 36 := ⟨by decide +kernel, rfl, by decide⟩
theorem d_H_waitsToSendTo_32 : kI m_H_waitsToSendTo 32 (.iconst 1) 1 33 := ⟨by decide +kernel, rfl⟩
theorem d_H_waitsToSendTo_33 : kJ m_H_waitsToSendTo 33 (.goto 4) 4 36 37 := ⟨by decide +kernel, rfl, by decide⟩
theorem d_H_waitsToSendTo_36 : kI m_H_waitsToSendTo 36 (.iconst 0) 1 37 := ⟨by decide +kernel, rfl⟩
theorem d_H_waitsToSendTo_37 : kI m_H_waitsToSendTo 37 .ireturn 1 38 := ⟨by decide +kernel, rfl⟩
theorem d_H_receivesFrom_0 : kI m_H_receivesFrom 0 (.aload_n 0) 1 1 := ⟨by decide +kernel, rfl⟩
theorem d_H_receivesFrom_1 : kI m_H_receivesFrom 1 (.getfield 15) 3 4 := ⟨by decide +kernel, rfl⟩
theorem d_H_receivesFrom_4 : kI m_H_receivesFrom 4 (.iconst 2) 1 5 := ⟨by decide +kernel, rfl⟩
theorem d_H_receivesFrom_5 : kJ m_H_receivesFrom 5 (.if_icmp .ne 23) 23 8 28 := ⟨by decide +kernel, rfl, by decide⟩
theorem d_H_receivesFrom_8 : kI m_H_receivesFrom 8 (.aload_n 0) 1 9 := ⟨by decide +kernel, rfl⟩
theorem d_H_receivesFrom_9 : kI m_H_receivesFrom 9 (.getfield 46) 3 12 := ⟨by decide +kernel, rfl⟩
theorem d_H_receivesFrom_12 : kI m_H_receivesFrom 12 (.iconst (-1)) 1 13 := ⟨by decide +kernel, rfl⟩
theorem d_H_receivesFrom_13 : kJ m_H_receivesFrom 13 (.if_icmp .eq 11) 11 16 24 := ⟨by decide +kernel, rfl, by decide⟩
theorem d_H_receivesFrom_16 : kI m_H_receivesFrom 16 (.aload_n 0) 1 17 := ⟨by decide +kernel, rfl⟩
theorem d_H_receivesFrom_17 : kI m_H_receivesFrom 17 (.getfield 46) 3 20 := ⟨by decide +kernel, rfl⟩
theorem d_H_receivesFrom_20 : kI m_H_receivesFrom 20 (.iload_n 1) 1 21 := ⟨by decide +kernel, rfl⟩
theorem d_H_receivesFrom_21 : kJ m_H_receivesFrom 21 (.if_icmp .ne 7) 7 24 28 := ⟨by decide +kernel, rfl, by decide⟩
theorem d_H_receivesFrom_24 : kI m_H_receivesFrom 24 (.iconst 1) 1 25 := ⟨by decide +kernel, rfl⟩
theorem d_H_receivesFrom_25 : kJ m_H_receivesFrom 25 (.goto 4) 4 28 29 := ⟨by decide +kernel, rfl, by decide⟩
theorem d_H_receivesFrom_28 : kI m_H_receivesFrom 28 (.iconst 0) 1 29 := ⟨by decide +kernel, rfl⟩
theorem d_H_receivesFrom_29 : kI m_H_receivesFrom 29 .ireturn 1 30 := ⟨by decide +kernel, rfl⟩
theorem d_H_takesFrom_0 : kI m_H_takesFrom 0 (.aload_n 0) 1 1 := ⟨by decide +kernel, rfl⟩
theorem d_H_takesFrom_1 : kI m_H_takesFrom 1 (.iload_n 1) 1 2 := ⟨by decide +kernel, rfl⟩
theorem d_H_takesFrom_2 : kI m_H_takesFrom 2 (.invokevirtual 60) 3 5 := ⟨by decide +kernel, rfl⟩
theorem d_H_takesFrom_5 : kJ m_H_takesFrom 5 (.ifCond .ne 19) 19 8 24 := ⟨by decide +kernel, rfl, by decide⟩
theorem d_H_takesFrom_8 : kI m_H_takesFrom 8 (.aload_n 0) 1 9 := ⟨by decide +kernel, rfl⟩
theorem d_H_takesFrom_9 : kI m_H_takesFrom 9 (.getfield 15) 3 12 := ⟨by decide +kernel, rfl⟩
theorem d_H_takesFrom_12 : kI m_H_takesFrom 12 (.iconst 5) 1 13 := ⟨by decide +kernel, rfl⟩
theorem d_H_takesFrom_13 : kJ m_H_takesFrom 13 (.if_icmp .ne 15) 15 16 28 := ⟨by decide +kernel, rfl, by decide⟩
theorem d_H_takesFrom_16 : kI m_H_takesFrom 16 (.aload_n 0) 1 17 := ⟨by decide +kernel, rfl⟩
theorem d_H_takesFrom_17 : kI m_H_takesFrom 17 (.getfield 46) 3 20 := ⟨by decide +kernel, rfl⟩
theorem d_H_takesFrom_20 : kI m_H_takesFrom 20 (.iload_n 1) 1 21 := ⟨by decide +kernel, rfl⟩
theorem d_H_takesFrom_21 : kJ m_H_takesFrom 21 (.if_icmp .ne 7) 7 24 28 := ⟨by decide +kernel, rfl, by decide⟩
theorem d_H_takesFrom_24 : kI m_H_takesFrom 24 (.iconst 1) 1 25 := ⟨by decide +kernel, rfl⟩
theorem d_H_takesFrom_25 : kJ m_H_takesFrom 25 (.goto 4) 4 28 29 := ⟨by decide +kernel, rfl, by decide⟩
theorem d_H_takesFrom_28 : kI m_H_takesFrom 28 (.iconst 0) 1 29 := ⟨by decide +kernel, rfl⟩
theorem d_H_takesFrom_29 : kI m_H_takesFrom 29 .ireturn 1 30 := ⟨by decide +kernel, rfl⟩
end
section
theorem d_R_init_0 : kI m_R_init 0 (.aload_n 0) 1 1 := ⟨by decide +kernel, rfl⟩
theorem d_R_init_1 : kI m_R_init 1 (.invokespecial 1) 3 4 := ⟨by decide +kernel, rfl⟩
theorem d_R_init_4 : kI m_R_init 4 (.aload_n 0) 1 5 := ⟨by decide +kernel, rfl⟩
theorem d_R_init_5 : kI m_R_init 5 (.bipush 8) 2 7 := ⟨by decide +kernel, rfl⟩
theorem d_R_init_7 : kI m_R_init 7 (.newarray .boolean) 2 9 := ⟨by decide +kernel, rfl⟩
theorem d_R_init_9 : kI m_R_init 9 (.putfield 7) 3 12 := ⟨by decide +kernel, rfl⟩
theorem d_R_init_12 : kI m_R_init 12 (.aload_n 0) 1 13 := ⟨by decide +kernel, rfl⟩
theorem d_R_init_13 : kI m_R_init 13 (.bipush 8) 2 15 := ⟨by decide +kernel, rfl⟩
theorem d_R_init_15 : kI m_R_init 15 (.newarray .int) 2 17 := ⟨by decide +kernel, rfl⟩
theorem d_R_init_17 : kI m_R_init 17 (.putfield 13) 3 20 := ⟨by decide +kernel, rfl⟩
theorem d_R_init_20 : kI m_R_init 20 (.aload_n 0) 1 21 := ⟨by decide +kernel, rfl⟩
theorem d_R_init_21 : kI m_R_init 21 (.bipush 8) 2 23 := ⟨by decide +kernel, rfl⟩
theorem d_R_init_23 : kI m_R_init 23 (.newarray .int) 2 25 := ⟨by decide +kernel, rfl⟩
theorem d_R_init_25 : kI m_R_init 25 (.putfield 17) 3 28 := ⟨by decide +kernel, rfl⟩
theorem d_R_init_28 : kI m_R_init 28 (.aload_n 0) 1 29 := ⟨by decide +kernel, rfl⟩
theorem d_R_init_29 : kI m_R_init 29 (.bipush 32) 2 31 := ⟨by decide +kernel, rfl⟩
theorem d_R_init_31 : kI m_R_init 31 (.newarray .int) 2 33 := ⟨by decide +kernel, rfl⟩
theorem d_R_init_33 : kI m_R_init 33 (.putfield 20) 3 36 := ⟨by decide +kernel, rfl⟩
theorem d_R_init_36 : kI m_R_init 36 (.aload_n 0) 1 37 := ⟨by decide +kernel, rfl⟩
theorem d_R_init_37 : kI m_R_init 37 (.bipush 8) 2 39 := ⟨by decide +kernel, rfl⟩
theorem d_R_init_39 : kI m_R_init 39 (.newarray .int) 2 41 := ⟨by decide +kernel, rfl⟩
theorem d_R_init_41 : kI m_R_init 41 (.putfield 23) 3 44 := ⟨by decide +kernel, rfl⟩
theorem d_R_init_44 : kI m_R_init 44 (.aload_n 0) 1 45 := ⟨by decide +kernel, rfl⟩
theorem d_R_init_45 : kI m_R_init 45 (.bipush 8) 2 47 := ⟨by decide +kernel, rfl⟩
theorem d_R_init_47 : kI m_R_init 47 (.newarray .int) 2 49 := ⟨by decide +kernel, rfl⟩
theorem d_R_init_49 : kI m_R_init 49 (.putfield 26) 3 52 := ⟨by decide +kernel, rfl⟩
theorem d_R_init_52 : kI m_R_init 52 (.aload_n 0) 1 53 := ⟨by decide +kernel, rfl⟩
theorem d_R_init_53 : kI m_R_init 53 (.bipush 8) 2 55 := ⟨by decide +kernel, rfl⟩
theorem d_R_init_55 : kI m_R_init 55 (.newarray .boolean) 2 57 := ⟨by decide +kernel, rfl⟩
theorem d_R_init_57 : kI m_R_init 57 (.putfield 29) 3 60 := ⟨by decide +kernel, rfl⟩
theorem d_R_init_60 : kI m_R_init 60 (.aload_n 0) 1 61 := ⟨by decide +kernel, rfl⟩
theorem d_R_init_61 : kI m_R_init 61 (.bipush 8) 2 63 := ⟨by decide +kernel, rfl⟩
theorem d_R_init_63 : kI m_R_init 63 (.newarray .int) 2 65 := ⟨by decide +kernel, rfl⟩
theorem d_R_init_65 : kI m_R_init 65 (.putfield 32) 3 68 := ⟨by decide +kernel, rfl⟩
theorem d_R_init_68 : kI m_R_init 68 (.aload_n 0) 1 69 := ⟨by decide +kernel, rfl⟩
theorem d_R_init_69 : kI m_R_init 69 (.bipush 8) 2 71 := ⟨by decide +kernel, rfl⟩
theorem d_R_init_71 : kI m_R_init 71 (.newarray .int) 2 73 := ⟨by decide +kernel, rfl⟩
theorem d_R_init_73 : kI m_R_init 73 (.putfield 35) 3 76 := ⟨by decide +kernel, rfl⟩
theorem d_R_init_76 : kI m_R_init 76 (.aload_n 0) 1 77 := ⟨by decide +kernel, rfl⟩
theorem d_R_init_77 : kI m_R_init 77 (.bipush 8) 2 79 := ⟨by decide +kernel, rfl⟩
theorem d_R_init_79 : kI m_R_init 79 (.newarray .int) 2 81 := ⟨by decide +kernel, rfl⟩
theorem d_R_init_81 : kI m_R_init 81 (.putfield 38) 3 84 := ⟨by decide +kernel, rfl⟩
theorem d_R_init_84 : kI m_R_init 84 (.aload_n 0) 1 85 := ⟨by decide +kernel, rfl⟩
theorem d_R_init_85 : kI m_R_init 85 (.bipush 8) 2 87 := ⟨by decide +kernel, rfl⟩
theorem d_R_init_87 : kI m_R_init 87 (.newarray .int) 2 89 := ⟨by decide +kernel, rfl⟩
theorem d_R_init_89 : kI m_R_init 89 (.putfield 41) 3 92 := ⟨by decide +kernel, rfl⟩
theorem d_R_init_92 : kI m_R_init 92 (.aload_n 0) 1 93 := ⟨by decide +kernel, rfl⟩
theorem d_R_init_93 : kI m_R_init 93 (.bipush 8) 2 95 := ⟨by decide +kernel, rfl⟩
theorem d_R_init_95 : kI m_R_init 95 (.newarray .int) 2 97 := ⟨by decide +kernel, rfl⟩
theorem d_R_init_97 : kI m_R_init 97 (.putfield 44) 3 100 := ⟨by decide +kernel, rfl⟩
theorem d_R_init_100 : kI m_R_init 100 (.aload_n 0) 1 101 := ⟨by decide +kernel, rfl⟩
theorem d_R_init_101 : kI m_R_init 101 (.bipush 8) 2 103 := ⟨by decide +kernel, rfl⟩
theorem d_R_init_103 : kI m_R_init 103 (.newarray .int) 2 105 := ⟨by decide +kernel, rfl⟩
theorem d_R_init_105 : kI m_R_init 105 (.putfield 47) 3 108 := ⟨by decide +kernel, rfl⟩
theorem d_R_init_108 : kI m_R_init 108 (.aload_n 0) 1 109 := ⟨by decide +kernel, rfl⟩
theorem d_R_init_109 : kI m_R_init 109 (.bipush 8) 2 111 := ⟨by decide +kernel, rfl⟩
theorem d_R_init_111 : kI m_R_init 111 (.newarray .int) 2 113 := ⟨by decide +kernel, rfl⟩
theorem d_R_init_113 : kI m_R_init 113 (.putfield 50) 3 116 := ⟨by decide +kernel, rfl⟩
theorem d_R_init_116 : kI m_R_init 116 (.aload_n 0) 1 117 := ⟨by decide +kernel, rfl⟩
theorem d_R_init_117 : kI m_R_init 117 (.bipush 8) 2 119 := ⟨by decide +kernel, rfl⟩
theorem d_R_init_119 : kI m_R_init 119 (.newarray .int) 2 121 := ⟨by decide +kernel, rfl⟩
theorem d_R_init_121 : kI m_R_init 121 (.putfield 53) 3 124 := ⟨by decide +kernel, rfl⟩
theorem d_R_init_124 : kI m_R_init 124 (.aload_n 0) 1 125 := ⟨by decide +kernel, rfl⟩
theorem d_R_init_125 : kI m_R_init 125 (.bipush 8) 2 127 := ⟨by decide +kernel, rfl⟩
theorem d_R_init_127 : kI m_R_init 127 (.newarray .int) 2 129 := ⟨by decide +kernel, rfl⟩
theorem d_R_init_129 : kI m_R_init 129 (.putfield 56) 3 132 := ⟨by decide +kernel, rfl⟩
theorem d_R_init_132 : kI m_R_init 132 (.aload_n 0) 1 133 := ⟨by decide +kernel, rfl⟩
theorem d_R_init_133 : kI m_R_init 133 (.bipush 8) 2 135 := ⟨by decide +kernel, rfl⟩
theorem d_R_init_135 : kI m_R_init 135 (.newarray .int) 2 137 := ⟨by decide +kernel, rfl⟩
theorem d_R_init_137 : kI m_R_init 137 (.putfield 59) 3 140 := ⟨by decide +kernel, rfl⟩
theorem d_R_init_140 : kI m_R_init 140 (.aload_n 0) 1 141 := ⟨by decide +kernel, rfl⟩
theorem d_R_init_141 : kI m_R_init 141 (.bipush 8) 2 143 := ⟨by decide +kernel, rfl⟩
theorem d_R_init_143 : kI m_R_init 143 (.newarray .boolean) 2 145 := ⟨by decide +kernel, rfl⟩
theorem d_R_init_145 : kI m_R_init 145 (.putfield 62) 3 148 := ⟨by decide +kernel, rfl⟩
theorem d_R_init_148 : kI m_R_init 148 (.aload_n 0) 1 149 := ⟨by decide +kernel, rfl⟩
theorem d_R_init_149 : kI m_R_init 149 (.bipush 8) 2 151 := ⟨by decide +kernel, rfl⟩
theorem d_R_init_151 : kI m_R_init 151 (.newarray .int) 2 153 := ⟨by decide +kernel, rfl⟩
theorem d_R_init_153 : kI m_R_init 153 (.putfield 65) 3 156 := ⟨by decide +kernel, rfl⟩
theorem d_R_init_156 : kI m_R_init 156 (.aload_n 0) 1 157 := ⟨by decide +kernel, rfl⟩
theorem d_R_init_157 : kI m_R_init 157 (.bipush 96) 2 159 := ⟨by decide +kernel, rfl⟩
theorem d_R_init_159 : kI m_R_init 159 (.newarray .int) 2 161 := ⟨by decide +kernel, rfl⟩
theorem d_R_init_161 : kI m_R_init 161 (.putfield 68) 3 164 := ⟨by decide +kernel, rfl⟩
theorem d_R_init_164 : kI m_R_init 164 (.aload_n 0) 1 165 := ⟨by decide +kernel, rfl⟩
theorem d_R_init_165 : kI m_R_init 165 (.bipush 96) 2 167 := ⟨by decide +kernel, rfl⟩
theorem d_R_init_167 : kI m_R_init 167 (.newarray .int) 2 169 := ⟨by decide +kernel, rfl⟩
theorem d_R_init_169 : kI m_R_init 169 (.putfield 71) 3 172 := ⟨by decide +kernel, rfl⟩
theorem d_R_init_172 : kI m_R_init 172 (.aload_n 0) 1 173 := ⟨by decide +kernel, rfl⟩
theorem d_R_init_173 : kI m_R_init 173 (.bipush 96) 2 175 := ⟨by decide +kernel, rfl⟩
theorem d_R_init_175 : kI m_R_init 175 (.newarray .int) 2 177 := ⟨by decide +kernel, rfl⟩
theorem d_R_init_177 : kI m_R_init 177 (.putfield 74) 3 180 := ⟨by decide +kernel, rfl⟩
theorem d_R_init_180 : kI m_R_init 180 (.aload_n 0) 1 181 := ⟨by decide +kernel, rfl⟩
theorem d_R_init_181 : kI m_R_init 181 (.bipush 96) 2 183 := ⟨by decide +kernel, rfl⟩
theorem d_R_init_183 : kI m_R_init 183 (.newarray .int) 2 185 := ⟨by decide +kernel, rfl⟩
theorem d_R_init_185 : kI m_R_init 185 (.putfield 77) 3 188 := ⟨by decide +kernel, rfl⟩
theorem d_R_init_188 : kI m_R_init 188 (.aload_n 0) 1 189 := ⟨by decide +kernel, rfl⟩
theorem d_R_init_189 : kI m_R_init 189 (.bipush 16) 2 191 := ⟨by decide +kernel, rfl⟩
theorem d_R_init_191 : kI m_R_init 191 (.newarray .int) 2 193 := ⟨by decide +kernel, rfl⟩
theorem d_R_init_193 : kI m_R_init 193 (.putfield 80) 3 196 := ⟨by decide +kernel, rfl⟩
theorem d_R_init_196 : kI m_R_init 196 (.iconst 0) 1 197 := ⟨by decide +kernel, rfl⟩
theorem d_R_init_197 : kI m_R_init 197 (.istore_n 1) 1 198 := ⟨by decide +kernel, rfl⟩
theorem d_R_init_198 : kI m_R_init 198 (.iload_n 1) 1 199 := ⟨by decide +kernel, rfl⟩
theorem d_R_init_199 : kI m_R_init 199 (.bipush 96) 2 201 := ⟨by decide +kernel, rfl⟩
theorem d_R_init_201 : kJ m_R_init 201 (.if_icmp .ge 33) 33 204 234 := ⟨by decide +kernel, rfl, by decide⟩
theorem d_R_init_204 : kI m_R_init 204 (.aload_n 0) 1 205 := ⟨by decide +kernel, rfl⟩
theorem d_R_init_205 : kI m_R_init 205 (.getfield 68) 3 208 := ⟨by decide +kernel, rfl⟩
theorem d_R_init_208 : kI m_R_init 208 (.iload_n 1) 1 209 := ⟨by decide +kernel, rfl⟩
theorem d_R_init_209 : kI m_R_init 209 (.iload_n 1) 1 210 := ⟨by decide +kernel, rfl⟩
theorem d_R_init_210 : kI m_R_init 210 (.bipush 16) 2 212 := ⟨by decide +kernel, rfl⟩
theorem d_R_init_212 : kJ m_R_init 212 (.if_icmp .ge 7) 7 215 219 := ⟨by decide +kernel, rfl, by decide⟩
theorem d_R_init_215 : kI m_R_init 215 (.iload_n 1) 1 216 := ⟨by decide +kernel, rfl⟩
theorem d_R_init_216 : kJ m_R_init 216 (.goto 4) 4 219 220 := ⟨by decide +kernel, rfl, by decide⟩
theorem d_R_init_219 : kI m_R_init 219 (.iconst (-1)) 1 220 := ⟨by decide +kernel, rfl⟩
theorem d_R_init_220 : kI m_R_init 220 .iastore 1 221 := ⟨by decide +kernel, rfl⟩
theorem d_R_init_221 : kI m_R_init 221 (.aload_n 0) 1 222 := ⟨by decide +kernel, rfl⟩
theorem d_R_init_222 : kI m_R_init 222 (.getfield 71) 3 225 := ⟨by decide +kernel, rfl⟩
theorem d_R_init_225 : kI m_R_init 225 (.iload_n 1) 1 226 := ⟨by decide +kernel, rfl⟩
theorem d_R_init_226 : kI m_R_init 226 (.iconst 2) 1 227 := ⟨by decide +kernel, rfl⟩
theorem d_R_init_227 : kI m_R_init 227 .iastore 1 228 := ⟨by decide +kernel, rfl⟩
theorem d_R_init_228 : kI m_R_init 228 (.iinc 1 1) 3 231 := ⟨by decide +kernel, rfl⟩
theorem d_R_init_231 : kJ m_R_init 231 (.goto (-33)) (-33) 234 198 := ⟨by decide +kernel, rfl, by decide⟩
theorem d_R_init_234 : kI m_R_init 234 (.aload_n 0) 1 235 := ⟨by decide +kernel, rfl⟩
theorem d_R_init_235 : kI m_R_init 235 (.iconst 0) 1 236 := ⟨by decide +kernel, rfl⟩
theorem d_R_init_236 : kI m_R_init 236 (.iconst 0) 1 237 := ⟨by decide +kernel, rfl⟩
theorem d_R_init_237 : kI m_R_init 237 (.iconst (-1)) 1 238 := ⟨by decide +kernel, rfl⟩
theorem d_R_init_238 : kI m_R_init 238 (.invokevirtual 83) 3 241 := ⟨by decide +kernel, rfl⟩
theorem d_R_init_241 : kI m_R_init 241 .return_ 1 242 := ⟨by decide +kernel, rfl⟩
theorem d_R_begin_0 : kI m_R_begin 0 (.aload_n 0) 1 1 := ⟨by decide +kernel, rfl⟩
theorem d_R_begin_1 : kI m_R_begin 1 (.getfield 7) 3 4 := ⟨by decide +kernel, rfl⟩
theorem d_R_begin_4 : kI m_R_begin 4 (.iload_n 1) 1 5 := ⟨by decide +kernel, rfl⟩
theorem d_R_begin_5 : kI m_R_begin 5 (.iconst 1) 1 6 := ⟨by decide +kernel, rfl⟩
theorem d_R_begin_6 : kI m_R_begin 6 .bastore 1 7 := ⟨by decide +kernel, rfl⟩
theorem d_R_begin_7 : kI m_R_begin 7 (.aload_n 0) 1 8 := ⟨by decide +kernel, rfl⟩
theorem d_R_begin_8 : kI m_R_begin 8 (.getfield 13) 3 11 := ⟨by decide +kernel, rfl⟩
theorem d_R_begin_11 : kI m_R_begin 11 (.iload_n 1) 1 12 := ⟨by decide +kernel, rfl⟩
theorem d_R_begin_12 : kI m_R_begin 12 (.iload_n 2) 1 13 := ⟨by decide +kernel, rfl⟩
theorem d_R_begin_13 : kI m_R_begin 13 .iastore 1 14 := ⟨by decide +kernel, rfl⟩
theorem d_R_begin_14 : kI m_R_begin 14 (.aload_n 0) 1 15 := ⟨by decide +kernel, rfl⟩
theorem d_R_begin_15 : kI m_R_begin 15 (.getfield 17) 3 18 := ⟨by decide +kernel, rfl⟩
theorem d_R_begin_18 : kI m_R_begin 18 (.iload_n 1) 1 19 := ⟨by decide +kernel, rfl⟩
theorem d_R_begin_19 : kI m_R_begin 19 (.iload_n 3) 1 20 := ⟨by decide +kernel, rfl⟩
theorem d_R_begin_20 : kI m_R_begin 20 .iastore 1 21 := ⟨by decide +kernel, rfl⟩
theorem d_R_begin_21 : kI m_R_begin 21 (.iconst 0) 1 22 := ⟨by decide +kernel, rfl⟩
theorem d_R_begin_22 : kI m_R_begin 22 (.istore 4) 2 24 := ⟨by decide +kernel, rfl⟩
theorem d_R_begin_24 : kI m_R_begin 24 (.iload 4) 2 26 := ⟨by decide +kernel, rfl⟩
theorem d_R_begin_26 : kI m_R_begin 26 (.iconst 4) 1 27 := ⟨by decide +kernel, rfl⟩
theorem d_R_begin_27 : kJ m_R_begin 27 (.if_icmp .ge 21) 21 30 48 := ⟨by decide +kernel, rfl, by decide⟩
theorem d_R_begin_30 : kI m_R_begin 30 (.aload_n 0) 1 31 := ⟨by decide +kernel, rfl⟩
theorem d_R_begin_31 : kI m_R_begin 31 (.getfield 20) 3 34 := ⟨by decide +kernel, rfl⟩
theorem d_R_begin_34 : kI m_R_begin 34 (.iconst 4) 1 35 := ⟨by decide +kernel, rfl⟩
theorem d_R_begin_35 : kI m_R_begin 35 (.iload_n 1) 1 36 := ⟨by decide +kernel, rfl⟩
theorem d_R_begin_36 : kI m_R_begin 36 .imul 1 37 := ⟨by decide +kernel, rfl⟩
theorem d_R_begin_37 : kI m_R_begin 37 (.iload 4) 2 39 := ⟨by decide +kernel, rfl⟩
theorem d_R_begin_39 : kI m_R_begin 39 .iadd 1 40 := ⟨by decide +kernel, rfl⟩
theorem d_R_begin_40 : kI m_R_begin 40 (.iconst 0) 1 41 := ⟨by decide +kernel, rfl⟩
theorem d_R_begin_41 : kI m_R_begin 41 .iastore 1 42 := ⟨by decide +kernel, rfl⟩
theorem d_R_begin_42 : kI m_R_begin 42 (.iinc 4 1) 3 45 := ⟨by decide +kernel, rfl⟩
theorem d_R_begin_45 : kJ m_R_begin 45 (.goto (-21)) (-21) 48 24 := ⟨by decide +kernel, rfl, by decide⟩
theorem d_R_begin_48 : kI m_R_begin 48 (.aload_n 0) 1 49 := ⟨by decide +kernel, rfl⟩
theorem d_R_begin_49 : kI m_R_begin 49 (.getfield 23) 3 52 := ⟨by decide +kernel, rfl⟩
theorem d_R_begin_52 : kI m_R_begin 52 (.iload_n 1) 1 53 := ⟨by decide +kernel, rfl⟩
theorem d_R_begin_53 : kI m_R_begin 53 (.iconst (-1)) 1 54 := ⟨by decide +kernel, rfl⟩
theorem d_R_begin_54 : kI m_R_begin 54 .iastore 1 55 := ⟨by decide +kernel, rfl⟩
theorem d_R_begin_55 : kI m_R_begin 55 (.aload_n 0) 1 56 := ⟨by decide +kernel, rfl⟩
theorem d_R_begin_56 : kI m_R_begin 56 (.getfield 32) 3 59 := ⟨by decide +kernel, rfl⟩
theorem d_R_begin_59 : kI m_R_begin 59 (.iload_n 1) 1 60 := ⟨by decide +kernel, rfl⟩
theorem d_R_begin_60 : kI m_R_begin 60 (.iconst (-1)) 1 61 := ⟨by decide +kernel, rfl⟩
theorem d_R_begin_61 : kI m_R_begin 61 .iastore 1 62 := ⟨by decide +kernel, rfl⟩
theorem d_R_begin_62 : kI m_R_begin 62 (.aload_n 0) 1 63 := ⟨by decide +kernel, rfl⟩
theorem d_R_begin_63 : kI m_R_begin 63 (.getfield 35) 3 66 := ⟨by decide +kernel, rfl⟩
theorem d_R_begin_66 : kI m_R_begin 66 (.iload_n 1) 1 67 := ⟨by decide +kernel, rfl⟩
theorem d_R_begin_67 : kI m_R_begin 67 (.iconst 0) 1 68 := ⟨by decide +kernel, rfl⟩
theorem d_R_begin_68 : kI m_R_begin 68 .iastore 1 69 := ⟨by decide +kernel, rfl⟩
theorem d_R_begin_69 : kI m_R_begin 69 (.aload_n 0) 1 70 := ⟨by decide +kernel, rfl⟩
theorem d_R_begin_70 : kI m_R_begin 70 (.getfield 38) 3 73 := ⟨by decide +kernel, rfl⟩
theorem d_R_begin_73 : kI m_R_begin 73 (.iload_n 1) 1 74 := ⟨by decide +kernel, rfl⟩
theorem d_R_begin_74 : kI m_R_begin 74 (.iconst (-1)) 1 75 := ⟨by decide +kernel, rfl⟩
theorem d_R_begin_75 : kI m_R_begin 75 .iastore 1 76 := ⟨by decide +kernel, rfl⟩
theorem d_R_begin_76 : kI m_R_begin 76 (.aload_n 0) 1 77 := ⟨by decide +kernel, rfl⟩
theorem d_R_begin_77 : kI m_R_begin 77 (.getfield 41) 3 80 := ⟨by decide +kernel, rfl⟩
theorem d_R_begin_80 : kI m_R_begin 80 (.iload_n 1) 1 81 := ⟨by decide +kernel, rfl⟩
theorem d_R_begin_81 : kI m_R_begin 81 (.iconst 0) 1 82 := ⟨by decide +kernel, rfl⟩
theorem d_R_begin_82 : kI m_R_begin 82 .iastore 1 83 := ⟨by decide +kernel, rfl⟩
theorem d_R_begin_83 : kI m_R_begin 83 (.aload_n 0) 1 84 := ⟨by decide +kernel, rfl⟩
theorem d_R_begin_84 : kI m_R_begin 84 (.getfield 44) 3 87 := ⟨by decide +kernel, rfl⟩
theorem d_R_begin_87 : kI m_R_begin 87 (.iload_n 1) 1 88 := ⟨by decide +kernel, rfl⟩
theorem d_R_begin_88 : kI m_R_begin 88 (.iconst 0) 1 89 := ⟨by decide +kernel, rfl⟩
theorem d_R_begin_89 : kI m_R_begin 89 .iastore 1 90 := ⟨by decide +kernel, rfl⟩
theorem d_R_begin_90 : kI m_R_begin 90 (.aload_n 0) 1 91 := ⟨by decide +kernel, rfl⟩
theorem d_R_begin_91 : kI m_R_begin 91 (.getfield 47) 3 94 := ⟨by decide +kernel, rfl⟩
theorem d_R_begin_94 : kI m_R_begin 94 (.iload_n 1) 1 95 := ⟨by decide +kernel, rfl⟩
theorem d_R_begin_95 : kI m_R_begin 95 (.iconst 0) 1 96 := ⟨by decide +kernel, rfl⟩
theorem d_R_begin_96 : kI m_R_begin 96 .iastore 1 97 := ⟨by decide +kernel, rfl⟩
theorem d_R_begin_97 : kI m_R_begin 97 .return_ 1 98 := ⟨by decide +kernel, rfl⟩
theorem d_R_thread_0 : kI m_R_thread 0 (.iload_n 1) 1 1 := ⟨by decide +kernel, rfl⟩
theorem d_R_thread_1 : kJ m_R_thread 1 (.ifCond .lt 22) 22 4 23 := ⟨by decide +kernel, rfl, by decide⟩
theorem d_R_thread_4 : kI m_R_thread 4 (.iload_n 1) 1 5 := ⟨by decide +kernel, rfl⟩
theorem d_R_thread_5 : kI m_R_thread 5 (.bipush 8) 2 7 := ⟨by decide +kernel, rfl⟩
theorem d_R_thread_7 : kJ m_R_thread 7 (.if_icmp .ge 16) 16 10 23 := ⟨by decide +kernel, rfl, by decide⟩
theorem d_R_thread_10 : kI m_R_thread 10 (.aload_n 0) 1 11 := ⟨by decide +kernel, rfl⟩
theorem d_R_thread_11 : kI m_R_thread 11 (.getfield 7) 3 14 := ⟨by decide +kernel, rfl⟩
theorem d_R_thread_14 : kI m_R_thread 14 (.iload_n 1) 1 15 := ⟨by decide +kernel, rfl⟩
theorem d_R_thread_15 : kI m_R_thread 15 .baload 1 16 := ⟨by decide +kernel, rfl⟩
theorem d_R_thread_16 : kJ m_R_thread 16 (.ifCond .eq 7) 7 19 23 := ⟨by decide +kernel, rfl, by decide⟩
theorem d_R_thread_19 : kI m_R_thread 19 (.iconst 1) 1 20 := ⟨by decide +kernel, rfl⟩
theorem d_R_thread_20 : kJ m_R_thread 20 (.goto 4) 4 23 24 := ⟨by decide +kernel, rfl, by decide⟩
theorem d_R_thread_23 : kI m_R_thread 23 (.iconst 0) 1 24 := ⟨by decide +kernel, rfl⟩
theorem d_R_thread_24 : kI m_R_thread 24 .ireturn 1 25 := ⟨by decide +kernel, rfl⟩
theorem d_R_running_0 : kI m_R_running 0 (.aload_n 0) 1 1 := ⟨by decide +kernel, rfl⟩
theorem d_R_running_1 : kI m_R_running 1 (.iload_n 1) 1 2 := ⟨by decide +kernel, rfl⟩
theorem d_R_running_2 : kI m_R_running 2 (.invokevirtual 87) 3 5 := ⟨by decide +kernel, rfl⟩
theorem d_R_running_5 : kJ m_R_running 5 (.ifCond .eq 16) 16 8 21 := ⟨by decide +kernel, rfl, by decide⟩
theorem d_R_running_8 : kI m_R_running 8 (.aload_n 0) 1 9 := ⟨by decide +kernel, rfl⟩
theorem d_R_running_9 : kI m_R_running 9 (.getfield 47) 3 12 := ⟨by decide +kernel, rfl⟩
theorem d_R_running_12 : kI m_R_running 12 (.iload_n 1) 1 13 := ⟨by decide +kernel, rfl⟩
theorem d_R_running_13 : kI m_R_running 13 .iaload 1 14 := ⟨by decide +kernel, rfl⟩
theorem d_R_running_14 : kJ m_R_running 14 (.ifCond .ne 7) 7 17 21 := ⟨by decide +kernel, rfl, by decide⟩
theorem d_R_running_17 : kI m_R_running 17 (.iconst 1) 1 18 := ⟨by decide +kernel, rfl⟩
theorem d_R_running_18 : kJ m_R_running 18 (.goto 4) 4 21 22 := ⟨by decide +kernel, rfl, by decide⟩
theorem d_R_running_21 : kI m_R_running 21 (.iconst 0) 1 22 := ⟨by decide +kernel, rfl⟩
theorem d_R_running_22 : kI m_R_running 22 .ireturn 1 23 := ⟨by decide +kernel, rfl⟩
theorem d_R_run_0 : kI m_R_run 0 (.aload_n 0) 1 1 := ⟨by decide +kernel, rfl⟩
theorem d_R_run_1 : kI m_R_run 1 (.getfield 47) 3 4 := ⟨by decide +kernel, rfl⟩
theorem d_R_run_4 : kI m_R_run 4 (.iload_n 1) 1 5 := ⟨by decide +kernel, rfl⟩
theorem d_R_run_5 : kI m_R_run 5 (.iconst 0) 1 6 := ⟨by decide +kernel, rfl⟩
theorem d_R_run_6 : kI m_R_run 6 .iastore 1 7 := ⟨by decide +kernel, rfl⟩
theorem d_R_run_7 : kI m_R_run 7 (.aload_n 0) 1 8 := ⟨by decide +kernel, rfl⟩
theorem d_R_run_8 : kI m_R_run 8 (.getfield 35) 3 11 := ⟨by decide +kernel, rfl⟩
theorem d_R_run_11 : kI m_R_run 11 (.iload_n 1) 1 12 := ⟨by decide +kernel, rfl⟩
theorem d_R_run_12 : kI m_R_run 12 (.iload_n 2) 1 13 := ⟨by decide +kernel, rfl⟩
theorem d_R_run_13 : kI m_R_run 13 .iastore 1 14 := ⟨by decide +kernel, rfl⟩
theorem d_R_run_14 : kI m_R_run 14 .return_ 1 15 := ⟨by decide +kernel, rfl⟩
theorem d_R_linger_0 : kI m_R_linger 0 (.aload_n 0) 1 1 := ⟨by decide +kernel, rfl⟩
theorem d_R_linger_1 : kI m_R_linger 1 (.getfield 47) 3 4 := ⟨by decide +kernel, rfl⟩
theorem d_R_linger_4 : kI m_R_linger 4 (.iload_n 1) 1 5 := ⟨by decide +kernel, rfl⟩
theorem d_R_linger_5 : kI m_R_linger 5 (.iload_n 2) 1 6 := ⟨by decide +kernel, rfl⟩
theorem d_R_linger_6 : kI m_R_linger 6 .iastore 1 7 := ⟨by decide +kernel, rfl⟩
theorem d_R_linger_7 : kI m_R_linger 7 (.aload_n 0) 1 8 := ⟨by decide +kernel, rfl⟩
theorem d_R_linger_8 : kI m_R_linger 8 (.getfield 50) 3 11 := ⟨by decide +kernel, rfl⟩
theorem d_R_linger_11 : kI m_R_linger 11 (.iload_n 1) 1 12 := ⟨by decide +kernel, rfl⟩
theorem d_R_linger_12 : kI m_R_linger 12 (.iload_n 3) 1 13 := ⟨by decide +kernel, rfl⟩
theorem d_R_linger_13 : kI m_R_linger 13 .iastore 1 14 := ⟨by decide +kernel, rfl⟩
theorem d_R_linger_14 : kI m_R_linger 14 (.aload_n 0) 1 15 := ⟨by decide +kernel, rfl⟩
theorem d_R_linger_15 : kI m_R_linger 15 (.getfield 53) 3 18 := ⟨by decide +kernel, rfl⟩
theorem d_R_linger_18 : kI m_R_linger 18 (.iload_n 1) 1 19 := ⟨by decide +kernel, rfl⟩
theorem d_R_linger_19 : kI m_R_linger 19 (.iload 4) 2 21 := ⟨by decide +kernel, rfl⟩
theorem d_R_linger_21 : kJ m_R_linger 21 (.ifCond .ge 7) 7 24 28 := ⟨by decide +kernel, rfl, by decide⟩
theorem d_R_linger_24 : kI m_R_linger 24 (.iconst (-1)) 1 25 := ⟨by decide +kernel, rfl⟩
theorem d_R_linger_25 : kJ m_R_linger 25 (.goto 10) 10 28 35 := ⟨by decide +kernel, rfl, by decide⟩
theorem d_R_linger_28 : kI m_R_linger 28 (.aload_n 0) 1 29 := ⟨by decide +kernel, rfl⟩
theorem d_R_linger_29 : kI m_R_linger 29 (.getfield 91) 3 32 := ⟨by decide +kernel, rfl⟩
theorem d_R_linger_32 : kI m_R_linger 32 (.iload 4) 2 34 := ⟨by decide +kernel, rfl⟩
theorem d_R_linger_34 : kI m_R_linger 34 .iadd 1 35 := ⟨by decide +kernel, rfl⟩
theorem d_R_linger_35 : kI m_R_linger 35 .iastore 1 36 := ⟨by decide +kernel, rfl⟩
theorem d_R_linger_36 : kI m_R_linger 36 (.aload_n 0) 1 37 := ⟨by decide +kernel, rfl⟩
theorem d_R_linger_37 : kI m_R_linger 37 (.getfield 56) 3 40 := ⟨by decide +kernel, rfl⟩
theorem d_R_linger_40 : kI m_R_linger 40 (.iload_n 1) 1 41 := ⟨by decide +kernel, rfl⟩
theorem d_R_linger_41 : kI m_R_linger 41 (.aload_n 0) 1 42 := ⟨by decide +kernel, rfl⟩
theorem d_R_linger_42 : kI m_R_linger 42 (.getfield 95) 3 45 := ⟨by decide +kernel, rfl⟩
theorem d_R_linger_45 : kI m_R_linger 45 .iastore 1 46 := ⟨by decide +kernel, rfl⟩
theorem d_R_linger_46 : kI m_R_linger 46 (.aload_n 0) 1 47 := ⟨by decide +kernel, rfl⟩
theorem d_R_linger_47 : kI m_R_linger 47 .dup 1 48 := ⟨by decide +kernel, rfl⟩
theorem d_R_linger_48 : kI m_R_linger 48 (.getfield 95) 3 51 := ⟨by decide +kernel, rfl⟩
theorem d_R_linger_51 : kI m_R_linger 51 (.iconst 1) 1 52 := ⟨by decide +kernel, rfl⟩
theorem d_R_linger_52 : kI m_R_linger 52 .iadd 1 53 := ⟨by decide +kernel, rfl⟩
theorem d_R_linger_53 : kI m_R_linger 53 (.putfield 95) 3 56 := ⟨by decide +kernel, rfl⟩
theorem d_R_linger_56 : kI m_R_linger 56 .return_ 1 57 := ⟨by decide +kernel, rfl⟩
theorem d_R_spawn_0 : kI m_R_spawn 0 (.iconst (-1)) 1 1 := ⟨by decide +kernel, rfl⟩
theorem d_R_spawn_1 : kI m_R_spawn 1 (.istore_n 3) 1 2 := ⟨by decide +kernel, rfl⟩
theorem d_R_spawn_2 : kI m_R_spawn 2 (.bipush 7) 2 4 := ⟨by decide +kernel, rfl⟩
theorem d_R_spawn_4 : kI m_R_spawn 4 (.istore 4) 2 6 := ⟨by decide +kernel, rfl⟩
theorem d_R_spawn_6 : kI m_R_spawn 6 (.iload 4) 2 8 := ⟨by decide +kernel, rfl⟩
theorem d_R_spawn_8 : kJ m_R_spawn 8 (.ifCond .lt 26) 26 11 34 := ⟨by decide +kernel, rfl, by decide⟩
theorem d_R_spawn_11 : kI m_R_spawn 11 (.aload_n 0) 1 12 := ⟨by decide +kernel, rfl⟩
theorem d_R_spawn_12 : kI m_R_spawn 12 (.getfield 7) 3 15 := ⟨by decide +kernel, rfl⟩
theorem d_R_spawn_15 : kI m_R_spawn 15 (.iload 4) 2 17 := ⟨by decide +kernel, rfl⟩
theorem d_R_spawn_17 : kI m_R_spawn 17 .baload 1 18 := ⟨by decide +kernel, rfl⟩
theorem d_R_spawn_18 : kJ m_R_spawn 18 (.ifCond .eq 7) 7 21 25 := ⟨by decide +kernel, rfl, by decide⟩
theorem d_R_spawn_21 : kI m_R_spawn 21 (.iload_n 3) 1 22 := ⟨by decide +kernel, rfl⟩
theorem d_R_spawn_22 : kJ m_R_spawn 22 (.goto 5) 5 25 27 := ⟨by decide +kernel, rfl, by decide⟩
theorem d_R_spawn_25 : kI m_R_spawn 25 (.iload 4) 2 27 := ⟨by decide +kernel, rfl⟩
theorem d_R_spawn_27 : kI m_R_spawn 27 (.istore_n 3) 1 28 := ⟨by decide +kernel, rfl⟩
theorem d_R_spawn_28 : kI m_R_spawn 28 (.iinc 4 (-1)) 3 31 := ⟨by decide +kernel, rfl⟩
theorem d_R_spawn_31 : kJ m_R_spawn 31 (.goto (-25)) (-25) 34 6 := ⟨by decide +kernel, rfl, by decide⟩
theorem d_R_spawn_34 : kI m_R_spawn 34 (.iload_n 1) 1 35 := ⟨by decide +kernel, rfl⟩
theorem d_R_spawn_35 : kJ m_R_spawn 35 (.ifCond .lt 25) 25 38 60 := ⟨by decide +kernel, rfl, by decide⟩
theorem d_R_spawn_38 : kI m_R_spawn 38 (.iload_n 1) 1 39 := ⟨by decide +kernel, rfl⟩
theorem d_R_spawn_39 : kI m_R_spawn 39 (.iconst 5) 1 40 := ⟨by decide +kernel, rfl⟩
theorem d_R_spawn_40 : kJ m_R_spawn 40 (.if_icmp .gt 20) 20 43 60 := ⟨by decide +kernel, rfl, by decide⟩
theorem d_R_spawn_43 : kI m_R_spawn 43 (.iload_n 2) 1 44 := ⟨by decide +kernel, rfl⟩
theorem d_R_spawn_44 : kI m_R_spawn 44 (.iconst (-1)) 1 45 := ⟨by decide +kernel, rfl⟩
theorem d_R_spawn_45 : kJ m_R_spawn 45 (.if_icmp .eq 11) 11 48 56 := ⟨by decide +kernel, rfl, by decide⟩
theorem d_R_spawn_48 : kI m_R_spawn 48 (.aload_n 0) 1 49 := ⟨by decide +kernel, rfl⟩
theorem d_R_spawn_49 : kI m_R_spawn 49 (.iload_n 2) 1 50 := ⟨by decide +kernel, rfl⟩
theorem d_R_spawn_50 : kI m_R_spawn 50 (.invokevirtual 87) 3 53 := ⟨by decide +kernel, rfl⟩
theorem d_R_spawn_53 : kJ m_R_spawn 53 (.ifCond .eq 7) 7 56 60 := ⟨by decide +kernel, rfl, by decide⟩
theorem d_R_spawn_56 : kI m_R_spawn 56 (.iload_n 3) 1 57 := ⟨by decide +kernel, rfl⟩
theorem d_R_spawn_57 : kJ m_R_spawn 57 (.ifCond .ge 5) 5 60 62 := ⟨by decide +kernel, rfl, by decide⟩
theorem d_R_spawn_60 : kI m_R_spawn 60 (.iconst (-1)) 1 61 := ⟨by decide +kernel, rfl⟩
theorem d_R_spawn_61 : kI m_R_spawn 61 .ireturn 1 62 := ⟨by decide +kernel, rfl⟩
theorem d_R_spawn_62 : kI m_R_spawn 62 (.aload_n 0) 1 63 := ⟨by decide +kernel, rfl⟩
theorem d_R_spawn_63 : kI m_R_spawn 63 (.iload_n 3) 1 64 := ⟨by decide +kernel, rfl⟩
theorem d_R_spawn_64 : kI m_R_spawn 64 (.iload_n 1) 1 65 := ⟨by decide +kernel, rfl⟩
theorem d_R_spawn_65 : kI m_R_spawn 65 (.iload_n 2) 1 66 := ⟨by decide +kernel, rfl⟩
theorem d_R_spawn_66 : kI m_R_spawn 66 (.invokevirtual 83) 3 69 := ⟨by decide +kernel, rfl⟩
theorem d_R_spawn_69 : kI m_R_spawn 69 (.iload_n 3) 1 70 := ⟨by decide +kernel, rfl⟩
theorem d_R_spawn_70 : kI m_R_spawn 70 .ireturn 1 71 := ⟨by decide +kernel, rfl⟩
theorem d_R_delete_0 : kI m_R_delete 0 (.aload_n 0) 1 1 := ⟨by decide +kernel, rfl⟩
theorem d_R_delete_1 : kI m_R_delete 1 (.iload_n 1) 1 2 := ⟨by decide +kernel, rfl⟩
theorem d_R_delete_2 : kI m_R_delete 2 (.invokevirtual 87) 3 5 := ⟨by decide +kernel, rfl⟩
theorem d_R_delete_5 : kJ m_R_delete 5 (.ifCond .eq 7) 7 8 12 := ⟨by decide +kernel, rfl, by decide⟩
theorem d_R_delete_8 : kI m_R_delete 8 (.iload_n 1) 1 9 := ⟨by decide +kernel, rfl⟩
theorem d_R_delete_9 : kJ m_R_delete 9 (.ifCond .ne 5) 5 12 14 := ⟨by decide +kernel, rfl, by decide⟩
theorem d_R_delete_12 : kI m_R_delete 12 (.iconst 0) 1 13 := ⟨by decide +kernel, rfl⟩
theorem d_R_delete_13 : kI m_R_delete 13 .ireturn 1 14 := ⟨by decide +kernel, rfl⟩
theorem d_R_delete_14 : kI m_R_delete 14 (.aload_n 0) 1 15 := ⟨by decide +kernel, rfl⟩
theorem d_R_delete_15 : kI m_R_delete 15 (.getfield 7) 3 18 := ⟨by decide +kernel, rfl⟩
theorem d_R_delete_18 : kI m_R_delete 18 (.iload_n 1) 1 19 := ⟨by decide +kernel, rfl⟩
theorem d_R_delete_19 : kI m_R_delete 19 (.iconst 0) 1 20 := ⟨by decide +kernel, rfl⟩
theorem d_R_delete_20 : kI m_R_delete 20 .bastore 1 21 := ⟨by decide +kernel, rfl⟩
theorem d_R_delete_21 : kI m_R_delete 21 (.iconst 0) 1 22 := ⟨by decide +kernel, rfl⟩
theorem d_R_delete_22 : kI m_R_delete 22 (.istore_n 2) 1 23 := ⟨by decide +kernel, rfl⟩
theorem d_R_delete_23 : kI m_R_delete 23 (.iload_n 2) 1 24 := ⟨by decide +kernel, rfl⟩
theorem d_R_delete_24 : kI m_R_delete 24 (.bipush 8) 2 26 := ⟨by decide +kernel, rfl⟩
theorem d_R_delete_26 : kJ m_R_delete 26 (.if_icmp .ge 128) 128 29 154 := ⟨by decide +kernel, rfl, by decide⟩
theorem d_R_delete_29 : kI m_R_delete 29 (.aload_n 0) 1 30 := ⟨by decide +kernel, rfl⟩
theorem d_R_delete_30 : kI m_R_delete 30 (.getfield 7) 3 33 := ⟨by decide +kernel, rfl⟩
theorem d_R_delete_33 : kI m_R_delete 33 (.iload_n 2) 1 34 := ⟨by decide +kernel, rfl⟩
theorem d_R_delete_34 : kI m_R_delete 34 .baload 1 35 := ⟨by decide +kernel, rfl⟩
theorem d_R_delete_35 : kJ m_R_delete 35 (.ifCond .eq 113) 113 38 148 := ⟨by decide +kernel, rfl, by decide⟩
theorem d_R_delete_38 : kI m_R_delete 38 (.aload_n 0) 1 39 := ⟨by decide +kernel, rfl⟩
theorem d_R_delete_39 : kI m_R_delete 39 (.getfield 47) 3 42 := ⟨by decide +kernel, rfl⟩
theorem d_R_delete_42 : kI m_R_delete 42 (.iload_n 2) 1 43 := ⟨by decide +kernel, rfl⟩
theorem d_R_delete_43 : kI m_R_delete 43 .iaload 1 44 := ⟨by decide +kernel, rfl⟩
theorem d_R_delete_44 : kI m_R_delete 44 (.iconst 1) 1 45 := ⟨by decide +kernel, rfl⟩
theorem d_R_delete_45 : kJ m_R_delete 45 (.if_icmp .eq 23) 23 48 68 := ⟨by decide +kernel, rfl, by decide⟩
theorem d_R_delete_48 : kI m_R_delete 48 (.aload_n 0) 1 49 := ⟨by decide +kernel, rfl⟩
theorem d_R_delete_49 : kI m_R_delete 49 (.getfield 47) 3 52 := ⟨by decide +kernel, rfl⟩
theorem d_R_delete_52 : kI m_R_delete 52 (.iload_n 2) 1 53 := ⟨by decide +kernel, rfl⟩
theorem d_R_delete_53 : kI m_R_delete 53 .iaload 1 54 := ⟨by decide +kernel, rfl⟩
theorem d_R_delete_54 : kI m_R_delete 54 (.iconst 3) 1 55 := ⟨by decide +kernel, rfl⟩
theorem d_R_delete_55 : kJ m_R_delete 55 (.if_icmp .eq 13) 13 58 68 := ⟨by decide +kernel, rfl, by decide⟩
theorem d_R_delete_58 : kI m_R_delete 58 (.aload_n 0) 1 59 := ⟨by decide +kernel, rfl⟩
theorem d_R_delete_59 : kI m_R_delete 59 (.getfield 47) 3 62 := ⟨by decide +kernel, rfl⟩
theorem d_R_delete_62 : kI m_R_delete 62 (.iload_n 2) 1 63 := ⟨by decide +kernel, rfl⟩
theorem d_R_delete_63 : kI m_R_delete 63 .iaload 1 64 := ⟨by decide +kernel, rfl⟩
theorem d_R_delete_64 : kI m_R_delete 64 (.iconst 2) 1 65 := ⟨by decide +kernel, rfl⟩
theorem d_R_delete_65 : kJ m_R_delete 65 (.if_icmp .ne 17) 17 68 82 := ⟨by decide +kernel, rfl, by decide⟩
theorem d_R_delete_68 : kI m_R_delete 68 (.aload_n 0) 1 69 := ⟨by decide +kernel, rfl⟩
theorem d_R_delete_69 : kI m_R_delete 69 (.getfield 50) 3 72 := ⟨by decide +kernel, rfl⟩
theorem d_R_delete_72 : kI m_R_delete 72 (.iload_n 2) 1 73 := ⟨by decide +kernel, rfl⟩
theorem d_R_delete_73 : kI m_R_delete 73 .iaload 1 74 := ⟨by decide +kernel, rfl⟩
theorem d_R_delete_74 : kI m_R_delete 74 (.iload_n 1) 1 75 := ⟨by decide +kernel, rfl⟩
theorem d_R_delete_75 : kJ m_R_delete 75 (.if_icmp .ne 7) 7 78 82 := ⟨by decide +kernel, rfl, by decide⟩
theorem d_R_delete_78 : kI m_R_delete 78 (.iconst 1) 1 79 := ⟨by decide +kernel, rfl⟩
theorem d_R_delete_79 : kJ m_R_delete 79 (.goto 4) 4 82 83 := ⟨by decide +kernel, rfl, by decide⟩
theorem d_R_delete_82 : kI m_R_delete 82 (.iconst 0) 1 83 := ⟨by decide +kernel, rfl⟩
theorem d_R_delete_83 : kI m_R_delete 83 (.istore_n 3) 1 84 := ⟨by decide +kernel, rfl⟩
theorem d_R_delete_84 : kI m_R_delete 84 (.iload_n 3) 1 85 := ⟨by decide +kernel, rfl⟩
theorem d_R_delete_85 : kJ m_R_delete 85 (.ifCond .eq 9) 9 88 94 := ⟨by decide +kernel, rfl, by decide⟩
theorem d_R_delete_88 : kI m_R_delete 88 (.aload_n 0) 1 89 := ⟨by decide +kernel, rfl⟩
theorem d_R_delete_89 : kI m_R_delete 89 (.iload_n 2) 1 90 := ⟨by decide +kernel, rfl⟩
theorem d_R_delete_90 : kI m_R_delete 90 (.iconst 2) 1 91 := ⟨by decide +kernel, rfl⟩
theorem d_R_delete_91 : kI m_R_delete 91 (.invokevirtual 98) 3 94 := ⟨by decide +kernel, rfl⟩
theorem d_R_delete_94 : kI m_R_delete 94 (.aload_n 0) 1 95 := ⟨by decide +kernel, rfl⟩
theorem d_R_delete_95 : kI m_R_delete 95 (.getfield 17) 3 98 := ⟨by decide +kernel, rfl⟩
theorem d_R_delete_98 : kI m_R_delete 98 (.iload_n 2) 1 99 := ⟨by decide +kernel, rfl⟩
theorem d_R_delete_99 : kI m_R_delete 99 .iaload 1 100 := ⟨by decide +kernel, rfl⟩
theorem d_R_delete_100 : kI m_R_delete 100 (.iload_n 1) 1 101 := ⟨by decide +kernel, rfl⟩
theorem d_R_delete_101 : kJ m_R_delete 101 (.if_icmp .ne 47) 47 104 148 := ⟨by decide +kernel, rfl, by decide⟩
theorem d_R_delete_104 : kI m_R_delete 104 (.aload_n 0) 1 105 := ⟨by decide +kernel, rfl⟩
theorem d_R_delete_105 : kI m_R_delete 105 (.getfield 17) 3 108 := ⟨by decide +kernel, rfl⟩
theorem d_R_delete_108 : kI m_R_delete 108 (.iload_n 2) 1 109 := ⟨by decide +kernel, rfl⟩
theorem d_R_delete_109 : kI m_R_delete 109 (.iconst (-1)) 1 110 := ⟨by decide +kernel, rfl⟩
theorem d_R_delete_110 : kI m_R_delete 110 .iastore 1 111 := ⟨by decide +kernel, rfl⟩
theorem d_R_delete_111 : kI m_R_delete 111 (.aload_n 0) 1 112 := ⟨by decide +kernel, rfl⟩
theorem d_R_delete_112 : kI m_R_delete 112 (.getfield 47) 3 115 := ⟨by decide +kernel, rfl⟩
theorem d_R_delete_115 : kI m_R_delete 115 (.iload_n 2) 1 116 := ⟨by decide +kernel, rfl⟩
theorem d_R_delete_116 : kI m_R_delete 116 (.aload_n 0) 1 117 := ⟨by decide +kernel, rfl⟩
theorem d_R_delete_117 : kI m_R_delete 117 (.getfield 47) 3 120 := ⟨by decide +kernel, rfl⟩
theorem d_R_delete_120 : kI m_R_delete 120 (.iload_n 2) 1 121 := ⟨by decide +kernel, rfl⟩
theorem d_R_delete_121 : kI m_R_delete 121 .iaload 1 122 := ⟨by decide +kernel, rfl⟩
theorem d_R_delete_122 : kI m_R_delete 122 (.iconst 4) 1 123 := ⟨by decide +kernel, rfl⟩
theorem d_R_delete_123 : kJ m_R_delete 123 (.if_icmp .eq 13) 13 126 136 := ⟨by decide +kernel, rfl, by decide⟩
theorem d_R_delete_126 : kI m_R_delete 126 (.aload_n 0) 1 127 := ⟨by decide +kernel, rfl⟩
theorem d_R_delete_127 : kI m_R_delete 127 (.getfield 47) 3 130 := ⟨by decide +kernel, rfl⟩
theorem d_R_delete_130 : kI m_R_delete 130 (.iload_n 2) 1 131 := ⟨by decide +kernel, rfl⟩
theorem d_R_delete_131 : kI m_R_delete 131 .iaload 1 132 := ⟨by decide +kernel, rfl⟩
theorem d_R_delete_132 : kI m_R_delete 132 (.iconst 5) 1 133 := ⟨by decide +kernel, rfl⟩
theorem d_R_delete_133 : kJ m_R_delete 133 (.if_icmp .ne 8) 8 136 141 := ⟨by decide +kernel, rfl, by decide⟩
theorem d_R_delete_136 : kI m_R_delete 136 (.bipush 6) 2 138 := ⟨by decide +kernel, rfl⟩
theorem d_R_delete_138 : kJ m_R_delete 138 (.goto 9) 9 141 147 := ⟨by decide +kernel, rfl, by decide⟩
theorem d_R_delete_141 : kI m_R_delete 141 (.aload_n 0) 1 142 := ⟨by decide +kernel, rfl⟩
theorem d_R_delete_142 : kI m_R_delete 142 (.getfield 47) 3 145 := ⟨by decide +kernel, rfl⟩
theorem d_R_delete_145 : kI m_R_delete 145 (.iload_n 2) 1 146 := ⟨by decide +kernel, rfl⟩
theorem d_R_delete_146 : kI m_R_delete 146 .iaload 1 147 := ⟨by decide +kernel, rfl⟩
theorem d_R_delete_147 : kI m_R_delete 147 .iastore 1 148 := ⟨by decide +kernel, rfl⟩
theorem d_R_delete_148 : kI m_R_delete 148 (.iinc 2 1) 3 151 := ⟨by decide +kernel, rfl⟩
theorem d_R_delete_151 : kJ m_R_delete 151 (.goto (-128)) (-128) 154 23 := ⟨by decide +kernel, rfl, by decide⟩
theorem d_R_delete_154 : kI m_R_delete 154 (.iconst 1) 1 155 := ⟨by decide +kernel, rfl⟩
theorem d_R_delete_155 : kI m_R_delete 155 .ireturn 1 156 := ⟨by decide +kernel, rfl⟩
theorem d_R_load_0 : kI m_R_load 0 (.aload_n 0) 1 1 := ⟨by decide +kernel, rfl⟩
theorem d_R_load_1 : kI m_R_load 1 (.iload_n 1) 1 2 := ⟨by decide +kernel, rfl⟩
theorem d_R_load_2 : kI m_R_load 2 (.invokevirtual 102) 3 5 := ⟨by decide +kernel, rfl⟩
theorem d_R_load_5 : kJ m_R_load 5 (.ifCond .eq 12) 12 8 17 := ⟨by decide +kernel, rfl, by decide⟩
theorem d_R_load_8 : kI m_R_load 8 (.iload_n 2) 1 9 := ⟨by decide +kernel, rfl⟩
theorem d_R_load_9 : kJ m_R_load 9 (.ifCond .lt 8) 8 12 17 := ⟨by decide +kernel, rfl, by decide⟩
theorem d_R_load_12 : kI m_R_load 12 (.iload_n 2) 1 13 := ⟨by decide +kernel, rfl⟩
theorem d_R_load_13 : kI m_R_load 13 (.iconst 3) 1 14 := ⟨by decide +kernel, rfl⟩
theorem d_R_load_14 : kJ m_R_load 14 (.if_icmp .le 5) 5 17 19 := ⟨by decide +kernel, rfl, by decide⟩
theorem d_R_load_17 : kI m_R_load 17 (.iconst 0) 1 18 := ⟨by decide +kernel, rfl⟩
theorem d_R_load_18 : kI m_R_load 18 .ireturn 1 19 := ⟨by decide +kernel, rfl⟩
theorem d_R_load_19 : kI m_R_load 19 (.aload_n 0) 1 20 := ⟨by decide +kernel, rfl⟩
theorem d_R_load_20 : kI m_R_load 20 (.getfield 20) 3 23 := ⟨by decide +kernel, rfl⟩
theorem d_R_load_23 : kI m_R_load 23 (.iconst 4) 1 24 := ⟨by decide +kernel, rfl⟩
theorem d_R_load_24 : kI m_R_load 24 (.iload_n 1) 1 25 := ⟨by decide +kernel, rfl⟩
theorem d_R_load_25 : kI m_R_load 25 .imul 1 26 := ⟨by decide +kernel, rfl⟩
theorem d_R_load_26 : kI m_R_load 26 (.iload_n 2) 1 27 := ⟨by decide +kernel, rfl⟩
theorem d_R_load_27 : kI m_R_load 27 .iadd 1 28 := ⟨by decide +kernel, rfl⟩
theorem d_R_load_28 : kI m_R_load 28 (.iload_n 3) 1 29 := ⟨by decide +kernel, rfl⟩
theorem d_R_load_29 : kI m_R_load 29 .iastore 1 30 := ⟨by decide +kernel, rfl⟩
theorem d_R_load_30 : kI m_R_load 30 (.iconst 1) 1 31 := ⟨by decide +kernel, rfl⟩
theorem d_R_load_31 : kI m_R_load 31 .ireturn 1 32 := ⟨by decide +kernel, rfl⟩
theorem d_R_offer_0 : kI m_R_offer 0 (.aload_n 0) 1 1 := ⟨by decide +kernel, rfl⟩
theorem d_R_offer_1 : kI m_R_offer 1 (.iload_n 1) 1 2 := ⟨by decide +kernel, rfl⟩
theorem d_R_offer_2 : kI m_R_offer 2 (.invokevirtual 102) 3 5 := ⟨by decide +kernel, rfl⟩
theorem d_R_offer_5 : kJ m_R_offer 5 (.ifCond .eq 28) 28 8 33 := ⟨by decide +kernel, rfl, by decide⟩
theorem d_R_offer_8 : kI m_R_offer 8 (.iload_n 2) 1 9 := ⟨by decide +kernel, rfl⟩
theorem d_R_offer_9 : kI m_R_offer 9 (.iconst (-1)) 1 10 := ⟨by decide +kernel, rfl⟩
theorem d_R_offer_10 : kJ m_R_offer 10 (.if_icmp .lt 23) 23 13 33 := ⟨by decide +kernel, rfl, by decide⟩
theorem d_R_offer_13 : kI m_R_offer 13 (.iload_n 2) 1 14 := ⟨by decide +kernel, rfl⟩
theorem d_R_offer_14 : kI m_R_offer 14 (.bipush 15) 2 16 := ⟨by decide +kernel, rfl⟩
theorem d_R_offer_16 : kJ m_R_offer 16 (.if_icmp .gt 17) 17 19 33 := ⟨by decide +kernel, rfl, by decide⟩
theorem d_R_offer_19 : kI m_R_offer 19 (.iload_n 2) 1 20 := ⟨by decide +kernel, rfl⟩
theorem d_R_offer_20 : kJ m_R_offer 20 (.ifCond .lt 15) 15 23 35 := ⟨by decide +kernel, rfl, by decide⟩
theorem d_R_offer_23 : kI m_R_offer 23 (.iload_n 3) 1 24 := ⟨by decide +kernel, rfl⟩
theorem d_R_offer_24 : kI m_R_offer 24 (.iconst 1) 1 25 := ⟨by decide +kernel, rfl⟩
theorem d_R_offer_25 : kJ m_R_offer 25 (.if_icmp .eq 10) 10 28 35 := ⟨by decide +kernel, rfl, by decide⟩
theorem d_R_offer_28 : kI m_R_offer 28 (.iload_n 3) 1 29 := ⟨by decide +kernel, rfl⟩
theorem d_R_offer_29 : kI m_R_offer 29 (.iconst 2) 1 30 := ⟨by decide +kernel, rfl⟩
theorem d_R_offer_30 : kJ m_R_offer 30 (.if_icmp .eq 5) 5 33 35 := ⟨by decide +kernel, rfl, by decide⟩
theorem d_R_offer_33 : kI m_R_offer 33 (.iconst 0) 1 34 := ⟨by decide +kernel, rfl⟩
theorem d_R_offer_34 : kI m_R_offer 34 .ireturn 1 35 := ⟨by decide +kernel, rfl⟩
theorem d_R_offer_35 : kI m_R_offer 35 (.aload_n 0) 1 36 := ⟨by decide +kernel, rfl⟩
theorem d_R_offer_36 : kI m_R_offer 36 (.getfield 23) 3 39 := ⟨by decide +kernel, rfl⟩
theorem d_R_offer_39 : kI m_R_offer 39 (.iload_n 1) 1 40 := ⟨by decide +kernel, rfl⟩
theorem d_R_offer_40 : kI m_R_offer 40 (.iload_n 2) 1 41 := ⟨by decide +kernel, rfl⟩
theorem d_R_offer_41 : kI m_R_offer 41 .iastore 1 42 := ⟨by decide +kernel, rfl⟩
theorem d_R_offer_42 : kI m_R_offer 42 (.aload_n 0) 1 43 := ⟨by decide +kernel, rfl⟩
theorem d_R_offer_43 : kI m_R_offer 43 (.getfield 26) 3 46 := ⟨by decide +kernel, rfl⟩
theorem d_R_offer_46 : kI m_R_offer 46 (.iload_n 1) 1 47 := ⟨by decide +kernel, rfl⟩
theorem d_R_offer_47 : kI m_R_offer 47 (.iload_n 3) 1 48 := ⟨by decide +kernel, rfl⟩
theorem d_R_offer_48 : kI m_R_offer 48 .iastore 1 49 := ⟨by decide +kernel, rfl⟩
theorem d_R_offer_49 : kI m_R_offer 49 (.aload_n 0) 1 50 := ⟨by decide +kernel, rfl⟩
theorem d_R_offer_50 : kI m_R_offer 50 (.getfield 29) 3 53 := ⟨by decide +kernel, rfl⟩
theorem d_R_offer_53 : kI m_R_offer 53 (.iload_n 1) 1 54 := ⟨by decide +kernel, rfl⟩
theorem d_R_offer_54 : kI m_R_offer 54 (.iload 4) 2 56 := ⟨by decide +kernel, rfl⟩
theorem d_R_offer_56 : kI m_R_offer 56 .bastore 1 57 := ⟨by decide +kernel, rfl⟩
theorem d_R_offer_57 : kI m_R_offer 57 (.iconst 1) 1 58 := ⟨by decide +kernel, rfl⟩
theorem d_R_offer_58 : kI m_R_offer 58 .ireturn 1 59 := ⟨by decide +kernel, rfl⟩
theorem d_R_window_0 : kI m_R_window 0 (.aload_n 0) 1 1 := ⟨by decide +kernel, rfl⟩
theorem d_R_window_1 : kI m_R_window 1 (.iload_n 1) 1 2 := ⟨by decide +kernel, rfl⟩
theorem d_R_window_2 : kI m_R_window 2 (.invokevirtual 102) 3 5 := ⟨by decide +kernel, rfl⟩
theorem d_R_window_5 : kJ m_R_window 5 (.ifCond .eq 14) 14 8 19 := ⟨by decide +kernel, rfl, by decide⟩
theorem d_R_window_8 : kI m_R_window 8 (.iload_n 2) 1 9 := ⟨by decide +kernel, rfl⟩
theorem d_R_window_9 : kI m_R_window 9 (.iconst (-1)) 1 10 := ⟨by decide +kernel, rfl⟩
theorem d_R_window_10 : kJ m_R_window 10 (.if_icmp .lt 9) 9 13 19 := ⟨by decide +kernel, rfl, by decide⟩
theorem d_R_window_13 : kI m_R_window 13 (.iload_n 2) 1 14 := ⟨by decide +kernel, rfl⟩
theorem d_R_window_14 : kI m_R_window 14 (.bipush 15) 2 16 := ⟨by decide +kernel, rfl⟩
theorem d_R_window_16 : kJ m_R_window 16 (.if_icmp .le 5) 5 19 21 := ⟨by decide +kernel, rfl, by decide⟩
theorem d_R_window_19 : kI m_R_window 19 (.iconst 0) 1 20 := ⟨by decide +kernel, rfl⟩
theorem d_R_window_20 : kI m_R_window 20 .ireturn 1 21 := ⟨by decide +kernel, rfl⟩
theorem d_R_window_21 : kI m_R_window 21 (.aload_n 0) 1 22 := ⟨by decide +kernel, rfl⟩
theorem d_R_window_22 : kI m_R_window 22 (.getfield 32) 3 25 := ⟨by decide +kernel, rfl⟩
theorem d_R_window_25 : kI m_R_window 25 (.iload_n 1) 1 26 := ⟨by decide +kernel, rfl⟩
theorem d_R_window_26 : kI m_R_window 26 (.iload_n 2) 1 27 := ⟨by decide +kernel, rfl⟩
theorem d_R_window_27 : kI m_R_window 27 .iastore 1 28 := ⟨by decide +kernel, rfl⟩
theorem d_R_window_28 : kI m_R_window 28 (.iconst 1) 1 29 := ⟨by decide +kernel, rfl⟩
theorem d_R_window_29 : kI m_R_window 29 .ireturn 1 30 := ⟨by decide +kernel, rfl⟩
theorem d_R_descends_0 : kI m_R_descends 0 (.iload_n 1) 1 1 := ⟨by decide +kernel, rfl⟩
theorem d_R_descends_1 : kI m_R_descends 1 (.istore_n 3) 1 2 := ⟨by decide +kernel, rfl⟩
theorem d_R_descends_2 : kI m_R_descends 2 (.aload_n 0) 1 3 := ⟨by decide +kernel, rfl⟩
theorem d_R_descends_3 : kI m_R_descends 3 (.getfield 68) 3 6 := ⟨by decide +kernel, rfl⟩
theorem d_R_descends_6 : kI m_R_descends 6 (.iload_n 1) 1 7 := ⟨by decide +kernel, rfl⟩
theorem d_R_descends_7 : kI m_R_descends 7 .iaload 1 8 := ⟨by decide +kernel, rfl⟩
theorem d_R_descends_8 : kJ m_R_descends 8 (.ifCond .ge 7) 7 11 15 := ⟨by decide +kernel, rfl, by decide⟩
theorem d_R_descends_11 : kI m_R_descends 11 (.iconst 0) 1 12 := ⟨by decide +kernel, rfl⟩
theorem d_R_descends_12 : kJ m_R_descends 12 (.goto 9) 9 15 21 := ⟨by decide +kernel, rfl, by decide⟩
theorem d_R_descends_15 : kI m_R_descends 15 (.aload_n 0) 1 16 := ⟨by decide +kernel, rfl⟩
theorem d_R_descends_16 : kI m_R_descends 16 (.getfield 74) 3 19 := ⟨by decide +kernel, rfl⟩
theorem d_R_descends_19 : kI m_R_descends 19 (.iload_n 1) 1 20 := ⟨by decide +kernel, rfl⟩
theorem d_R_descends_20 : kI m_R_descends 20 .iaload 1 21 := ⟨by decide +kernel, rfl⟩
theorem d_R_descends_21 : kI m_R_descends 21 (.istore 4) 2 23 := ⟨by decide +kernel, rfl⟩
theorem d_R_descends_23 : kI m_R_descends 23 (.iload 4) 2 25 := ⟨by decide +kernel, rfl⟩
theorem d_R_descends_25 : kJ m_R_descends 25 (.ifCond .le 23) 23 28 48 := ⟨by decide +kernel, rfl, by decide⟩
theorem d_R_descends_28 : kI m_R_descends 28 (.aload_n 0) 1 29 := ⟨by decide +kernel, rfl⟩
theorem d_R_descends_29 : kI m_R_descends 29 (.getfield 77) 3 32 := ⟨by decide +kernel, rfl⟩
theorem d_R_descends_32 : kI m_R_descends 32 (.iload_n 3) 1 33 := ⟨by decide +kernel, rfl⟩
theorem d_R_descends_33 : kI m_R_descends 33 .iaload 1 34 := ⟨by decide +kernel, rfl⟩
theorem d_R_descends_34 : kI m_R_descends 34 (.istore_n 3) 1 35 := ⟨by decide +kernel, rfl⟩
theorem d_R_descends_35 : kI m_R_descends 35 (.iload_n 3) 1 36 := ⟨by decide +kernel, rfl⟩
theorem d_R_descends_36 : kI m_R_descends 36 (.iload_n 2) 1 37 := ⟨by decide +kernel, rfl⟩
theorem d_R_descends_37 : kJ m_R_descends 37 (.if_icmp .ne 5) 5 40 42 := ⟨by decide +kernel, rfl, by decide⟩
theorem d_R_descends_40 : kI m_R_descends 40 (.iconst 1) 1 41 := ⟨by decide +kernel, rfl⟩
theorem d_R_descends_41 : kI m_R_descends 41 .ireturn 1 42 := ⟨by decide +kernel, rfl⟩
theorem d_R_descends_42 : kI m_R_descends 42 (.iinc 4 (-1)) 3 45 := ⟨by decide +kernel, rfl⟩
theorem d_R_descends_45 : kJ m_R_descends 45 (.goto (-22)) (-22) 48 23 := ⟨by decide +kernel, rfl, by decide⟩
theorem d_R_descends_48 : kI m_R_descends 48 (.iconst 0) 1 49 := ⟨by decide +kernel, rfl⟩
theorem d_R_descends_49 : kI m_R_descends 49 .ireturn 1 50 := ⟨by decide +kernel, rfl⟩
theorem d_R_descendants_0 : kI m_R_descendants 0 (.iconst 0) 1 1 := ⟨by decide +kernel, rfl⟩
theorem d_R_descendants_1 : kI m_R_descendants 1 (.istore_n 2) 1 2 := ⟨by decide +kernel, rfl⟩
theorem d_R_descendants_2 : kI m_R_descendants 2 (.iconst 0) 1 3 := ⟨by decide +kernel, rfl⟩
theorem d_R_descendants_3 : kI m_R_descendants 3 (.istore_n 3) 1 4 := ⟨by decide +kernel, rfl⟩
theorem d_R_descendants_4 : kI m_R_descendants 4 (.iload_n 3) 1 5 := ⟨by decide +kernel, rfl⟩
theorem d_R_descendants_5 : kI m_R_descendants 5 (.bipush 96) 2 7 := ⟨by decide +kernel, rfl⟩
theorem d_R_descendants_7 : kJ m_R_descendants 7 (.if_icmp .ge 26) 26 10 33 := ⟨by decide +kernel, rfl, by decide⟩
theorem d_R_descendants_10 : kI m_R_descendants 10 (.iload_n 2) 1 11 := ⟨by decide +kernel, rfl⟩
theorem d_R_descendants_11 : kI m_R_descendants 11 (.aload_n 0) 1 12 := ⟨by decide +kernel, rfl⟩
theorem d_R_descendants_12 : kI m_R_descendants 12 (.iload_n 3) 1 13 := ⟨by decide +kernel, rfl⟩
theorem d_R_descendants_13 : kI m_R_descendants 13 (.iload_n 1) 1 14 := ⟨by decide +kernel, rfl⟩
theorem d_R_descendants_14 : kI m_R_descendants 14 (.invokevirtual 105) 3 17 := ⟨by decide +kernel, rfl⟩
theorem d_R_descendants_17 : kJ m_R_descendants 17 (.ifCond .eq 7) 7 20 24 := ⟨by decide +kernel, rfl, by decide⟩
theorem d_R_descendants_20 : kI m_R_descendants 20 (.iconst 1) 1 21 := ⟨by decide +kernel, rfl⟩
theorem d_R_descendants_21 : kJ m_R_descendants 21 (.goto 4) 4 24 25 := ⟨by decide +kernel, rfl, by decide⟩
theorem d_R_descendants_24 : kI m_R_descendants 24 (.iconst 0) 1 25 := ⟨by decide +kernel, rfl⟩
theorem d_R_descendants_25 : kI m_R_descendants 25 .iadd 1 26 := ⟨by decide +kernel, rfl⟩
theorem d_R_descendants_26 : kI m_R_descendants 26 (.istore_n 2) 1 27 := ⟨by decide +kernel, rfl⟩
theorem d_R_descendants_27 : kI m_R_descendants 27 (.iinc 3 1) 3 30 := ⟨by decide +kernel, rfl⟩
theorem d_R_descendants_30 : kJ m_R_descendants 30 (.goto (-26)) (-26) 33 4 := ⟨by decide +kernel, rfl, by decide⟩
theorem d_R_descendants_33 : kI m_R_descendants 33 (.iload_n 2) 1 34 := ⟨by decide +kernel, rfl⟩
theorem d_R_descendants_34 : kI m_R_descendants 34 .ireturn 1 35 := ⟨by decide +kernel, rfl⟩
theorem d_R_removeBelow_0 : kI m_R_removeBelow 0 (.iconst 0) 1 1 := ⟨by decide +kernel, rfl⟩
theorem d_R_removeBelow_1 : kI m_R_removeBelow 1 (.istore_n 2) 1 2 := ⟨by decide +kernel, rfl⟩
theorem d_R_removeBelow_2 : kI m_R_removeBelow 2 (.bipush 12) 2 4 := ⟨by decide +kernel, rfl⟩
theorem d_R_removeBelow_4 : kI m_R_removeBelow 4 (.istore_n 3) 1 5 := ⟨by decide +kernel, rfl⟩
theorem d_R_removeBelow_5 : kI m_R_removeBelow 5 (.iload_n 3) 1 6 := ⟨by decide +kernel, rfl⟩
theorem d_R_removeBelow_6 : kJ m_R_removeBelow 6 (.ifCond .le 67) 67 9 73 := ⟨by decide +kernel, rfl, by decide⟩
theorem d_R_removeBelow_9 : kI m_R_removeBelow 9 (.iconst 0) 1 10 := ⟨by decide +kernel, rfl⟩
theorem d_R_removeBelow_10 : kI m_R_removeBelow 10 (.istore 4) 2 12 := ⟨by decide +kernel, rfl⟩
theorem d_R_removeBelow_12 : kI m_R_removeBelow 12 (.iload 4) 2 14 := ⟨by decide +kernel, rfl⟩
theorem d_R_removeBelow_14 : kI m_R_removeBelow 14 (.bipush 96) 2 16 := ⟨by decide +kernel, rfl⟩
theorem d_R_removeBelow_16 : kJ m_R_removeBelow 16 (.if_icmp .ge 51) 51 19 67 := ⟨by decide +kernel, rfl, by decide⟩
theorem d_R_removeBelow_19 : kI m_R_removeBelow 19 (.aload_n 0) 1 20 := ⟨by decide +kernel, rfl⟩
theorem d_R_removeBelow_20 : kI m_R_removeBelow 20 (.getfield 68) 3 23 := ⟨by decide +kernel, rfl⟩
theorem d_R_removeBelow_23 : kI m_R_removeBelow 23 (.iload 4) 2 25 := ⟨by decide +kernel, rfl⟩
theorem d_R_removeBelow_25 : kI m_R_removeBelow 25 .iaload 1 26 := ⟨by decide +kernel, rfl⟩
theorem d_R_removeBelow_26 : kJ m_R_removeBelow 26 (.ifCond .lt 35) 35 29 61 := ⟨by decide +kernel, rfl, by decide⟩
theorem d_R_removeBelow_29 : kI m_R_removeBelow 29 (.aload_n 0) 1 30 := ⟨by decide +kernel, rfl⟩
theorem d_R_removeBelow_30 : kI m_R_removeBelow 30 (.getfield 74) 3 33 := ⟨by decide +kernel, rfl⟩
theorem d_R_removeBelow_33 : kI m_R_removeBelow 33 (.iload 4) 2 35 := ⟨by decide +kernel, rfl⟩
theorem d_R_removeBelow_35 : kI m_R_removeBelow 35 .iaload 1 36 := ⟨by decide +kernel, rfl⟩
theorem d_R_removeBelow_36 : kI m_R_removeBelow 36 (.iload_n 3) 1 37 := ⟨by decide +kernel, rfl⟩
theorem d_R_removeBelow_37 : kJ m_R_removeBelow 37 (.if_icmp .ne 24) 24 40 61 := ⟨by decide +kernel, rfl, by decide⟩
theorem d_R_removeBelow_40 : kI m_R_removeBelow 40 (.aload_n 0) 1 41 := ⟨by decide +kernel, rfl⟩
theorem d_R_removeBelow_41 : kI m_R_removeBelow 41 (.iload 4) 2 43 := ⟨by decide +kernel, rfl⟩
theorem d_R_removeBelow_43 : kI m_R_removeBelow 43 (.iload_n 1) 1 44 := ⟨by decide +kernel, rfl⟩
theorem d_R_removeBelow_44 : kI m_R_removeBelow 44 (.invokevirtual 105) 3 47 := ⟨by decide +kernel, rfl⟩
theorem d_R_removeBelow_47 : kJ m_R_removeBelow 47 (.ifCond .eq 14) 14 50 61 := ⟨by decide +kernel, rfl, by decide⟩
theorem d_R_removeBelow_50 : kI m_R_removeBelow 50 (.aload_n 0) 1 51 := ⟨by decide +kernel, rfl⟩
theorem d_R_removeBelow_51 : kI m_R_removeBelow 51 (.getfield 68) 3 54 := ⟨by decide +kernel, rfl⟩
theorem d_R_removeBelow_54 : kI m_R_removeBelow 54 (.iload 4) 2 56 := ⟨by decide +kernel, rfl⟩
theorem d_R_removeBelow_56 : kI m_R_removeBelow 56 (.iconst (-1)) 1 57 := ⟨by decide +kernel, rfl⟩
theorem d_R_removeBelow_57 : kI m_R_removeBelow 57 .iastore 1 58 := ⟨by decide +kernel, rfl⟩
theorem d_R_removeBelow_58 : kI m_R_removeBelow 58 (.iinc 2 1) 3 61 := ⟨by decide +kernel, rfl⟩
theorem d_R_removeBelow_61 : kI m_R_removeBelow 61 (.iinc 4 1) 3 64 := ⟨by decide +kernel, rfl⟩
theorem d_R_removeBelow_64 : kJ m_R_removeBelow 64 (.goto (-52)) (-52) 67 12 := ⟨by decide +kernel, rfl, by decide⟩
theorem d_R_removeBelow_67 : kI m_R_removeBelow 67 (.iinc 3 (-1)) 3 70 := ⟨by decide +kernel, rfl⟩
theorem d_R_removeBelow_70 : kJ m_R_removeBelow 70 (.goto (-65)) (-65) 73 5 := ⟨by decide +kernel, rfl, by decide⟩
theorem d_R_removeBelow_73 : kI m_R_removeBelow 73 (.iload_n 2) 1 74 := ⟨by decide +kernel, rfl⟩
theorem d_R_removeBelow_74 : kI m_R_removeBelow 74 .ireturn 1 75 := ⟨by decide +kernel, rfl⟩
theorem d_R_handOn_0 : kI m_R_handOn 0 (.iload_n 2) 1 1 := ⟨by decide +kernel, rfl⟩
theorem d_R_handOn_1 : kI m_R_handOn 1 (.iload_n 3) 1 2 := ⟨by decide +kernel, rfl⟩
theorem d_R_handOn_2 : kJ m_R_handOn 2 (.if_icmp .eq 12) 12 5 14 := ⟨by decide +kernel, rfl, by decide⟩
theorem d_R_handOn_5 : kI m_R_handOn 5 (.aload_n 0) 1 6 := ⟨by decide +kernel, rfl⟩
theorem d_R_handOn_6 : kI m_R_handOn 6 (.getfield 68) 3 9 := ⟨by decide +kernel, rfl⟩
theorem d_R_handOn_9 : kI m_R_handOn 9 (.iload_n 2) 1 10 := ⟨by decide +kernel, rfl⟩
theorem d_R_handOn_10 : kI m_R_handOn 10 .iaload 1 11 := ⟨by decide +kernel, rfl⟩
theorem d_R_handOn_11 : kJ m_R_handOn 11 (.ifCond .ge 4) 4 14 15 := ⟨by decide +kernel, rfl, by decide⟩
theorem d_R_handOn_14 : kI m_R_handOn 14 .return_ 1 15 := ⟨by decide +kernel, rfl⟩
theorem d_R_handOn_15 : kI m_R_handOn 15 (.aload_n 0) 1 16 := ⟨by decide +kernel, rfl⟩
theorem d_R_handOn_16 : kI m_R_handOn 16 (.getfield 68) 3 19 := ⟨by decide +kernel, rfl⟩
theorem d_R_handOn_19 : kI m_R_handOn 19 (.iload_n 3) 1 20 := ⟨by decide +kernel, rfl⟩
theorem d_R_handOn_20 : kI m_R_handOn 20 .iaload 1 21 := ⟨by decide +kernel, rfl⟩
theorem d_R_handOn_21 : kJ m_R_handOn 21 (.ifCond .lt 16) 16 24 37 := ⟨by decide +kernel, rfl, by decide⟩
theorem d_R_handOn_24 : kI m_R_handOn 24 (.aload_n 0) 1 25 := ⟨by decide +kernel, rfl⟩
theorem d_R_handOn_25 : kI m_R_handOn 25 (.iload_n 3) 1 26 := ⟨by decide +kernel, rfl⟩
theorem d_R_handOn_26 : kI m_R_handOn 26 (.invokevirtual 109) 3 29 := ⟨by decide +kernel, rfl⟩
theorem d_R_handOn_29 : kI m_R_handOn 29 .pop 1 30 := ⟨by decide +kernel, rfl⟩
theorem d_R_handOn_30 : kI m_R_handOn 30 (.aload_n 0) 1 31 := ⟨by decide +kernel, rfl⟩
theorem d_R_handOn_31 : kI m_R_handOn 31 (.getfield 68) 3 34 := ⟨by decide +kernel, rfl⟩
theorem d_R_handOn_34 : kI m_R_handOn 34 (.iload_n 3) 1 35 := ⟨by decide +kernel, rfl⟩
theorem d_R_handOn_35 : kI m_R_handOn 35 (.iconst (-1)) 1 36 := ⟨by decide +kernel, rfl⟩
theorem d_R_handOn_36 : kI m_R_handOn 36 .iastore 1 37 := ⟨by decide +kernel, rfl⟩
theorem d_R_handOn_37 : kI m_R_handOn 37 (.aload_n 0) 1 38 := ⟨by decide +kernel, rfl⟩
theorem d_R_handOn_38 : kI m_R_handOn 38 (.getfield 68) 3 41 := ⟨by decide +kernel, rfl⟩
theorem d_R_handOn_41 : kI m_R_handOn 41 (.iload_n 2) 1 42 := ⟨by decide +kernel, rfl⟩
theorem d_R_handOn_42 : kI m_R_handOn 42 .iaload 1 43 := ⟨by decide +kernel, rfl⟩
theorem d_R_handOn_43 : kJ m_R_handOn 43 (.ifCond .ge 4) 4 46 47 := ⟨by decide +kernel, rfl, by decide⟩
theorem d_R_handOn_46 : kI m_R_handOn 46 .return_ 1 47 := ⟨by decide +kernel, rfl⟩
theorem d_R_handOn_47 : kI m_R_handOn 47 (.aload_n 0) 1 48 := ⟨by decide +kernel, rfl⟩
theorem d_R_handOn_48 : kI m_R_handOn 48 (.getfield 29) 3 51 := ⟨by decide +kernel, rfl⟩
theorem d_R_handOn_51 : kI m_R_handOn 51 (.iload_n 1) 1 52 := ⟨by decide +kernel, rfl⟩
theorem d_R_handOn_52 : kI m_R_handOn 52 .baload 1 53 := ⟨by decide +kernel, rfl⟩
theorem d_R_handOn_53 : kJ m_R_handOn 53 (.ifCond .eq 12) 12 56 65 := ⟨by decide +kernel, rfl, by decide⟩
theorem d_R_handOn_56 : kI m_R_handOn 56 (.aload_n 0) 1 57 := ⟨by decide +kernel, rfl⟩
theorem d_R_handOn_57 : kI m_R_handOn 57 (.iload_n 2) 1 58 := ⟨by decide +kernel, rfl⟩
theorem d_R_handOn_58 : kI m_R_handOn 58 (.iload_n 3) 1 59 := ⟨by decide +kernel, rfl⟩
theorem d_R_handOn_59 : kI m_R_handOn 59 (.invokevirtual 113) 3 62 := ⟨by decide +kernel, rfl⟩
theorem d_R_handOn_62 : kJ m_R_handOn 62 (.goto 83) 83 65 145 := ⟨by decide +kernel, rfl, by decide⟩
theorem d_R_handOn_65 : kI m_R_handOn 65 (.aload_n 0) 1 66 := ⟨by decide +kernel, rfl⟩
theorem d_R_handOn_66 : kI m_R_handOn 66 (.getfield 74) 3 69 := ⟨by decide +kernel, rfl⟩
theorem d_R_handOn_69 : kI m_R_handOn 69 (.iload_n 2) 1 70 := ⟨by decide +kernel, rfl⟩
theorem d_R_handOn_70 : kI m_R_handOn 70 .iaload 1 71 := ⟨by decide +kernel, rfl⟩
theorem d_R_handOn_71 : kI m_R_handOn 71 (.bipush 12) 2 73 := ⟨by decide +kernel, rfl⟩
theorem d_R_handOn_73 : kJ m_R_handOn 73 (.if_icmp .ge 72) 72 76 145 := ⟨by decide +kernel, rfl, by decide⟩
theorem d_R_handOn_76 : kI m_R_handOn 76 (.aload_n 0) 1 77 := ⟨by decide +kernel, rfl⟩
theorem d_R_handOn_77 : kI m_R_handOn 77 (.getfield 68) 3 80 := ⟨by decide +kernel, rfl⟩
theorem d_R_handOn_80 : kI m_R_handOn 80 (.iload_n 3) 1 81 := ⟨by decide +kernel, rfl⟩
theorem d_R_handOn_81 : kI m_R_handOn 81 (.aload_n 0) 1 82 := ⟨by decide +kernel, rfl⟩
theorem d_R_handOn_82 : kI m_R_handOn 82 (.getfield 68) 3 85 := ⟨by decide +kernel, rfl⟩
theorem d_R_handOn_85 : kI m_R_handOn 85 (.iload_n 2) 1 86 := ⟨by decide +kernel, rfl⟩
theorem d_R_handOn_86 : kI m_R_handOn 86 .iaload 1 87 := ⟨by decide +kernel, rfl⟩
theorem d_R_handOn_87 : kI m_R_handOn 87 .iastore 1 88 := ⟨by decide +kernel, rfl⟩
theorem d_R_handOn_88 : kI m_R_handOn 88 (.aload_n 0) 1 89 := ⟨by decide +kernel, rfl⟩
theorem d_R_handOn_89 : kI m_R_handOn 89 (.getfield 71) 3 92 := ⟨by decide +kernel, rfl⟩
theorem d_R_handOn_92 : kI m_R_handOn 92 (.iload_n 3) 1 93 := ⟨by decide +kernel, rfl⟩
theorem d_R_handOn_93 : kI m_R_handOn 93 (.aload_n 0) 1 94 := ⟨by decide +kernel, rfl⟩
theorem d_R_handOn_94 : kI m_R_handOn 94 (.getfield 26) 3 97 := ⟨by decide +kernel, rfl⟩
theorem d_R_handOn_97 : kI m_R_handOn 97 (.iload_n 1) 1 98 := ⟨by decide +kernel, rfl⟩
theorem d_R_handOn_98 : kI m_R_handOn 98 .iaload 1 99 := ⟨by decide +kernel, rfl⟩
theorem d_R_handOn_99 : kI m_R_handOn 99 (.aload_n 0) 1 100 := ⟨by decide +kernel, rfl⟩
theorem d_R_handOn_100 : kI m_R_handOn 100 (.getfield 71) 3 103 := ⟨by decide +kernel, rfl⟩
theorem d_R_handOn_103 : kI m_R_handOn 103 (.iload_n 2) 1 104 := ⟨by decide +kernel, rfl⟩
theorem d_R_handOn_104 : kI m_R_handOn 104 .iaload 1 105 := ⟨by decide +kernel, rfl⟩
theorem d_R_handOn_105 : kJ m_R_handOn 105 (.if_icmp .ge 12) 12 108 117 := ⟨by decide +kernel, rfl, by decide⟩
theorem d_R_handOn_108 : kI m_R_handOn 108 (.aload_n 0) 1 109 := ⟨by decide +kernel, rfl⟩
theorem d_R_handOn_109 : kI m_R_handOn 109 (.getfield 26) 3 112 := ⟨by decide +kernel, rfl⟩
theorem d_R_handOn_112 : kI m_R_handOn 112 (.iload_n 1) 1 113 := ⟨by decide +kernel, rfl⟩
theorem d_R_handOn_113 : kI m_R_handOn 113 .iaload 1 114 := ⟨by decide +kernel, rfl⟩
theorem d_R_handOn_114 : kJ m_R_handOn 114 (.goto 9) 9 117 123 := ⟨by decide +kernel, rfl, by decide⟩
theorem d_R_handOn_117 : kI m_R_handOn 117 (.aload_n 0) 1 118 := ⟨by decide +kernel, rfl⟩
theorem d_R_handOn_118 : kI m_R_handOn 118 (.getfield 71) 3 121 := ⟨by decide +kernel, rfl⟩
theorem d_R_handOn_121 : kI m_R_handOn 121 (.iload_n 2) 1 122 := ⟨by decide +kernel, rfl⟩
theorem d_R_handOn_122 : kI m_R_handOn 122 .iaload 1 123 := ⟨by decide +kernel, rfl⟩
theorem d_R_handOn_123 : kI m_R_handOn 123 .iastore 1 124 := ⟨by decide +kernel, rfl⟩
theorem d_R_handOn_124 : kI m_R_handOn 124 (.aload_n 0) 1 125 := ⟨by decide +kernel, rfl⟩
theorem d_R_handOn_125 : kI m_R_handOn 125 (.getfield 74) 3 128 := ⟨by decide +kernel, rfl⟩
theorem d_R_handOn_128 : kI m_R_handOn 128 (.iload_n 3) 1 129 := ⟨by decide +kernel, rfl⟩
theorem d_R_handOn_129 : kI m_R_handOn 129 (.aload_n 0) 1 130 := ⟨by decide +kernel, rfl⟩
theorem d_R_handOn_130 : kI m_R_handOn 130 (.getfield 74) 3 133 := ⟨by decide +kernel, rfl⟩
theorem d_R_handOn_133 : kI m_R_handOn 133 (.iload_n 2) 1 134 := ⟨by decide +kernel, rfl⟩
theorem d_R_handOn_134 : kI m_R_handOn 134 .iaload 1 135 := ⟨by decide +kernel, rfl⟩
theorem d_R_handOn_135 : kI m_R_handOn 135 (.iconst 1) 1 136 := ⟨by decide +kernel, rfl⟩
theorem d_R_handOn_136 : kI m_R_handOn 136 .iadd 1 137 := ⟨by decide +kernel, rfl⟩
theorem d_R_handOn_137 : kI m_R_handOn 137 .iastore 1 138 := ⟨by decide +kernel, rfl⟩
theorem d_R_handOn_138 : kI m_R_handOn 138 (.aload_n 0) 1 139 := ⟨by decide +kernel, rfl⟩
theorem d_R_handOn_139 : kI m_R_handOn 139 (.getfield 77) 3 142 := ⟨by decide +kernel, rfl⟩
theorem d_R_handOn_142 : kI m_R_handOn 142 (.iload_n 3) 1 143 := ⟨by decide +kernel, rfl⟩
theorem d_R_handOn_143 : kI m_R_handOn 143 (.iload_n 2) 1 144 := ⟨by decide +kernel, rfl⟩
theorem d_R_handOn_144 : kI m_R_handOn 144 .iastore 1 145 := ⟨by decide +kernel, rfl⟩
theorem d_R_handOn_145 : kI m_R_handOn 145 .return_ 1 146 := ⟨by decide +kernel, rfl⟩
theorem d_R_move_0 : kI m_R_move 0 (.aload_n 0) 1 1 := ⟨by decide +kernel, rfl⟩
theorem d_R_move_1 : kI m_R_move 1 (.getfield 68) 3 4 := ⟨by decide +kernel, rfl⟩
theorem d_R_move_4 : kI m_R_move 4 (.iload_n 2) 1 5 := ⟨by decide +kernel, rfl⟩
theorem d_R_move_5 : kI m_R_move 5 (.aload_n 0) 1 6 := ⟨by decide +kernel, rfl⟩
theorem d_R_move_6 : kI m_R_move 6 (.getfield 68) 3 9 := ⟨by decide +kernel, rfl⟩
theorem d_R_move_9 : kI m_R_move 9 (.iload_n 1) 1 10 := ⟨by decide +kernel, rfl⟩
theorem d_R_move_10 : kI m_R_move 10 .iaload 1 11 := ⟨by decide +kernel, rfl⟩
theorem d_R_move_11 : kI m_R_move 11 .iastore 1 12 := ⟨by decide +kernel, rfl⟩
theorem d_R_move_12 : kI m_R_move 12 (.aload_n 0) 1 13 := ⟨by decide +kernel, rfl⟩
theorem d_R_move_13 : kI m_R_move 13 (.getfield 71) 3 16 := ⟨by decide +kernel, rfl⟩
theorem d_R_move_16 : kI m_R_move 16 (.iload_n 2) 1 17 := ⟨by decide +kernel, rfl⟩
theorem d_R_move_17 : kI m_R_move 17 (.aload_n 0) 1 18 := ⟨by decide +kernel, rfl⟩
theorem d_R_move_18 : kI m_R_move 18 (.getfield 71) 3 21 := ⟨by decide +kernel, rfl⟩
theorem d_R_move_21 : kI m_R_move 21 (.iload_n 1) 1 22 := ⟨by decide +kernel, rfl⟩
theorem d_R_move_22 : kI m_R_move 22 .iaload 1 23 := ⟨by decide +kernel, rfl⟩
theorem d_R_move_23 : kI m_R_move 23 .iastore 1 24 := ⟨by decide +kernel, rfl⟩
theorem d_R_move_24 : kI m_R_move 24 (.aload_n 0) 1 25 := ⟨by decide +kernel, rfl⟩
theorem d_R_move_25 : kI m_R_move 25 (.getfield 74) 3 28 := ⟨by decide +kernel, rfl⟩
theorem d_R_move_28 : kI m_R_move 28 (.iload_n 2) 1 29 := ⟨by decide +kernel, rfl⟩
theorem d_R_move_29 : kI m_R_move 29 (.aload_n 0) 1 30 := ⟨by decide +kernel, rfl⟩
theorem d_R_move_30 : kI m_R_move 30 (.getfield 74) 3 33 := ⟨by decide +kernel, rfl⟩
theorem d_R_move_33 : kI m_R_move 33 (.iload_n 1) 1 34 := ⟨by decide +kernel, rfl⟩
theorem d_R_move_34 : kI m_R_move 34 .iaload 1 35 := ⟨by decide +kernel, rfl⟩
theorem d_R_move_35 : kI m_R_move 35 .iastore 1 36 := ⟨by decide +kernel, rfl⟩
theorem d_R_move_36 : kI m_R_move 36 (.aload_n 0) 1 37 := ⟨by decide +kernel, rfl⟩
theorem d_R_move_37 : kI m_R_move 37 (.getfield 77) 3 40 := ⟨by decide +kernel, rfl⟩
theorem d_R_move_40 : kI m_R_move 40 (.iload_n 2) 1 41 := ⟨by decide +kernel, rfl⟩
theorem d_R_move_41 : kI m_R_move 41 (.aload_n 0) 1 42 := ⟨by decide +kernel, rfl⟩
theorem d_R_move_42 : kI m_R_move 42 (.getfield 77) 3 45 := ⟨by decide +kernel, rfl⟩
theorem d_R_move_45 : kI m_R_move 45 (.iload_n 1) 1 46 := ⟨by decide +kernel, rfl⟩
theorem d_R_move_46 : kI m_R_move 46 .iaload 1 47 := ⟨by decide +kernel, rfl⟩
theorem d_R_move_47 : kI m_R_move 47 .iastore 1 48 := ⟨by decide +kernel, rfl⟩
theorem d_R_move_48 : kI m_R_move 48 (.aload_n 0) 1 49 := ⟨by decide +kernel, rfl⟩
theorem d_R_move_49 : kI m_R_move 49 (.getfield 68) 3 52 := ⟨by decide +kernel, rfl⟩
theorem d_R_move_52 : kI m_R_move 52 (.iload_n 1) 1 53 := ⟨by decide +kernel, rfl⟩
theorem d_R_move_53 : kI m_R_move 53 (.iconst (-1)) 1 54 := ⟨by decide +kernel, rfl⟩
theorem d_R_move_54 : kI m_R_move 54 .iastore 1 55 := ⟨by decide +kernel, rfl⟩
theorem d_R_move_55 : kI m_R_move 55 (.iconst 0) 1 56 := ⟨by decide +kernel, rfl⟩
theorem d_R_move_56 : kI m_R_move 56 (.istore_n 3) 1 57 := ⟨by decide +kernel, rfl⟩
theorem d_R_move_57 : kI m_R_move 57 (.iload_n 3) 1 58 := ⟨by decide +kernel, rfl⟩
theorem d_R_move_58 : kI m_R_move 58 (.bipush 96) 2 60 := ⟨by decide +kernel, rfl⟩
theorem d_R_move_60 : kJ m_R_move 60 (.if_icmp .ge 44) 44 63 104 := ⟨by decide +kernel, rfl, by decide⟩
theorem d_R_move_63 : kI m_R_move 63 (.aload_n 0) 1 64 := ⟨by decide +kernel, rfl⟩
theorem d_R_move_64 : kI m_R_move 64 (.getfield 68) 3 67 := ⟨by decide +kernel, rfl⟩
theorem d_R_move_67 : kI m_R_move 67 (.iload_n 3) 1 68 := ⟨by decide +kernel, rfl⟩
theorem d_R_move_68 : kI m_R_move 68 .iaload 1 69 := ⟨by decide +kernel, rfl⟩
theorem d_R_move_69 : kJ m_R_move 69 (.ifCond .lt 29) 29 72 98 := ⟨by decide +kernel, rfl, by decide⟩
theorem d_R_move_72 : kI m_R_move 72 (.aload_n 0) 1 73 := ⟨by decide +kernel, rfl⟩
theorem d_R_move_73 : kI m_R_move 73 (.getfield 74) 3 76 := ⟨by decide +kernel, rfl⟩
theorem d_R_move_76 : kI m_R_move 76 (.iload_n 3) 1 77 := ⟨by decide +kernel, rfl⟩
theorem d_R_move_77 : kI m_R_move 77 .iaload 1 78 := ⟨by decide +kernel, rfl⟩
theorem d_R_move_78 : kJ m_R_move 78 (.ifCond .le 20) 20 81 98 := ⟨by decide +kernel, rfl, by decide⟩
theorem d_R_move_81 : kI m_R_move 81 (.aload_n 0) 1 82 := ⟨by decide +kernel, rfl⟩
theorem d_R_move_82 : kI m_R_move 82 (.getfield 77) 3 85 := ⟨by decide +kernel, rfl⟩
theorem d_R_move_85 : kI m_R_move 85 (.iload_n 3) 1 86 := ⟨by decide +kernel, rfl⟩
theorem d_R_move_86 : kI m_R_move 86 .iaload 1 87 := ⟨by decide +kernel, rfl⟩
theorem d_R_move_87 : kI m_R_move 87 (.iload_n 1) 1 88 := ⟨by decide +kernel, rfl⟩
theorem d_R_move_88 : kJ m_R_move 88 (.if_icmp .ne 10) 10 91 98 := ⟨by decide +kernel, rfl, by decide⟩
theorem d_R_move_91 : kI m_R_move 91 (.aload_n 0) 1 92 := ⟨by decide +kernel, rfl⟩
theorem d_R_move_92 : kI m_R_move 92 (.getfield 77) 3 95 := ⟨by decide +kernel, rfl⟩
theorem d_R_move_95 : kI m_R_move 95 (.iload_n 3) 1 96 := ⟨by decide +kernel, rfl⟩
theorem d_R_move_96 : kI m_R_move 96 (.iload_n 2) 1 97 := ⟨by decide +kernel, rfl⟩
theorem d_R_move_97 : kI m_R_move 97 .iastore 1 98 := ⟨by decide +kernel, rfl⟩
theorem d_R_move_98 : kI m_R_move 98 (.iinc 3 1) 3 101 := ⟨by decide +kernel, rfl⟩
theorem d_R_move_101 : kJ m_R_move 101 (.goto (-44)) (-44) 104 57 := ⟨by decide +kernel, rfl, by decide⟩
theorem d_R_move_104 : kI m_R_move 104 .return_ 1 105 := ⟨by decide +kernel, rfl⟩
theorem d_R_take_0 : kI m_R_take 0 (.aload_n 0) 1 1 := ⟨by decide +kernel, rfl⟩
theorem d_R_take_1 : kI m_R_take 1 (.getfield 20) 3 4 := ⟨by decide +kernel, rfl⟩
theorem d_R_take_4 : kI m_R_take 4 (.iconst 4) 1 5 := ⟨by decide +kernel, rfl⟩
theorem d_R_take_5 : kI m_R_take 5 (.iload_n 1) 1 6 := ⟨by decide +kernel, rfl⟩
theorem d_R_take_6 : kI m_R_take 6 .imul 1 7 := ⟨by decide +kernel, rfl⟩
theorem d_R_take_7 : kI m_R_take 7 (.iload_n 3) 1 8 := ⟨by decide +kernel, rfl⟩
theorem d_R_take_8 : kI m_R_take 8 .iastore 1 9 := ⟨by decide +kernel, rfl⟩
theorem d_R_take_9 : kI m_R_take 9 (.aload_n 0) 1 10 := ⟨by decide +kernel, rfl⟩
theorem d_R_take_10 : kI m_R_take 10 (.getfield 20) 3 13 := ⟨by decide +kernel, rfl⟩
theorem d_R_take_13 : kI m_R_take 13 (.iconst 4) 1 14 := ⟨by decide +kernel, rfl⟩
theorem d_R_take_14 : kI m_R_take 14 (.iload_n 1) 1 15 := ⟨by decide +kernel, rfl⟩
theorem d_R_take_15 : kI m_R_take 15 .imul 1 16 := ⟨by decide +kernel, rfl⟩
theorem d_R_take_16 : kI m_R_take 16 (.iconst 1) 1 17 := ⟨by decide +kernel, rfl⟩
theorem d_R_take_17 : kI m_R_take 17 .iadd 1 18 := ⟨by decide +kernel, rfl⟩
theorem d_R_take_18 : kI m_R_take 18 (.iload 4) 2 20 := ⟨by decide +kernel, rfl⟩
theorem d_R_take_20 : kI m_R_take 20 .iastore 1 21 := ⟨by decide +kernel, rfl⟩
theorem d_R_take_21 : kI m_R_take 21 (.aload_n 0) 1 22 := ⟨by decide +kernel, rfl⟩
theorem d_R_take_22 : kI m_R_take 22 (.getfield 20) 3 25 := ⟨by decide +kernel, rfl⟩
theorem d_R_take_25 : kI m_R_take 25 (.iconst 4) 1 26 := ⟨by decide +kernel, rfl⟩
theorem d_R_take_26 : kI m_R_take 26 (.iload_n 1) 1 27 := ⟨by decide +kernel, rfl⟩
theorem d_R_take_27 : kI m_R_take 27 .imul 1 28 := ⟨by decide +kernel, rfl⟩
theorem d_R_take_28 : kI m_R_take 28 (.iconst 2) 1 29 := ⟨by decide +kernel, rfl⟩
theorem d_R_take_29 : kI m_R_take 29 .iadd 1 30 := ⟨by decide +kernel, rfl⟩
theorem d_R_take_30 : kI m_R_take 30 (.iload 5) 2 32 := ⟨by decide +kernel, rfl⟩
theorem d_R_take_32 : kI m_R_take 32 .iastore 1 33 := ⟨by decide +kernel, rfl⟩
theorem d_R_take_33 : kI m_R_take 33 (.aload_n 0) 1 34 := ⟨by decide +kernel, rfl⟩
theorem d_R_take_34 : kI m_R_take 34 (.getfield 20) 3 37 := ⟨by decide +kernel, rfl⟩
theorem d_R_take_37 : kI m_R_take 37 (.iconst 4) 1 38 := ⟨by decide +kernel, rfl⟩
theorem d_R_take_38 : kI m_R_take 38 (.iload_n 1) 1 39 := ⟨by decide +kernel, rfl⟩
theorem d_R_take_39 : kI m_R_take 39 .imul 1 40 := ⟨by decide +kernel, rfl⟩
theorem d_R_take_40 : kI m_R_take 40 (.iconst 3) 1 41 := ⟨by decide +kernel, rfl⟩
theorem d_R_take_41 : kI m_R_take 41 .iadd 1 42 := ⟨by decide +kernel, rfl⟩
theorem d_R_take_42 : kI m_R_take 42 (.iload 6) 2 44 := ⟨by decide +kernel, rfl⟩
theorem d_R_take_44 : kI m_R_take 44 .iastore 1 45 := ⟨by decide +kernel, rfl⟩
theorem d_R_take_45 : kI m_R_take 45 (.aload_n 0) 1 46 := ⟨by decide +kernel, rfl⟩
theorem d_R_take_46 : kI m_R_take 46 (.getfield 38) 3 49 := ⟨by decide +kernel, rfl⟩
theorem d_R_take_49 : kI m_R_take 49 (.iload_n 1) 1 50 := ⟨by decide +kernel, rfl⟩
theorem d_R_take_50 : kI m_R_take 50 (.iload_n 2) 1 51 := ⟨by decide +kernel, rfl⟩
theorem d_R_take_51 : kI m_R_take 51 .iastore 1 52 := ⟨by decide +kernel, rfl⟩
theorem d_R_take_52 : kI m_R_take 52 (.aload_n 0) 1 53 := ⟨by decide +kernel, rfl⟩
theorem d_R_take_53 : kI m_R_take 53 (.getfield 44) 3 56 := ⟨by decide +kernel, rfl⟩
theorem d_R_take_56 : kI m_R_take 56 (.iload_n 1) 1 57 := ⟨by decide +kernel, rfl⟩
theorem d_R_take_57 : kI m_R_take 57 .dup2 1 58 := ⟨by decide +kernel, rfl⟩
theorem d_R_take_58 : kI m_R_take 58 .iaload 1 59 := ⟨by decide +kernel, rfl⟩
theorem d_R_take_59 : kI m_R_take 59 (.iconst 1) 1 60 := ⟨by decide +kernel, rfl⟩
theorem d_R_take_60 : kI m_R_take 60 .iadd 1 61 := ⟨by decide +kernel, rfl⟩
theorem d_R_take_61 : kI m_R_take 61 .iastore 1 62 := ⟨by decide +kernel, rfl⟩
theorem d_R_take_62 : kI m_R_take 62 .return_ 1 63 := ⟨by decide +kernel, rfl⟩
theorem d_R_message_0 : kI m_R_message 0 (.aload_n 0) 1 1 := ⟨by decide +kernel, rfl⟩
theorem d_R_message_1 : kI m_R_message 1 (.getfield 47) 3 4 := ⟨by decide +kernel, rfl⟩
theorem d_R_message_4 : kI m_R_message 4 (.iload_n 2) 1 5 := ⟨by decide +kernel, rfl⟩
theorem d_R_message_5 : kI m_R_message 5 .iaload 1 6 := ⟨by decide +kernel, rfl⟩
theorem d_R_message_6 : kI m_R_message 6 (.iconst 5) 1 7 := ⟨by decide +kernel, rfl⟩
theorem d_R_message_7 : kJ m_R_message 7 (.if_icmp .ne 7) 7 10 14 := ⟨by decide +kernel, rfl, by decide⟩
theorem d_R_message_10 : kI m_R_message 10 (.iconst 1) 1 11 := ⟨by decide +kernel, rfl⟩
theorem d_R_message_11 : kJ m_R_message 11 (.goto 4) 4 14 15 := ⟨by decide +kernel, rfl, by decide⟩
theorem d_R_message_14 : kI m_R_message 14 (.iconst 0) 1 15 := ⟨by decide +kernel, rfl⟩
theorem d_R_message_15 : kI m_R_message 15 (.istore 4) 2 17 := ⟨by decide +kernel, rfl⟩
theorem d_R_message_17 : kI m_R_message 17 (.iload 4) 2 19 := ⟨by decide +kernel, rfl⟩
theorem d_R_message_19 : kJ m_R_message 19 (.ifCond .ne 47) 47 22 66 := ⟨by decide +kernel, rfl, by decide⟩
theorem d_R_message_22 : kI m_R_message 22 (.aload_n 0) 1 23 := ⟨by decide +kernel, rfl⟩
theorem d_R_message_23 : kI m_R_message 23 (.iload_n 2) 1 24 := ⟨by decide +kernel, rfl⟩
theorem d_R_message_24 : kI m_R_message 24 (.iload_n 1) 1 25 := ⟨by decide +kernel, rfl⟩
theorem d_R_message_25 : kI m_R_message 25 (.aload_n 0) 1 26 := ⟨by decide +kernel, rfl⟩
theorem d_R_message_26 : kI m_R_message 26 (.getfield 20) 3 29 := ⟨by decide +kernel, rfl⟩
theorem d_R_message_29 : kI m_R_message 29 (.iconst 4) 1 30 := ⟨by decide +kernel, rfl⟩
theorem d_R_message_30 : kI m_R_message 30 (.iload_n 1) 1 31 := ⟨by decide +kernel, rfl⟩
theorem d_R_message_31 : kI m_R_message 31 .imul 1 32 := ⟨by decide +kernel, rfl⟩
theorem d_R_message_32 : kI m_R_message 32 .iaload 1 33 := ⟨by decide +kernel, rfl⟩
theorem d_R_message_33 : kI m_R_message 33 (.aload_n 0) 1 34 := ⟨by decide +kernel, rfl⟩
theorem d_R_message_34 : kI m_R_message 34 (.getfield 20) 3 37 := ⟨by decide +kernel, rfl⟩
theorem d_R_message_37 : kI m_R_message 37 (.iconst 4) 1 38 := ⟨by decide +kernel, rfl⟩
theorem d_R_message_38 : kI m_R_message 38 (.iload_n 1) 1 39 := ⟨by decide +kernel, rfl⟩
theorem d_R_message_39 : kI m_R_message 39 .imul 1 40 := ⟨by decide +kernel, rfl⟩
theorem d_R_message_40 : kI m_R_message 40 (.iconst 1) 1 41 := ⟨by decide +kernel, rfl⟩
theorem d_R_message_41 : kI m_R_message 41 .iadd 1 42 := ⟨by decide +kernel, rfl⟩
theorem d_R_message_42 : kI m_R_message 42 .iaload 1 43 := ⟨by decide +kernel, rfl⟩
theorem d_R_message_43 : kI m_R_message 43 (.aload_n 0) 1 44 := ⟨by decide +kernel, rfl⟩
theorem d_R_message_44 : kI m_R_message 44 (.getfield 20) 3 47 := ⟨by decide +kernel, rfl⟩
theorem d_R_message_47 : kI m_R_message 47 (.iconst 4) 1 48 := ⟨by decide +kernel, rfl⟩
theorem d_R_message_48 : kI m_R_message 48 (.iload_n 1) 1 49 := ⟨by decide +kernel, rfl⟩
theorem d_R_message_49 : kI m_R_message 49 .imul 1 50 := ⟨by decide +kernel, rfl⟩
theorem d_R_message_50 : kI m_R_message 50 (.iconst 2) 1 51 := ⟨by decide +kernel, rfl⟩
theorem d_R_message_51 : kI m_R_message 51 .iadd 1 52 := ⟨by decide +kernel, rfl⟩
theorem d_R_message_52 : kI m_R_message 52 .iaload 1 53 := ⟨by decide +kernel, rfl⟩
theorem d_R_message_53 : kI m_R_message 53 (.aload_n 0) 1 54 := ⟨by decide +kernel, rfl⟩
theorem d_R_message_54 : kI m_R_message 54 (.getfield 20) 3 57 := ⟨by decide +kernel, rfl⟩
theorem d_R_message_57 : kI m_R_message 57 (.iconst 4) 1 58 := ⟨by decide +kernel, rfl⟩
theorem d_R_message_58 : kI m_R_message 58 (.iload_n 1) 1 59 := ⟨by decide +kernel, rfl⟩
theorem d_R_message_59 : kI m_R_message 59 .imul 1 60 := ⟨by decide +kernel, rfl⟩
theorem d_R_message_60 : kI m_R_message 60 (.iconst 3) 1 61 := ⟨by decide +kernel, rfl⟩
theorem d_R_message_61 : kI m_R_message 61 .iadd 1 62 := ⟨by decide +kernel, rfl⟩
theorem d_R_message_62 : kI m_R_message 62 .iaload 1 63 := ⟨by decide +kernel, rfl⟩
theorem d_R_message_63 : kI m_R_message 63 (.invokevirtual 116) 3 66 := ⟨by decide +kernel, rfl⟩
theorem d_R_message_66 : kI m_R_message 66 (.iload 4) 2 68 := ⟨by decide +kernel, rfl⟩
theorem d_R_message_68 : kJ m_R_message 68 (.ifCond .eq 12) 12 71 80 := ⟨by decide +kernel, rfl, by decide⟩
theorem d_R_message_71 : kI m_R_message 71 (.aload_n 0) 1 72 := ⟨by decide +kernel, rfl⟩
theorem d_R_message_72 : kI m_R_message 72 (.getfield 59) 3 75 := ⟨by decide +kernel, rfl⟩
theorem d_R_message_75 : kI m_R_message 75 (.iload_n 2) 1 76 := ⟨by decide +kernel, rfl⟩
theorem d_R_message_76 : kI m_R_message 76 .iaload 1 77 := ⟨by decide +kernel, rfl⟩
theorem d_R_message_77 : kJ m_R_message 77 (.goto 9) 9 80 86 := ⟨by decide +kernel, rfl, by decide⟩
theorem d_R_message_80 : kI m_R_message 80 (.aload_n 0) 1 81 := ⟨by decide +kernel, rfl⟩
theorem d_R_message_81 : kI m_R_message 81 (.getfield 32) 3 84 := ⟨by decide +kernel, rfl⟩
theorem d_R_message_84 : kI m_R_message 84 (.iload_n 2) 1 85 := ⟨by decide +kernel, rfl⟩
theorem d_R_message_85 : kI m_R_message 85 .iaload 1 86 := ⟨by decide +kernel, rfl⟩
theorem d_R_message_86 : kI m_R_message 86 (.istore 5) 2 88 := ⟨by decide +kernel, rfl⟩
theorem d_R_message_88 : kI m_R_message 88 (.aload_n 0) 1 89 := ⟨by decide +kernel, rfl⟩
theorem d_R_message_89 : kI m_R_message 89 (.getfield 23) 3 92 := ⟨by decide +kernel, rfl⟩
theorem d_R_message_92 : kI m_R_message 92 (.iload_n 1) 1 93 := ⟨by decide +kernel, rfl⟩
theorem d_R_message_93 : kI m_R_message 93 .iaload 1 94 := ⟨by decide +kernel, rfl⟩
theorem d_R_message_94 : kJ m_R_message 94 (.ifCond .lt 41) 41 97 135 := ⟨by decide +kernel, rfl, by decide⟩
theorem d_R_message_97 : kI m_R_message 97 (.iload 5) 2 99 := ⟨by decide +kernel, rfl⟩
theorem d_R_message_99 : kJ m_R_message 99 (.ifCond .lt 36) 36 102 135 := ⟨by decide +kernel, rfl, by decide⟩
theorem d_R_message_102 : kI m_R_message 102 (.aload_n 0) 1 103 := ⟨by decide +kernel, rfl⟩
theorem d_R_message_103 : kI m_R_message 103 (.iload_n 1) 1 104 := ⟨by decide +kernel, rfl⟩
theorem d_R_message_104 : kI m_R_message 104 (.bipush 16) 2 106 := ⟨by decide +kernel, rfl⟩
theorem d_R_message_106 : kI m_R_message 106 (.aload_n 0) 1 107 := ⟨by decide +kernel, rfl⟩
theorem d_R_message_107 : kI m_R_message 107 (.getfield 13) 3 110 := ⟨by decide +kernel, rfl⟩
theorem d_R_message_110 : kI m_R_message 110 (.iload_n 1) 1 111 := ⟨by decide +kernel, rfl⟩
theorem d_R_message_111 : kI m_R_message 111 .iaload 1 112 := ⟨by decide +kernel, rfl⟩
theorem d_R_message_112 : kI m_R_message 112 .imul 1 113 := ⟨by decide +kernel, rfl⟩
theorem d_R_message_113 : kI m_R_message 113 (.aload_n 0) 1 114 := ⟨by decide +kernel, rfl⟩
theorem d_R_message_114 : kI m_R_message 114 (.getfield 23) 3 117 := ⟨by decide +kernel, rfl⟩
theorem d_R_message_117 : kI m_R_message 117 (.iload_n 1) 1 118 := ⟨by decide +kernel, rfl⟩
theorem d_R_message_118 : kI m_R_message 118 .iaload 1 119 := ⟨by decide +kernel, rfl⟩
theorem d_R_message_119 : kI m_R_message 119 .iadd 1 120 := ⟨by decide +kernel, rfl⟩
theorem d_R_message_120 : kI m_R_message 120 (.bipush 16) 2 122 := ⟨by decide +kernel, rfl⟩
theorem d_R_message_122 : kI m_R_message 122 (.aload_n 0) 1 123 := ⟨by decide +kernel, rfl⟩
theorem d_R_message_123 : kI m_R_message 123 (.getfield 13) 3 126 := ⟨by decide +kernel, rfl⟩
theorem d_R_message_126 : kI m_R_message 126 (.iload_n 2) 1 127 := ⟨by decide +kernel, rfl⟩
theorem d_R_message_127 : kI m_R_message 127 .iaload 1 128 := ⟨by decide +kernel, rfl⟩
theorem d_R_message_128 : kI m_R_message 128 .imul 1 129 := ⟨by decide +kernel, rfl⟩
theorem d_R_message_129 : kI m_R_message 129 (.iload 5) 2 131 := ⟨by decide +kernel, rfl⟩
theorem d_R_message_131 : kI m_R_message 131 .iadd 1 132 := ⟨by decide +kernel, rfl⟩
theorem d_R_message_132 : kI m_R_message 132 (.invokevirtual 120) 3 135 := ⟨by decide +kernel, rfl⟩
theorem d_R_message_135 : kI m_R_message 135 (.aload_n 0) 1 136 := ⟨by decide +kernel, rfl⟩
theorem d_R_message_136 : kI m_R_message 136 (.getfield 23) 3 139 := ⟨by decide +kernel, rfl⟩
theorem d_R_message_139 : kI m_R_message 139 (.iload_n 1) 1 140 := ⟨by decide +kernel, rfl⟩
theorem d_R_message_140 : kI m_R_message 140 (.iconst (-1)) 1 141 := ⟨by decide +kernel, rfl⟩
theorem d_R_message_141 : kI m_R_message 141 .iastore 1 142 := ⟨by decide +kernel, rfl⟩
theorem d_R_message_142 : kI m_R_message 142 (.iload_n 3) 1 143 := ⟨by decide +kernel, rfl⟩
theorem d_R_message_143 : kJ m_R_message 143 (.ifCond .eq 14) 14 146 157 := ⟨by decide +kernel, rfl, by decide⟩
theorem d_R_message_146 : kI m_R_message 146 (.aload_n 0) 1 147 := ⟨by decide +kernel, rfl⟩
theorem d_R_message_147 : kI m_R_message 147 (.iload_n 1) 1 148 := ⟨by decide +kernel, rfl⟩
theorem d_R_message_148 : kI m_R_message 148 (.iconst 2) 1 149 := ⟨by decide +kernel, rfl⟩
theorem d_R_message_149 : kI m_R_message 149 (.iload_n 2) 1 150 := ⟨by decide +kernel, rfl⟩
theorem d_R_message_150 : kI m_R_message 150 (.iconst (-1)) 1 151 := ⟨by decide +kernel, rfl⟩
theorem d_R_message_151 : kI m_R_message 151 (.invokevirtual 123) 3 154 := ⟨by decide +kernel, rfl⟩
theorem d_R_message_154 : kJ m_R_message 154 (.goto 9) 9 157 163 := ⟨by decide +kernel, rfl, by decide⟩
theorem d_R_message_157 : kI m_R_message 157 (.aload_n 0) 1 158 := ⟨by decide +kernel, rfl⟩
theorem d_R_message_158 : kI m_R_message 158 (.iload_n 1) 1 159 := ⟨by decide +kernel, rfl⟩
theorem d_R_message_159 : kI m_R_message 159 (.iconst 0) 1 160 := ⟨by decide +kernel, rfl⟩
theorem d_R_message_160 : kI m_R_message 160 (.invokevirtual 98) 3 163 := ⟨by decide +kernel, rfl⟩
theorem d_R_message_163 : kI m_R_message 163 (.iload 4) 2 165 := ⟨by decide +kernel, rfl⟩
theorem d_R_message_165 : kJ m_R_message 165 (.ifCond .eq 11) 11 168 176 := ⟨by decide +kernel, rfl, by decide⟩
theorem d_R_message_168 : kI m_R_message 168 (.aload_n 0) 1 169 := ⟨by decide +kernel, rfl⟩
theorem d_R_message_169 : kI m_R_message 169 (.iload_n 2) 1 170 := ⟨by decide +kernel, rfl⟩
theorem d_R_message_170 : kI m_R_message 170 (.invokevirtual 127) 3 173 := ⟨by decide +kernel, rfl⟩
theorem d_R_message_173 : kJ m_R_message 173 (.goto 9) 9 176 182 := ⟨by decide +kernel, rfl, by decide⟩
theorem d_R_message_176 : kI m_R_message 176 (.aload_n 0) 1 177 := ⟨by decide +kernel, rfl⟩
theorem d_R_message_177 : kI m_R_message 177 (.iload_n 2) 1 178 := ⟨by decide +kernel, rfl⟩
theorem d_R_message_178 : kI m_R_message 178 (.iconst 0) 1 179 := ⟨by decide +kernel, rfl⟩
theorem d_R_message_179 : kI m_R_message 179 (.invokevirtual 98) 3 182 := ⟨by decide +kernel, rfl⟩
theorem d_R_message_182 : kI m_R_message 182 .return_ 1 183 := ⟨by decide +kernel, rfl⟩
theorem d_R_report_0 : kI m_R_report 0 (.aload_n 0) 1 1 := ⟨by decide +kernel, rfl⟩
theorem d_R_report_1 : kI m_R_report 1 (.getfield 17) 3 4 := ⟨by decide +kernel, rfl⟩
theorem d_R_report_4 : kI m_R_report 4 (.iload_n 1) 1 5 := ⟨by decide +kernel, rfl⟩
theorem d_R_report_5 : kI m_R_report 5 .iaload 1 6 := ⟨by decide +kernel, rfl⟩
theorem d_R_report_6 : kI m_R_report 6 (.istore_n 2) 1 7 := ⟨by decide +kernel, rfl⟩
theorem d_R_report_7 : kI m_R_report 7 (.aload_n 0) 1 8 := ⟨by decide +kernel, rfl⟩
theorem d_R_report_8 : kI m_R_report 8 (.iload_n 2) 1 9 := ⟨by decide +kernel, rfl⟩
theorem d_R_report_9 : kI m_R_report 9 (.iload_n 1) 1 10 := ⟨by decide +kernel, rfl⟩
theorem d_R_report_10 : kI m_R_report 10 (.aload_n 0) 1 11 := ⟨by decide +kernel, rfl⟩
theorem d_R_report_11 : kI m_R_report 11 (.getfield 59) 3 14 := ⟨by decide +kernel, rfl⟩
theorem d_R_report_14 : kI m_R_report 14 (.iload_n 1) 1 15 := ⟨by decide +kernel, rfl⟩
theorem d_R_report_15 : kI m_R_report 15 .iaload 1 16 := ⟨by decide +kernel, rfl⟩
theorem d_R_report_16 : kI m_R_report 16 (.aload_n 0) 1 17 := ⟨by decide +kernel, rfl⟩
theorem d_R_report_17 : kI m_R_report 17 (.getfield 62) 3 20 := ⟨by decide +kernel, rfl⟩
theorem d_R_report_20 : kI m_R_report 20 (.iload_n 1) 1 21 := ⟨by decide +kernel, rfl⟩
theorem d_R_report_21 : kI m_R_report 21 .baload 1 22 := ⟨by decide +kernel, rfl⟩
theorem d_R_report_22 : kJ m_R_report 22 (.ifCond .eq 7) 7 25 29 := ⟨by decide +kernel, rfl, by decide⟩
theorem d_R_report_25 : kI m_R_report 25 (.iconst 2) 1 26 := ⟨by decide +kernel, rfl⟩
theorem d_R_report_26 : kJ m_R_report 26 (.goto 4) 4 29 30 := ⟨by decide +kernel, rfl, by decide⟩
theorem d_R_report_29 : kI m_R_report 29 (.iconst 1) 1 30 := ⟨by decide +kernel, rfl⟩
theorem d_R_report_30 : kI m_R_report 30 (.iconst 0) 1 31 := ⟨by decide +kernel, rfl⟩
theorem d_R_report_31 : kI m_R_report 31 (.iconst 0) 1 32 := ⟨by decide +kernel, rfl⟩
theorem d_R_report_32 : kI m_R_report 32 (.invokevirtual 116) 3 35 := ⟨by decide +kernel, rfl⟩
theorem d_R_report_35 : kI m_R_report 35 (.aload_n 0) 1 36 := ⟨by decide +kernel, rfl⟩
theorem d_R_report_36 : kI m_R_report 36 (.getfield 47) 3 39 := ⟨by decide +kernel, rfl⟩
theorem d_R_report_39 : kI m_R_report 39 (.iload_n 1) 1 40 := ⟨by decide +kernel, rfl⟩
theorem d_R_report_40 : kI m_R_report 40 (.iconst 5) 1 41 := ⟨by decide +kernel, rfl⟩
theorem d_R_report_41 : kI m_R_report 41 .iastore 1 42 := ⟨by decide +kernel, rfl⟩
theorem d_R_report_42 : kI m_R_report 42 (.aload_n 0) 1 43 := ⟨by decide +kernel, rfl⟩
theorem d_R_report_43 : kI m_R_report 43 (.getfield 50) 3 46 := ⟨by decide +kernel, rfl⟩
theorem d_R_report_46 : kI m_R_report 46 (.iload_n 1) 1 47 := ⟨by decide +kernel, rfl⟩
theorem d_R_report_47 : kI m_R_report 47 (.iload_n 2) 1 48 := ⟨by decide +kernel, rfl⟩
theorem d_R_report_48 : kI m_R_report 48 .iastore 1 49 := ⟨by decide +kernel, rfl⟩
theorem d_R_report_49 : kI m_R_report 49 (.aload_n 0) 1 50 := ⟨by decide +kernel, rfl⟩
theorem d_R_report_50 : kI m_R_report 50 (.iload_n 2) 1 51 := ⟨by decide +kernel, rfl⟩
theorem d_R_report_51 : kI m_R_report 51 (.iconst 0) 1 52 := ⟨by decide +kernel, rfl⟩
theorem d_R_report_52 : kI m_R_report 52 (.invokevirtual 98) 3 55 := ⟨by decide +kernel, rfl⟩
theorem d_R_report_55 : kI m_R_report 55 .return_ 1 56 := ⟨by decide +kernel, rfl⟩
theorem d_R_attempt_0 : kI m_R_attempt 0 (.bipush 16) 2 2 := ⟨by decide +kernel, rfl⟩
theorem d_R_attempt_2 : kI m_R_attempt 2 (.aload_n 0) 1 3 := ⟨by decide +kernel, rfl⟩
theorem d_R_attempt_3 : kI m_R_attempt 3 (.getfield 13) 3 6 := ⟨by decide +kernel, rfl⟩
theorem d_R_attempt_6 : kI m_R_attempt 6 (.iload_n 1) 1 7 := ⟨by decide +kernel, rfl⟩
theorem d_R_attempt_7 : kI m_R_attempt 7 .iaload 1 8 := ⟨by decide +kernel, rfl⟩
theorem d_R_attempt_8 : kI m_R_attempt 8 .imul 1 9 := ⟨by decide +kernel, rfl⟩
theorem d_R_attempt_9 : kI m_R_attempt 9 (.aload_n 0) 1 10 := ⟨by decide +kernel, rfl⟩
theorem d_R_attempt_10 : kI m_R_attempt 10 (.getfield 59) 3 13 := ⟨by decide +kernel, rfl⟩
theorem d_R_attempt_13 : kI m_R_attempt 13 (.iload_n 1) 1 14 := ⟨by decide +kernel, rfl⟩
theorem d_R_attempt_14 : kI m_R_attempt 14 .iaload 1 15 := ⟨by decide +kernel, rfl⟩
theorem d_R_attempt_15 : kI m_R_attempt 15 .iadd 1 16 := ⟨by decide +kernel, rfl⟩
theorem d_R_attempt_16 : kI m_R_attempt 16 (.istore_n 2) 1 17 := ⟨by decide +kernel, rfl⟩
theorem d_R_attempt_17 : kI m_R_attempt 17 (.aload_n 0) 1 18 := ⟨by decide +kernel, rfl⟩
theorem d_R_attempt_18 : kI m_R_attempt 18 (.getfield 68) 3 21 := ⟨by decide +kernel, rfl⟩
theorem d_R_attempt_21 : kI m_R_attempt 21 (.iload_n 2) 1 22 := ⟨by decide +kernel, rfl⟩
theorem d_R_attempt_22 : kI m_R_attempt 22 .iaload 1 23 := ⟨by decide +kernel, rfl⟩
theorem d_R_attempt_23 : kJ m_R_attempt 23 (.ifCond .lt 81) 81 26 104 := ⟨by decide +kernel, rfl, by decide⟩
theorem d_R_attempt_26 : kI m_R_attempt 26 (.aload_n 0) 1 27 := ⟨by decide +kernel, rfl⟩
theorem d_R_attempt_27 : kI m_R_attempt 27 (.getfield 71) 3 30 := ⟨by decide +kernel, rfl⟩
theorem d_R_attempt_30 : kI m_R_attempt 30 (.iload_n 2) 1 31 := ⟨by decide +kernel, rfl⟩
theorem d_R_attempt_31 : kI m_R_attempt 31 .iaload 1 32 := ⟨by decide +kernel, rfl⟩
theorem d_R_attempt_32 : kI m_R_attempt 32 (.aload_n 0) 1 33 := ⟨by decide +kernel, rfl⟩
theorem d_R_attempt_33 : kI m_R_attempt 33 (.getfield 62) 3 36 := ⟨by decide +kernel, rfl⟩
theorem d_R_attempt_36 : kI m_R_attempt 36 (.iload_n 1) 1 37 := ⟨by decide +kernel, rfl⟩
theorem d_R_attempt_37 : kI m_R_attempt 37 .baload 1 38 := ⟨by decide +kernel, rfl⟩
theorem d_R_attempt_38 : kJ m_R_attempt 38 (.ifCond .eq 7) 7 41 45 := ⟨by decide +kernel, rfl, by decide⟩
theorem d_R_attempt_41 : kI m_R_attempt 41 (.iconst 2) 1 42 := ⟨by decide +kernel, rfl⟩
theorem d_R_attempt_42 : kJ m_R_attempt 42 (.goto 4) 4 45 46 := ⟨by decide +kernel, rfl, by decide⟩
theorem d_R_attempt_45 : kI m_R_attempt 45 (.iconst 1) 1 46 := ⟨by decide +kernel, rfl⟩
theorem d_R_attempt_46 : kJ m_R_attempt 46 (.if_icmp .lt 58) 58 49 104 := ⟨by decide +kernel, rfl, by decide⟩
theorem d_R_attempt_49 : kI m_R_attempt 49 (.aload_n 0) 1 50 := ⟨by decide +kernel, rfl⟩
theorem d_R_attempt_50 : kI m_R_attempt 50 (.getfield 62) 3 53 := ⟨by decide +kernel, rfl⟩
theorem d_R_attempt_53 : kI m_R_attempt 53 (.iload_n 1) 1 54 := ⟨by decide +kernel, rfl⟩
theorem d_R_attempt_54 : kI m_R_attempt 54 .baload 1 55 := ⟨by decide +kernel, rfl⟩
theorem d_R_attempt_55 : kJ m_R_attempt 55 (.ifCond .eq 23) 23 58 78 := ⟨by decide +kernel, rfl, by decide⟩
theorem d_R_attempt_58 : kI m_R_attempt 58 (.aload_n 0) 1 59 := ⟨by decide +kernel, rfl⟩
theorem d_R_attempt_59 : kI m_R_attempt 59 (.getfield 80) 3 62 := ⟨by decide +kernel, rfl⟩
theorem d_R_attempt_62 : kI m_R_attempt 62 (.aload_n 0) 1 63 := ⟨by decide +kernel, rfl⟩
theorem d_R_attempt_63 : kI m_R_attempt 63 (.getfield 68) 3 66 := ⟨by decide +kernel, rfl⟩
theorem d_R_attempt_66 : kI m_R_attempt 66 (.iload_n 2) 1 67 := ⟨by decide +kernel, rfl⟩
theorem d_R_attempt_67 : kI m_R_attempt 67 .iaload 1 68 := ⟨by decide +kernel, rfl⟩
theorem d_R_attempt_68 : kI m_R_attempt 68 (.aload_n 0) 1 69 := ⟨by decide +kernel, rfl⟩
theorem d_R_attempt_69 : kI m_R_attempt 69 (.getfield 65) 3 72 := ⟨by decide +kernel, rfl⟩
theorem d_R_attempt_72 : kI m_R_attempt 72 (.iload_n 1) 1 73 := ⟨by decide +kernel, rfl⟩
theorem d_R_attempt_73 : kI m_R_attempt 73 .iaload 1 74 := ⟨by decide +kernel, rfl⟩
theorem d_R_attempt_74 : kI m_R_attempt 74 .iastore 1 75 := ⟨by decide +kernel, rfl⟩
theorem d_R_attempt_75 : kJ m_R_attempt 75 (.goto 20) 20 78 95 := ⟨by decide +kernel, rfl, by decide⟩
theorem d_R_attempt_78 : kI m_R_attempt 78 (.aload_n 0) 1 79 := ⟨by decide +kernel, rfl⟩
theorem d_R_attempt_79 : kI m_R_attempt 79 (.getfield 41) 3 82 := ⟨by decide +kernel, rfl⟩
theorem d_R_attempt_82 : kI m_R_attempt 82 (.iload_n 1) 1 83 := ⟨by decide +kernel, rfl⟩
theorem d_R_attempt_83 : kI m_R_attempt 83 (.aload_n 0) 1 84 := ⟨by decide +kernel, rfl⟩
theorem d_R_attempt_84 : kI m_R_attempt 84 (.getfield 80) 3 87 := ⟨by decide +kernel, rfl⟩
theorem d_R_attempt_87 : kI m_R_attempt 87 (.aload_n 0) 1 88 := ⟨by decide +kernel, rfl⟩
theorem d_R_attempt_88 : kI m_R_attempt 88 (.getfield 68) 3 91 := ⟨by decide +kernel, rfl⟩
theorem d_R_attempt_91 : kI m_R_attempt 91 (.iload_n 2) 1 92 := ⟨by decide +kernel, rfl⟩
theorem d_R_attempt_92 : kI m_R_attempt 92 .iaload 1 93 := ⟨by decide +kernel, rfl⟩
theorem d_R_attempt_93 : kI m_R_attempt 93 .iaload 1 94 := ⟨by decide +kernel, rfl⟩
theorem d_R_attempt_94 : kI m_R_attempt 94 .iastore 1 95 := ⟨by decide +kernel, rfl⟩
theorem d_R_attempt_95 : kI m_R_attempt 95 (.aload_n 0) 1 96 := ⟨by decide +kernel, rfl⟩
theorem d_R_attempt_96 : kI m_R_attempt 96 (.iload_n 1) 1 97 := ⟨by decide +kernel, rfl⟩
theorem d_R_attempt_97 : kI m_R_attempt 97 (.iconst 0) 1 98 := ⟨by decide +kernel, rfl⟩
theorem d_R_attempt_98 : kI m_R_attempt 98 (.invokevirtual 98) 3 101 := ⟨by decide +kernel, rfl⟩
theorem d_R_attempt_101 : kJ m_R_attempt 101 (.goto 72) 72 104 173 := ⟨by decide +kernel, rfl, by decide⟩
theorem d_R_attempt_104 : kI m_R_attempt 104 (.aload_n 0) 1 105 := ⟨by decide +kernel, rfl⟩
theorem d_R_attempt_105 : kI m_R_attempt 105 (.getfield 17) 3 108 := ⟨by decide +kernel, rfl⟩
theorem d_R_attempt_108 : kI m_R_attempt 108 (.iload_n 1) 1 109 := ⟨by decide +kernel, rfl⟩
theorem d_R_attempt_109 : kI m_R_attempt 109 .iaload 1 110 := ⟨by decide +kernel, rfl⟩
theorem d_R_attempt_110 : kJ m_R_attempt 110 (.ifCond .ge 14) 14 113 124 := ⟨by decide +kernel, rfl, by decide⟩
theorem d_R_attempt_113 : kI m_R_attempt 113 (.aload_n 0) 1 114 := ⟨by decide +kernel, rfl⟩
theorem d_R_attempt_114 : kI m_R_attempt 114 (.getfield 47) 3 117 := ⟨by decide +kernel, rfl⟩
theorem d_R_attempt_117 : kI m_R_attempt 117 (.iload_n 1) 1 118 := ⟨by decide +kernel, rfl⟩
theorem d_R_attempt_118 : kI m_R_attempt 118 (.bipush 6) 2 120 := ⟨by decide +kernel, rfl⟩
theorem d_R_attempt_120 : kI m_R_attempt 120 .iastore 1 121 := ⟨by decide +kernel, rfl⟩
theorem d_R_attempt_121 : kJ m_R_attempt 121 (.goto 52) 52 124 173 := ⟨by decide +kernel, rfl, by decide⟩
theorem d_R_attempt_124 : kI m_R_attempt 124 (.aload_n 0) 1 125 := ⟨by decide +kernel, rfl⟩
theorem d_R_attempt_125 : kI m_R_attempt 125 (.getfield 17) 3 128 := ⟨by decide +kernel, rfl⟩
theorem d_R_attempt_128 : kI m_R_attempt 128 (.iload_n 1) 1 129 := ⟨by decide +kernel, rfl⟩
theorem d_R_attempt_129 : kI m_R_attempt 129 .iaload 1 130 := ⟨by decide +kernel, rfl⟩
theorem d_R_attempt_130 : kI m_R_attempt 130 (.istore_n 3) 1 131 := ⟨by decide +kernel, rfl⟩
theorem d_R_attempt_131 : kI m_R_attempt 131 (.aload_n 0) 1 132 := ⟨by decide +kernel, rfl⟩
theorem d_R_attempt_132 : kI m_R_attempt 132 (.iload_n 1) 1 133 := ⟨by decide +kernel, rfl⟩
theorem d_R_attempt_133 : kI m_R_attempt 133 (.iconst 4) 1 134 := ⟨by decide +kernel, rfl⟩
theorem d_R_attempt_134 : kI m_R_attempt 134 (.iload_n 3) 1 135 := ⟨by decide +kernel, rfl⟩
theorem d_R_attempt_135 : kI m_R_attempt 135 (.iconst (-1)) 1 136 := ⟨by decide +kernel, rfl⟩
theorem d_R_attempt_136 : kI m_R_attempt 136 (.invokevirtual 123) 3 139 := ⟨by decide +kernel, rfl⟩
theorem d_R_attempt_139 : kI m_R_attempt 139 (.aload_n 0) 1 140 := ⟨by decide +kernel, rfl⟩
theorem d_R_attempt_140 : kI m_R_attempt 140 (.getfield 47) 3 143 := ⟨by decide +kernel, rfl⟩
theorem d_R_attempt_143 : kI m_R_attempt 143 (.iload_n 3) 1 144 := ⟨by decide +kernel, rfl⟩
theorem d_R_attempt_144 : kI m_R_attempt 144 .iaload 1 145 := ⟨by decide +kernel, rfl⟩
theorem d_R_attempt_145 : kI m_R_attempt 145 (.iconst 2) 1 146 := ⟨by decide +kernel, rfl⟩
theorem d_R_attempt_146 : kJ m_R_attempt 146 (.if_icmp .ne 27) 27 149 173 := ⟨by decide +kernel, rfl, by decide⟩
theorem d_R_attempt_149 : kI m_R_attempt 149 (.aload_n 0) 1 150 := ⟨by decide +kernel, rfl⟩
theorem d_R_attempt_150 : kI m_R_attempt 150 (.getfield 50) 3 153 := ⟨by decide +kernel, rfl⟩
theorem d_R_attempt_153 : kI m_R_attempt 153 (.iload_n 3) 1 154 := ⟨by decide +kernel, rfl⟩
theorem d_R_attempt_154 : kI m_R_attempt 154 .iaload 1 155 := ⟨by decide +kernel, rfl⟩
theorem d_R_attempt_155 : kI m_R_attempt 155 (.iload_n 1) 1 156 := ⟨by decide +kernel, rfl⟩
theorem d_R_attempt_156 : kJ m_R_attempt 156 (.if_icmp .eq 12) 12 159 168 := ⟨by decide +kernel, rfl, by decide⟩
theorem d_R_attempt_159 : kI m_R_attempt 159 (.aload_n 0) 1 160 := ⟨by decide +kernel, rfl⟩
theorem d_R_attempt_160 : kI m_R_attempt 160 (.getfield 50) 3 163 := ⟨by decide +kernel, rfl⟩
theorem d_R_attempt_163 : kI m_R_attempt 163 (.iload_n 3) 1 164 := ⟨by decide +kernel, rfl⟩
theorem d_R_attempt_164 : kI m_R_attempt 164 .iaload 1 165 := ⟨by decide +kernel, rfl⟩
theorem d_R_attempt_165 : kJ m_R_attempt 165 (.ifCond .ge 8) 8 168 173 := ⟨by decide +kernel, rfl, by decide⟩
theorem d_R_attempt_168 : kI m_R_attempt 168 (.aload_n 0) 1 169 := ⟨by decide +kernel, rfl⟩
theorem d_R_attempt_169 : kI m_R_attempt 169 (.iload_n 1) 1 170 := ⟨by decide +kernel, rfl⟩
theorem d_R_attempt_170 : kI m_R_attempt 170 (.invokevirtual 131) 3 173 := ⟨by decide +kernel, rfl⟩
theorem d_R_attempt_173 : kI m_R_attempt 173 .return_ 1 174 := ⟨by decide +kernel, rfl⟩
theorem d_R_takes_0 : kI m_R_takes 0 (.aload_n 0) 1 1 := ⟨by decide +kernel, rfl⟩
theorem d_R_takes_1 : kI m_R_takes 1 (.getfield 47) 3 4 := ⟨by decide +kernel, rfl⟩
theorem d_R_takes_4 : kI m_R_takes 4 (.iload_n 1) 1 5 := ⟨by decide +kernel, rfl⟩
theorem d_R_takes_5 : kI m_R_takes 5 .iaload 1 6 := ⟨by decide +kernel, rfl⟩
theorem d_R_takes_6 : kI m_R_takes 6 (.iconst 2) 1 7 := ⟨by decide +kernel, rfl⟩
theorem d_R_takes_7 : kJ m_R_takes 7 (.if_icmp .ne 22) 22 10 29 := ⟨by decide +kernel, rfl, by decide⟩
theorem d_R_takes_10 : kI m_R_takes 10 (.aload_n 0) 1 11 := ⟨by decide +kernel, rfl⟩
theorem d_R_takes_11 : kI m_R_takes 11 (.getfield 50) 3 14 := ⟨by decide +kernel, rfl⟩
theorem d_R_takes_14 : kI m_R_takes 14 (.iload_n 1) 1 15 := ⟨by decide +kernel, rfl⟩
theorem d_R_takes_15 : kI m_R_takes 15 .iaload 1 16 := ⟨by decide +kernel, rfl⟩
theorem d_R_takes_16 : kI m_R_takes 16 (.iload_n 2) 1 17 := ⟨by decide +kernel, rfl⟩
theorem d_R_takes_17 : kJ m_R_takes 17 (.if_icmp .eq 32) 32 20 49 := ⟨by decide +kernel, rfl, by decide⟩
theorem d_R_takes_20 : kI m_R_takes 20 (.aload_n 0) 1 21 := ⟨by decide +kernel, rfl⟩
theorem d_R_takes_21 : kI m_R_takes 21 (.getfield 50) 3 24 := ⟨by decide +kernel, rfl⟩
theorem d_R_takes_24 : kI m_R_takes 24 (.iload_n 1) 1 25 := ⟨by decide +kernel, rfl⟩
theorem d_R_takes_25 : kI m_R_takes 25 .iaload 1 26 := ⟨by decide +kernel, rfl⟩
theorem d_R_takes_26 : kJ m_R_takes 26 (.ifCond .lt 23) 23 29 49 := ⟨by decide +kernel, rfl, by decide⟩
theorem d_R_takes_29 : kI m_R_takes 29 (.aload_n 0) 1 30 := ⟨by decide +kernel, rfl⟩
theorem d_R_takes_30 : kI m_R_takes 30 (.getfield 47) 3 33 := ⟨by decide +kernel, rfl⟩
theorem d_R_takes_33 : kI m_R_takes 33 (.iload_n 1) 1 34 := ⟨by decide +kernel, rfl⟩
theorem d_R_takes_34 : kI m_R_takes 34 .iaload 1 35 := ⟨by decide +kernel, rfl⟩
theorem d_R_takes_35 : kI m_R_takes 35 (.iconst 5) 1 36 := ⟨by decide +kernel, rfl⟩
theorem d_R_takes_36 : kJ m_R_takes 36 (.if_icmp .ne 17) 17 39 53 := ⟨by decide +kernel, rfl, by decide⟩
theorem d_R_takes_39 : kI m_R_takes 39 (.aload_n 0) 1 40 := ⟨by decide +kernel, rfl⟩
theorem d_R_takes_40 : kI m_R_takes 40 (.getfield 50) 3 43 := ⟨by decide +kernel, rfl⟩
theorem d_R_takes_43 : kI m_R_takes 43 (.iload_n 1) 1 44 := ⟨by decide +kernel, rfl⟩
theorem d_R_takes_44 : kI m_R_takes 44 .iaload 1 45 := ⟨by decide +kernel, rfl⟩
theorem d_R_takes_45 : kI m_R_takes 45 (.iload_n 2) 1 46 := ⟨by decide +kernel, rfl⟩
theorem d_R_takes_46 : kJ m_R_takes 46 (.if_icmp .ne 7) 7 49 53 := ⟨by decide +kernel, rfl, by decide⟩
theorem d_R_takes_49 : kI m_R_takes 49 (.iconst 1) 1 50 := ⟨by decide +kernel, rfl⟩
theorem d_R_takes_50 : kJ m_R_takes 50 (.goto 4) 4 53 54 := ⟨by decide +kernel, rfl, by decide⟩
theorem d_R_takes_53 : kI m_R_takes 53 (.iconst 0) 1 54 := ⟨by decide +kernel, rfl⟩
theorem d_R_takes_54 : kI m_R_takes 54 .ireturn 1 55 := ⟨by decide +kernel, rfl⟩
theorem d_R_speak_0 : kI m_R_speak 0 (.aload_n 0) 1 1 := ⟨by decide +kernel, rfl⟩
theorem d_R_speak_1 : kI m_R_speak 1 (.iload_n 1) 1 2 := ⟨by decide +kernel, rfl⟩
theorem d_R_speak_2 : kI m_R_speak 2 (.invokevirtual 102) 3 5 := ⟨by decide +kernel, rfl⟩
theorem d_R_speak_5 : kJ m_R_speak 5 (.ifCond .eq 27) 27 8 32 := ⟨by decide +kernel, rfl, by decide⟩
theorem d_R_speak_8 : kI m_R_speak 8 (.iload_n 2) 1 9 := ⟨by decide +kernel, rfl⟩
theorem d_R_speak_9 : kI m_R_speak 9 (.iload_n 1) 1 10 := ⟨by decide +kernel, rfl⟩
theorem d_R_speak_10 : kJ m_R_speak 10 (.if_icmp .eq 22) 22 13 32 := ⟨by decide +kernel, rfl, by decide⟩
theorem d_R_speak_13 : kI m_R_speak 13 (.aload_n 0) 1 14 := ⟨by decide +kernel, rfl⟩
theorem d_R_speak_14 : kI m_R_speak 14 (.iload_n 2) 1 15 := ⟨by decide +kernel, rfl⟩
theorem d_R_speak_15 : kI m_R_speak 15 (.invokevirtual 87) 3 18 := ⟨by decide +kernel, rfl⟩
theorem d_R_speak_18 : kJ m_R_speak 18 (.ifCond .eq 14) 14 21 32 := ⟨by decide +kernel, rfl, by decide⟩
theorem d_R_speak_21 : kI m_R_speak 21 (.iload_n 3) 1 22 := ⟨by decide +kernel, rfl⟩
theorem d_R_speak_22 : kI m_R_speak 22 (.iconst (-1)) 1 23 := ⟨by decide +kernel, rfl⟩
theorem d_R_speak_23 : kJ m_R_speak 23 (.if_icmp .lt 9) 9 26 32 := ⟨by decide +kernel, rfl, by decide⟩
theorem d_R_speak_26 : kI m_R_speak 26 (.iload_n 3) 1 27 := ⟨by decide +kernel, rfl⟩
theorem d_R_speak_27 : kI m_R_speak 27 (.bipush 100) 2 29 := ⟨by decide +kernel, rfl⟩
theorem d_R_speak_29 : kJ m_R_speak 29 (.if_icmp .le 5) 5 32 34 := ⟨by decide +kernel, rfl, by decide⟩
theorem d_R_speak_32 : kI m_R_speak 32 (.iconst (-1)) 1 33 := ⟨by decide +kernel, rfl⟩
theorem d_R_speak_33 : kI m_R_speak 33 .ireturn 1 34 := ⟨by decide +kernel, rfl⟩
theorem d_R_speak_34 : kI m_R_speak 34 (.aload_n 0) 1 35 := ⟨by decide +kernel, rfl⟩
theorem d_R_speak_35 : kI m_R_speak 35 (.iload_n 2) 1 36 := ⟨by decide +kernel, rfl⟩
theorem d_R_speak_36 : kI m_R_speak 36 (.iload_n 1) 1 37 := ⟨by decide +kernel, rfl⟩
theorem d_R_speak_37 : kI m_R_speak 37 (.invokevirtual 134) 3 40 := ⟨by decide +kernel, rfl⟩
theorem d_R_speak_40 : kJ m_R_speak 40 (.ifCond .eq 22) 22 43 62 := ⟨by decide +kernel, rfl, by decide⟩
theorem d_R_speak_43 : kI m_R_speak 43 (.aload_n 0) 1 44 := ⟨by decide +kernel, rfl⟩
theorem d_R_speak_44 : kI m_R_speak 44 (.iload_n 1) 1 45 := ⟨by decide +kernel, rfl⟩
theorem d_R_speak_45 : kI m_R_speak 45 (.iload_n 2) 1 46 := ⟨by decide +kernel, rfl⟩
theorem d_R_speak_46 : kI m_R_speak 46 (.iload 4) 2 48 := ⟨by decide +kernel, rfl⟩
theorem d_R_speak_48 : kI m_R_speak 48 (.invokevirtual 137) 3 51 := ⟨by decide +kernel, rfl⟩
theorem d_R_speak_51 : kI m_R_speak 51 (.iload 4) 2 53 := ⟨by decide +kernel, rfl⟩
theorem d_R_speak_53 : kJ m_R_speak 53 (.ifCond .eq 7) 7 56 60 := ⟨by decide +kernel, rfl, by decide⟩
theorem d_R_speak_56 : kI m_R_speak 56 (.iconst 1) 1 57 := ⟨by decide +kernel, rfl⟩
theorem d_R_speak_57 : kJ m_R_speak 57 (.goto 4) 4 60 61 := ⟨by decide +kernel, rfl, by decide⟩
theorem d_R_speak_60 : kI m_R_speak 60 (.iconst 0) 1 61 := ⟨by decide +kernel, rfl⟩
theorem d_R_speak_61 : kI m_R_speak 61 .ireturn 1 62 := ⟨by decide +kernel, rfl⟩
theorem d_R_speak_62 : kI m_R_speak 62 (.iload_n 3) 1 63 := ⟨by decide +kernel, rfl⟩
theorem d_R_speak_63 : kJ m_R_speak 63 (.ifCond .ne 12) 12 66 75 := ⟨by decide +kernel, rfl, by decide⟩
theorem d_R_speak_66 : kI m_R_speak 66 (.aload_n 0) 1 67 := ⟨by decide +kernel, rfl⟩
theorem d_R_speak_67 : kI m_R_speak 67 (.getfield 35) 3 70 := ⟨by decide +kernel, rfl⟩
theorem d_R_speak_70 : kI m_R_speak 70 (.iload_n 1) 1 71 := ⟨by decide +kernel, rfl⟩
theorem d_R_speak_71 : kI m_R_speak 71 (.iconst 1) 1 72 := ⟨by decide +kernel, rfl⟩
theorem d_R_speak_72 : kI m_R_speak 72 .iastore 1 73 := ⟨by decide +kernel, rfl⟩
theorem d_R_speak_73 : kI m_R_speak 73 (.iconst 2) 1 74 := ⟨by decide +kernel, rfl⟩
theorem d_R_speak_74 : kI m_R_speak 74 .ireturn 1 75 := ⟨by decide +kernel, rfl⟩
theorem d_R_speak_75 : kI m_R_speak 75 (.aload_n 0) 1 76 := ⟨by decide +kernel, rfl⟩
theorem d_R_speak_76 : kI m_R_speak 76 (.iload_n 1) 1 77 := ⟨by decide +kernel, rfl⟩
theorem d_R_speak_77 : kI m_R_speak 77 (.iload 4) 2 79 := ⟨by decide +kernel, rfl⟩
theorem d_R_speak_79 : kJ m_R_speak 79 (.ifCond .eq 7) 7 82 86 := ⟨by decide +kernel, rfl, by decide⟩
theorem d_R_speak_82 : kI m_R_speak 82 (.iconst 3) 1 83 := ⟨by decide +kernel, rfl⟩
theorem d_R_speak_83 : kJ m_R_speak 83 (.goto 4) 4 86 87 := ⟨by decide +kernel, rfl, by decide⟩
theorem d_R_speak_86 : kI m_R_speak 86 (.iconst 1) 1 87 := ⟨by decide +kernel, rfl⟩
theorem d_R_speak_87 : kI m_R_speak 87 (.iload_n 2) 1 88 := ⟨by decide +kernel, rfl⟩
theorem d_R_speak_88 : kI m_R_speak 88 (.iload_n 3) 1 89 := ⟨by decide +kernel, rfl⟩
theorem d_R_speak_89 : kI m_R_speak 89 (.invokevirtual 123) 3 92 := ⟨by decide +kernel, rfl⟩
theorem d_R_speak_92 : kI m_R_speak 92 (.iconst 1) 1 93 := ⟨by decide +kernel, rfl⟩
theorem d_R_speak_93 : kI m_R_speak 93 .ireturn 1 94 := ⟨by decide +kernel, rfl⟩
theorem d_R_send_0 : kI m_R_send 0 (.aload_n 0) 1 1 := ⟨by decide +kernel, rfl⟩
theorem d_R_send_1 : kI m_R_send 1 (.iload_n 1) 1 2 := ⟨by decide +kernel, rfl⟩
theorem d_R_send_2 : kI m_R_send 2 (.iload_n 2) 1 3 := ⟨by decide +kernel, rfl⟩
theorem d_R_send_3 : kI m_R_send 3 (.iload_n 3) 1 4 := ⟨by decide +kernel, rfl⟩
theorem d_R_send_4 : kI m_R_send 4 (.iconst 0) 1 5 := ⟨by decide +kernel, rfl⟩
theorem d_R_send_5 : kI m_R_send 5 (.invokevirtual 141) 3 8 := ⟨by decide +kernel, rfl⟩
theorem d_R_send_8 : kI m_R_send 8 .ireturn 1 9 := ⟨by decide +kernel, rfl⟩
theorem d_R_call_0 : kI m_R_call 0 (.aload_n 0) 1 1 := ⟨by decide +kernel, rfl⟩
theorem d_R_call_1 : kI m_R_call 1 (.iload_n 1) 1 2 := ⟨by decide +kernel, rfl⟩
theorem d_R_call_2 : kI m_R_call 2 (.iload_n 2) 1 3 := ⟨by decide +kernel, rfl⟩
theorem d_R_call_3 : kI m_R_call 3 (.iload_n 3) 1 4 := ⟨by decide +kernel, rfl⟩
theorem d_R_call_4 : kI m_R_call 4 (.iconst 1) 1 5 := ⟨by decide +kernel, rfl⟩
theorem d_R_call_5 : kI m_R_call 5 (.invokevirtual 141) 3 8 := ⟨by decide +kernel, rfl⟩
theorem d_R_call_8 : kI m_R_call 8 .ireturn 1 9 := ⟨by decide +kernel, rfl⟩
theorem d_R_waitsFor_0 : kI m_R_waitsFor 0 (.aload_n 0) 1 1 := ⟨by decide +kernel, rfl⟩
theorem d_R_waitsFor_1 : kI m_R_waitsFor 1 (.getfield 7) 3 4 := ⟨by decide +kernel, rfl⟩
theorem d_R_waitsFor_4 : kI m_R_waitsFor 4 (.iload_n 1) 1 5 := ⟨by decide +kernel, rfl⟩
theorem d_R_waitsFor_5 : kI m_R_waitsFor 5 .baload 1 6 := ⟨by decide +kernel, rfl⟩
theorem d_R_waitsFor_6 : kJ m_R_waitsFor 6 (.ifCond .eq 47) 47 9 53 := ⟨by decide +kernel, rfl, by decide⟩
theorem d_R_waitsFor_9 : kI m_R_waitsFor 9 (.aload_n 0) 1 10 := ⟨by decide +kernel, rfl⟩
theorem d_R_waitsFor_10 : kI m_R_waitsFor 10 (.getfield 47) 3 13 := ⟨by decide +kernel, rfl⟩
theorem d_R_waitsFor_13 : kI m_R_waitsFor 13 (.iload_n 1) 1 14 := ⟨by decide +kernel, rfl⟩
theorem d_R_waitsFor_14 : kI m_R_waitsFor 14 .iaload 1 15 := ⟨by decide +kernel, rfl⟩
theorem d_R_waitsFor_15 : kI m_R_waitsFor 15 (.iconst 1) 1 16 := ⟨by decide +kernel, rfl⟩
theorem d_R_waitsFor_16 : kJ m_R_waitsFor 16 (.if_icmp .eq 23) 23 19 39 := ⟨by decide +kernel, rfl, by decide⟩
theorem d_R_waitsFor_19 : kI m_R_waitsFor 19 (.aload_n 0) 1 20 := ⟨by decide +kernel, rfl⟩
theorem d_R_waitsFor_20 : kI m_R_waitsFor 20 (.getfield 47) 3 23 := ⟨by decide +kernel, rfl⟩
theorem d_R_waitsFor_23 : kI m_R_waitsFor 23 (.iload_n 1) 1 24 := ⟨by decide +kernel, rfl⟩
theorem d_R_waitsFor_24 : kI m_R_waitsFor 24 .iaload 1 25 := ⟨by decide +kernel, rfl⟩
theorem d_R_waitsFor_25 : kI m_R_waitsFor 25 (.iconst 3) 1 26 := ⟨by decide +kernel, rfl⟩
theorem d_R_waitsFor_26 : kJ m_R_waitsFor 26 (.if_icmp .eq 13) 13 29 39 := ⟨by decide +kernel, rfl, by decide⟩
theorem d_R_waitsFor_29 : kI m_R_waitsFor 29 (.aload_n 0) 1 30 := ⟨by decide +kernel, rfl⟩
theorem d_R_waitsFor_30 : kI m_R_waitsFor 30 (.getfield 47) 3 33 := ⟨by decide +kernel, rfl⟩
theorem d_R_waitsFor_33 : kI m_R_waitsFor 33 (.iload_n 1) 1 34 := ⟨by decide +kernel, rfl⟩
theorem d_R_waitsFor_34 : kI m_R_waitsFor 34 .iaload 1 35 := ⟨by decide +kernel, rfl⟩
theorem d_R_waitsFor_35 : kI m_R_waitsFor 35 (.iconst 4) 1 36 := ⟨by decide +kernel, rfl⟩
theorem d_R_waitsFor_36 : kJ m_R_waitsFor 36 (.if_icmp .ne 17) 17 39 53 := ⟨by decide +kernel, rfl, by decide⟩
theorem d_R_waitsFor_39 : kI m_R_waitsFor 39 (.aload_n 0) 1 40 := ⟨by decide +kernel, rfl⟩
theorem d_R_waitsFor_40 : kI m_R_waitsFor 40 (.getfield 50) 3 43 := ⟨by decide +kernel, rfl⟩
theorem d_R_waitsFor_43 : kI m_R_waitsFor 43 (.iload_n 1) 1 44 := ⟨by decide +kernel, rfl⟩
theorem d_R_waitsFor_44 : kI m_R_waitsFor 44 .iaload 1 45 := ⟨by decide +kernel, rfl⟩
theorem d_R_waitsFor_45 : kI m_R_waitsFor 45 (.iload_n 2) 1 46 := ⟨by decide +kernel, rfl⟩
theorem d_R_waitsFor_46 : kJ m_R_waitsFor 46 (.if_icmp .ne 7) 7 49 53 := ⟨by decide +kernel, rfl, by decide⟩
theorem d_R_waitsFor_49 : kI m_R_waitsFor 49 (.iconst 1) 1 50 := ⟨by decide +kernel, rfl⟩
theorem d_R_waitsFor_50 : kJ m_R_waitsFor 50 (.goto 4) 4 53 54 := ⟨by decide +kernel, rfl, by decide⟩
theorem d_R_waitsFor_53 : kI m_R_waitsFor 53 (.iconst 0) 1 54 := ⟨by decide +kernel, rfl⟩
theorem d_R_waitsFor_54 : kI m_R_waitsFor 54 .ireturn 1 55 := ⟨by decide +kernel, rfl⟩
theorem d_R_receive_0 : kI m_R_receive 0 (.aload_n 0) 1 1 := ⟨by decide +kernel, rfl⟩
theorem d_R_receive_1 : kI m_R_receive 1 (.iload_n 1) 1 2 := ⟨by decide +kernel, rfl⟩
theorem d_R_receive_2 : kI m_R_receive 2 (.invokevirtual 102) 3 5 := ⟨by decide +kernel, rfl⟩
theorem d_R_receive_5 : kJ m_R_receive 5 (.ifCond .eq 32) 32 8 37 := ⟨by decide +kernel, rfl, by decide⟩
theorem d_R_receive_8 : kI m_R_receive 8 (.iload_n 2) 1 9 := ⟨by decide +kernel, rfl⟩
theorem d_R_receive_9 : kI m_R_receive 9 (.iload_n 1) 1 10 := ⟨by decide +kernel, rfl⟩
theorem d_R_receive_10 : kJ m_R_receive 10 (.if_icmp .eq 27) 27 13 37 := ⟨by decide +kernel, rfl, by decide⟩
theorem d_R_receive_13 : kI m_R_receive 13 (.iload_n 2) 1 14 := ⟨by decide +kernel, rfl⟩
theorem d_R_receive_14 : kI m_R_receive 14 (.iconst (-1)) 1 15 := ⟨by decide +kernel, rfl⟩
theorem d_R_receive_15 : kJ m_R_receive 15 (.if_icmp .eq 11) 11 18 26 := ⟨by decide +kernel, rfl, by decide⟩
theorem d_R_receive_18 : kI m_R_receive 18 (.aload_n 0) 1 19 := ⟨by decide +kernel, rfl⟩
theorem d_R_receive_19 : kI m_R_receive 19 (.iload_n 2) 1 20 := ⟨by decide +kernel, rfl⟩
theorem d_R_receive_20 : kI m_R_receive 20 (.invokevirtual 87) 3 23 := ⟨by decide +kernel, rfl⟩
theorem d_R_receive_23 : kJ m_R_receive 23 (.ifCond .eq 14) 14 26 37 := ⟨by decide +kernel, rfl, by decide⟩
theorem d_R_receive_26 : kI m_R_receive 26 (.iload_n 3) 1 27 := ⟨by decide +kernel, rfl⟩
theorem d_R_receive_27 : kI m_R_receive 27 (.iconst (-1)) 1 28 := ⟨by decide +kernel, rfl⟩
theorem d_R_receive_28 : kJ m_R_receive 28 (.if_icmp .lt 9) 9 31 37 := ⟨by decide +kernel, rfl, by decide⟩
theorem d_R_receive_31 : kI m_R_receive 31 (.iload_n 3) 1 32 := ⟨by decide +kernel, rfl⟩
theorem d_R_receive_32 : kI m_R_receive 32 (.bipush 100) 2 34 := ⟨by decide +kernel, rfl⟩
theorem d_R_receive_34 : kJ m_R_receive 34 (.if_icmp .le 5) 5 37 39 := ⟨by decide +kernel, rfl, by decide⟩
theorem d_R_receive_37 : kI m_R_receive 37 (.iconst (-1)) 1 38 := ⟨by decide +kernel, rfl⟩
theorem d_R_receive_38 : kI m_R_receive 38 .ireturn 1 39 := ⟨by decide +kernel, rfl⟩
theorem d_R_receive_39 : kI m_R_receive 39 (.iconst (-1)) 1 40 := ⟨by decide +kernel, rfl⟩
theorem d_R_receive_40 : kI m_R_receive 40 (.istore 4) 2 42 := ⟨by decide +kernel, rfl⟩
theorem d_R_receive_42 : kI m_R_receive 42 (.iconst 0) 1 43 := ⟨by decide +kernel, rfl⟩
theorem d_R_receive_43 : kI m_R_receive 43 (.istore 5) 2 45 := ⟨by decide +kernel, rfl⟩
theorem d_R_receive_45 : kI m_R_receive 45 (.iload 5) 2 47 := ⟨by decide +kernel, rfl⟩
theorem d_R_receive_47 : kI m_R_receive 47 (.bipush 8) 2 49 := ⟨by decide +kernel, rfl⟩
theorem d_R_receive_49 : kJ m_R_receive 49 (.if_icmp .ge 60) 60 52 109 := ⟨by decide +kernel, rfl, by decide⟩
theorem d_R_receive_52 : kI m_R_receive 52 (.aload_n 0) 1 53 := ⟨by decide +kernel, rfl⟩
theorem d_R_receive_53 : kI m_R_receive 53 (.iload 5) 2 55 := ⟨by decide +kernel, rfl⟩
theorem d_R_receive_55 : kI m_R_receive 55 (.iload_n 1) 1 56 := ⟨by decide +kernel, rfl⟩
theorem d_R_receive_56 : kI m_R_receive 56 (.invokevirtual 145) 3 59 := ⟨by decide +kernel, rfl⟩
theorem d_R_receive_59 : kJ m_R_receive 59 (.ifCond .eq 44) 44 62 103 := ⟨by decide +kernel, rfl, by decide⟩
theorem d_R_receive_62 : kI m_R_receive 62 (.iload_n 2) 1 63 := ⟨by decide +kernel, rfl⟩
theorem d_R_receive_63 : kJ m_R_receive 63 (.ifCond .lt 9) 9 66 72 := ⟨by decide +kernel, rfl, by decide⟩
theorem d_R_receive_66 : kI m_R_receive 66 (.iload 5) 2 68 := ⟨by decide +kernel, rfl⟩
theorem d_R_receive_68 : kI m_R_receive 68 (.iload_n 2) 1 69 := ⟨by decide +kernel, rfl⟩
theorem d_R_receive_69 : kJ m_R_receive 69 (.if_icmp .ne 34) 34 72 103 := ⟨by decide +kernel, rfl, by decide⟩
theorem d_R_receive_72 : kI m_R_receive 72 (.iload 4) 2 74 := ⟨by decide +kernel, rfl⟩
theorem d_R_receive_74 : kJ m_R_receive 74 (.ifCond .lt 20) 20 77 94 := ⟨by decide +kernel, rfl, by decide⟩
theorem d_R_receive_77 : kI m_R_receive 77 (.aload_n 0) 1 78 := ⟨by decide +kernel, rfl⟩
theorem d_R_receive_78 : kI m_R_receive 78 (.getfield 56) 3 81 := ⟨by decide +kernel, rfl⟩
theorem d_R_receive_81 : kI m_R_receive 81 (.iload 5) 2 83 := ⟨by decide +kernel, rfl⟩
theorem d_R_receive_83 : kI m_R_receive 83 .iaload 1 84 := ⟨by decide +kernel, rfl⟩
theorem d_R_receive_84 : kI m_R_receive 84 (.aload_n 0) 1 85 := ⟨by decide +kernel, rfl⟩
theorem d_R_receive_85 : kI m_R_receive 85 (.getfield 56) 3 88 := ⟨by decide +kernel, rfl⟩
theorem d_R_receive_88 : kI m_R_receive 88 (.iload 4) 2 90 := ⟨by decide +kernel, rfl⟩
theorem d_R_receive_90 : kI m_R_receive 90 .iaload 1 91 := ⟨by decide +kernel, rfl⟩
theorem d_R_receive_91 : kJ m_R_receive 91 (.if_icmp .ge 8) 8 94 99 := ⟨by decide +kernel, rfl, by decide⟩
theorem d_R_receive_94 : kI m_R_receive 94 (.iload 5) 2 96 := ⟨by decide +kernel, rfl⟩
theorem d_R_receive_96 : kJ m_R_receive 96 (.goto 5) 5 99 101 := ⟨by decide +kernel, rfl, by decide⟩
theorem d_R_receive_99 : kI m_R_receive 99 (.iload 4) 2 101 := ⟨by decide +kernel, rfl⟩
theorem d_R_receive_101 : kI m_R_receive 101 (.istore 4) 2 103 := ⟨by decide +kernel, rfl⟩
theorem d_R_receive_103 : kI m_R_receive 103 (.iinc 5 1) 3 106 := ⟨by decide +kernel, rfl⟩
theorem d_R_receive_106 : kJ m_R_receive 106 (.goto (-61)) (-61) 109 45 := ⟨by decide +kernel, rfl, by decide⟩
theorem d_R_receive_109 : kI m_R_receive 109 (.iload 4) 2 111 := ⟨by decide +kernel, rfl⟩
theorem d_R_receive_111 : kJ m_R_receive 111 (.ifCond .lt 48) 48 114 159 := ⟨by decide +kernel, rfl, by decide⟩
theorem d_R_receive_114 : kI m_R_receive 114 (.aload_n 0) 1 115 := ⟨by decide +kernel, rfl⟩
theorem d_R_receive_115 : kI m_R_receive 115 (.getfield 47) 3 118 := ⟨by decide +kernel, rfl⟩
theorem d_R_receive_118 : kI m_R_receive 118 (.iload 4) 2 120 := ⟨by decide +kernel, rfl⟩
theorem d_R_receive_120 : kI m_R_receive 120 .iaload 1 121 := ⟨by decide +kernel, rfl⟩
theorem d_R_receive_121 : kI m_R_receive 121 (.iconst 4) 1 122 := ⟨by decide +kernel, rfl⟩
theorem d_R_receive_122 : kJ m_R_receive 122 (.if_icmp .ne 12) 12 125 134 := ⟨by decide +kernel, rfl, by decide⟩
theorem d_R_receive_125 : kI m_R_receive 125 (.aload_n 0) 1 126 := ⟨by decide +kernel, rfl⟩
theorem d_R_receive_126 : kI m_R_receive 126 (.iload 4) 2 128 := ⟨by decide +kernel, rfl⟩
theorem d_R_receive_128 : kI m_R_receive 128 (.invokevirtual 131) 3 131 := ⟨by decide +kernel, rfl⟩
theorem d_R_receive_131 : kJ m_R_receive 131 (.goto 26) 26 134 157 := ⟨by decide +kernel, rfl, by decide⟩
theorem d_R_receive_134 : kI m_R_receive 134 (.aload_n 0) 1 135 := ⟨by decide +kernel, rfl⟩
theorem d_R_receive_135 : kI m_R_receive 135 (.iload 4) 2 137 := ⟨by decide +kernel, rfl⟩
theorem d_R_receive_137 : kI m_R_receive 137 (.iload_n 1) 1 138 := ⟨by decide +kernel, rfl⟩
theorem d_R_receive_138 : kI m_R_receive 138 (.aload_n 0) 1 139 := ⟨by decide +kernel, rfl⟩
theorem d_R_receive_139 : kI m_R_receive 139 (.getfield 47) 3 142 := ⟨by decide +kernel, rfl⟩
theorem d_R_receive_142 : kI m_R_receive 142 (.iload 4) 2 144 := ⟨by decide +kernel, rfl⟩
theorem d_R_receive_144 : kI m_R_receive 144 .iaload 1 145 := ⟨by decide +kernel, rfl⟩
theorem d_R_receive_145 : kI m_R_receive 145 (.iconst 3) 1 146 := ⟨by decide +kernel, rfl⟩
theorem d_R_receive_146 : kJ m_R_receive 146 (.if_icmp .ne 7) 7 149 153 := ⟨by decide +kernel, rfl, by decide⟩
theorem d_R_receive_149 : kI m_R_receive 149 (.iconst 1) 1 150 := ⟨by decide +kernel, rfl⟩
theorem d_R_receive_150 : kJ m_R_receive 150 (.goto 4) 4 153 154 := ⟨by decide +kernel, rfl, by decide⟩
theorem d_R_receive_153 : kI m_R_receive 153 (.iconst 0) 1 154 := ⟨by decide +kernel, rfl⟩
theorem d_R_receive_154 : kI m_R_receive 154 (.invokevirtual 137) 3 157 := ⟨by decide +kernel, rfl⟩
theorem d_R_receive_157 : kI m_R_receive 157 (.iconst 0) 1 158 := ⟨by decide +kernel, rfl⟩
theorem d_R_receive_158 : kI m_R_receive 158 .ireturn 1 159 := ⟨by decide +kernel, rfl⟩
theorem d_R_receive_159 : kI m_R_receive 159 (.iload_n 3) 1 160 := ⟨by decide +kernel, rfl⟩
theorem d_R_receive_160 : kJ m_R_receive 160 (.ifCond .ne 12) 12 163 172 := ⟨by decide +kernel, rfl, by decide⟩
theorem d_R_receive_163 : kI m_R_receive 163 (.aload_n 0) 1 164 := ⟨by decide +kernel, rfl⟩
theorem d_R_receive_164 : kI m_R_receive 164 (.getfield 35) 3 167 := ⟨by decide +kernel, rfl⟩
theorem d_R_receive_167 : kI m_R_receive 167 (.iload_n 1) 1 168 := ⟨by decide +kernel, rfl⟩
theorem d_R_receive_168 : kI m_R_receive 168 (.iconst 1) 1 169 := ⟨by decide +kernel, rfl⟩
theorem d_R_receive_169 : kI m_R_receive 169 .iastore 1 170 := ⟨by decide +kernel, rfl⟩
theorem d_R_receive_170 : kI m_R_receive 170 (.iconst 2) 1 171 := ⟨by decide +kernel, rfl⟩
theorem d_R_receive_171 : kI m_R_receive 171 .ireturn 1 172 := ⟨by decide +kernel, rfl⟩
theorem d_R_receive_172 : kI m_R_receive 172 (.aload_n 0) 1 173 := ⟨by decide +kernel, rfl⟩
theorem d_R_receive_173 : kI m_R_receive 173 (.iload_n 1) 1 174 := ⟨by decide +kernel, rfl⟩
theorem d_R_receive_174 : kI m_R_receive 174 (.iconst 2) 1 175 := ⟨by decide +kernel, rfl⟩
theorem d_R_receive_175 : kI m_R_receive 175 (.iload_n 2) 1 176 := ⟨by decide +kernel, rfl⟩
theorem d_R_receive_176 : kI m_R_receive 176 (.iload_n 3) 1 177 := ⟨by decide +kernel, rfl⟩
theorem d_R_receive_177 : kI m_R_receive 177 (.invokevirtual 123) 3 180 := ⟨by decide +kernel, rfl⟩
theorem d_R_receive_180 : kI m_R_receive 180 (.iconst 1) 1 181 := ⟨by decide +kernel, rfl⟩
theorem d_R_receive_181 : kI m_R_receive 181 .ireturn 1 182 := ⟨by decide +kernel, rfl⟩
theorem d_R_access_0 : kI m_R_access 0 (.aload_n 0) 1 1 := ⟨by decide +kernel, rfl⟩
theorem d_R_access_1 : kI m_R_access 1 (.iload_n 1) 1 2 := ⟨by decide +kernel, rfl⟩
theorem d_R_access_2 : kI m_R_access 2 (.invokevirtual 102) 3 5 := ⟨by decide +kernel, rfl⟩
theorem d_R_access_5 : kJ m_R_access 5 (.ifCond .eq 13) 13 8 18 := ⟨by decide +kernel, rfl, by decide⟩
theorem d_R_access_8 : kI m_R_access 8 (.iload_n 2) 1 9 := ⟨by decide +kernel, rfl⟩
theorem d_R_access_9 : kJ m_R_access 9 (.ifCond .lt 9) 9 12 18 := ⟨by decide +kernel, rfl, by decide⟩
theorem d_R_access_12 : kI m_R_access 12 (.iload_n 2) 1 13 := ⟨by decide +kernel, rfl⟩
theorem d_R_access_13 : kI m_R_access 13 (.bipush 15) 2 15 := ⟨by decide +kernel, rfl⟩
theorem d_R_access_15 : kJ m_R_access 15 (.if_icmp .le 5) 5 18 20 := ⟨by decide +kernel, rfl, by decide⟩
theorem d_R_access_18 : kI m_R_access 18 (.iconst (-1)) 1 19 := ⟨by decide +kernel, rfl⟩
theorem d_R_access_19 : kI m_R_access 19 .ireturn 1 20 := ⟨by decide +kernel, rfl⟩
theorem d_R_access_20 : kI m_R_access 20 (.aload_n 0) 1 21 := ⟨by decide +kernel, rfl⟩
theorem d_R_access_21 : kI m_R_access 21 (.getfield 59) 3 24 := ⟨by decide +kernel, rfl⟩
theorem d_R_access_24 : kI m_R_access 24 (.iload_n 1) 1 25 := ⟨by decide +kernel, rfl⟩
theorem d_R_access_25 : kI m_R_access 25 (.iload_n 2) 1 26 := ⟨by decide +kernel, rfl⟩
theorem d_R_access_26 : kI m_R_access 26 .iastore 1 27 := ⟨by decide +kernel, rfl⟩
theorem d_R_access_27 : kI m_R_access 27 (.aload_n 0) 1 28 := ⟨by decide +kernel, rfl⟩
theorem d_R_access_28 : kI m_R_access 28 (.getfield 62) 3 31 := ⟨by decide +kernel, rfl⟩
theorem d_R_access_31 : kI m_R_access 31 (.iload_n 1) 1 32 := ⟨by decide +kernel, rfl⟩
theorem d_R_access_32 : kI m_R_access 32 (.iload_n 3) 1 33 := ⟨by decide +kernel, rfl⟩
theorem d_R_access_33 : kI m_R_access 33 .bastore 1 34 := ⟨by decide +kernel, rfl⟩
theorem d_R_access_34 : kI m_R_access 34 (.aload_n 0) 1 35 := ⟨by decide +kernel, rfl⟩
theorem d_R_access_35 : kI m_R_access 35 (.getfield 65) 3 38 := ⟨by decide +kernel, rfl⟩
theorem d_R_access_38 : kI m_R_access 38 (.iload_n 1) 1 39 := ⟨by decide +kernel, rfl⟩
theorem d_R_access_39 : kI m_R_access 39 (.iload 4) 2 41 := ⟨by decide +kernel, rfl⟩
theorem d_R_access_41 : kI m_R_access 41 .iastore 1 42 := ⟨by decide +kernel, rfl⟩
theorem d_R_access_42 : kI m_R_access 42 (.aload_n 0) 1 43 := ⟨by decide +kernel, rfl⟩
theorem d_R_access_43 : kI m_R_access 43 (.iload_n 1) 1 44 := ⟨by decide +kernel, rfl⟩
theorem d_R_access_44 : kI m_R_access 44 (.invokevirtual 127) 3 47 := ⟨by decide +kernel, rfl⟩
theorem d_R_access_47 : kI m_R_access 47 (.aload_n 0) 1 48 := ⟨by decide +kernel, rfl⟩
theorem d_R_access_48 : kI m_R_access 48 (.getfield 47) 3 51 := ⟨by decide +kernel, rfl⟩
theorem d_R_access_51 : kI m_R_access 51 (.iload_n 1) 1 52 := ⟨by decide +kernel, rfl⟩
theorem d_R_access_52 : kI m_R_access 52 .iaload 1 53 := ⟨by decide +kernel, rfl⟩
theorem d_R_access_53 : kJ m_R_access 53 (.ifCond .ne 7) 7 56 60 := ⟨by decide +kernel, rfl, by decide⟩
theorem d_R_access_56 : kI m_R_access 56 (.iconst 0) 1 57 := ⟨by decide +kernel, rfl⟩
theorem d_R_access_57 : kJ m_R_access 57 (.goto 19) 19 60 76 := ⟨by decide +kernel, rfl, by decide⟩
theorem d_R_access_60 : kI m_R_access 60 (.aload_n 0) 1 61 := ⟨by decide +kernel, rfl⟩
theorem d_R_access_61 : kI m_R_access 61 (.getfield 47) 3 64 := ⟨by decide +kernel, rfl⟩
theorem d_R_access_64 : kI m_R_access 64 (.iload_n 1) 1 65 := ⟨by decide +kernel, rfl⟩
theorem d_R_access_65 : kI m_R_access 65 .iaload 1 66 := ⟨by decide +kernel, rfl⟩
theorem d_R_access_66 : kI m_R_access 66 (.bipush 6) 2 68 := ⟨by decide +kernel, rfl⟩
theorem d_R_access_68 : kJ m_R_access 68 (.if_icmp .ne 7) 7 71 75 := ⟨by decide +kernel, rfl, by decide⟩
theorem d_R_access_71 : kI m_R_access 71 (.iconst 2) 1 72 := ⟨by decide +kernel, rfl⟩
theorem d_R_access_72 : kJ m_R_access 72 (.goto 4) 4 75 76 := ⟨by decide +kernel, rfl, by decide⟩
theorem d_R_access_75 : kI m_R_access 75 (.iconst 1) 1 76 := ⟨by decide +kernel, rfl⟩
theorem d_R_access_76 : kI m_R_access 76 .ireturn 1 77 := ⟨by decide +kernel, rfl⟩
theorem d_R_unmap_0 : kI m_R_unmap 0 (.aload_n 0) 1 1 := ⟨by decide +kernel, rfl⟩
theorem d_R_unmap_1 : kI m_R_unmap 1 (.iload_n 1) 1 2 := ⟨by decide +kernel, rfl⟩
theorem d_R_unmap_2 : kI m_R_unmap 2 (.invokevirtual 102) 3 5 := ⟨by decide +kernel, rfl⟩
theorem d_R_unmap_5 : kJ m_R_unmap 5 (.ifCond .eq 23) 23 8 28 := ⟨by decide +kernel, rfl, by decide⟩
theorem d_R_unmap_8 : kI m_R_unmap 8 (.iload_n 2) 1 9 := ⟨by decide +kernel, rfl⟩
theorem d_R_unmap_9 : kJ m_R_unmap 9 (.ifCond .lt 19) 19 12 28 := ⟨by decide +kernel, rfl, by decide⟩
theorem d_R_unmap_12 : kI m_R_unmap 12 (.iload_n 2) 1 13 := ⟨by decide +kernel, rfl⟩
theorem d_R_unmap_13 : kI m_R_unmap 13 (.bipush 15) 2 15 := ⟨by decide +kernel, rfl⟩
theorem d_R_unmap_15 : kJ m_R_unmap 15 (.if_icmp .gt 13) 13 18 28 := ⟨by decide +kernel, rfl, by decide⟩
theorem d_R_unmap_18 : kI m_R_unmap 18 (.iload_n 3) 1 19 := ⟨by decide +kernel, rfl⟩
theorem d_R_unmap_19 : kI m_R_unmap 19 (.iconst 1) 1 20 := ⟨by decide +kernel, rfl⟩
theorem d_R_unmap_20 : kJ m_R_unmap 20 (.if_icmp .eq 10) 10 23 30 := ⟨by decide +kernel, rfl, by decide⟩
theorem d_R_unmap_23 : kI m_R_unmap 23 (.iload_n 3) 1 24 := ⟨by decide +kernel, rfl⟩
theorem d_R_unmap_24 : kI m_R_unmap 24 (.iconst 2) 1 25 := ⟨by decide +kernel, rfl⟩
theorem d_R_unmap_25 : kJ m_R_unmap 25 (.if_icmp .eq 5) 5 28 30 := ⟨by decide +kernel, rfl, by decide⟩
theorem d_R_unmap_28 : kI m_R_unmap 28 (.iconst (-1)) 1 29 := ⟨by decide +kernel, rfl⟩
theorem d_R_unmap_29 : kI m_R_unmap 29 .ireturn 1 30 := ⟨by decide +kernel, rfl⟩
theorem d_R_unmap_30 : kI m_R_unmap 30 (.bipush 16) 2 32 := ⟨by decide +kernel, rfl⟩
theorem d_R_unmap_32 : kI m_R_unmap 32 (.aload_n 0) 1 33 := ⟨by decide +kernel, rfl⟩
theorem d_R_unmap_33 : kI m_R_unmap 33 (.getfield 13) 3 36 := ⟨by decide +kernel, rfl⟩
theorem d_R_unmap_36 : kI m_R_unmap 36 (.iload_n 1) 1 37 := ⟨by decide +kernel, rfl⟩
theorem d_R_unmap_37 : kI m_R_unmap 37 .iaload 1 38 := ⟨by decide +kernel, rfl⟩
theorem d_R_unmap_38 : kI m_R_unmap 38 .imul 1 39 := ⟨by decide +kernel, rfl⟩
theorem d_R_unmap_39 : kI m_R_unmap 39 (.iload_n 2) 1 40 := ⟨by decide +kernel, rfl⟩
theorem d_R_unmap_40 : kI m_R_unmap 40 .iadd 1 41 := ⟨by decide +kernel, rfl⟩
theorem d_R_unmap_41 : kI m_R_unmap 41 (.istore 5) 2 43 := ⟨by decide +kernel, rfl⟩
theorem d_R_unmap_43 : kI m_R_unmap 43 (.aload_n 0) 1 44 := ⟨by decide +kernel, rfl⟩
theorem d_R_unmap_44 : kI m_R_unmap 44 (.getfield 68) 3 47 := ⟨by decide +kernel, rfl⟩
theorem d_R_unmap_47 : kI m_R_unmap 47 (.iload 5) 2 49 := ⟨by decide +kernel, rfl⟩
theorem d_R_unmap_49 : kI m_R_unmap 49 .iaload 1 50 := ⟨by decide +kernel, rfl⟩
theorem d_R_unmap_50 : kJ m_R_unmap 50 (.ifCond .ge 5) 5 53 55 := ⟨by decide +kernel, rfl, by decide⟩
theorem d_R_unmap_53 : kI m_R_unmap 53 (.iconst 0) 1 54 := ⟨by decide +kernel, rfl⟩
theorem d_R_unmap_54 : kI m_R_unmap 54 .ireturn 1 55 := ⟨by decide +kernel, rfl⟩
theorem d_R_unmap_55 : kI m_R_unmap 55 (.iconst 0) 1 56 := ⟨by decide +kernel, rfl⟩
theorem d_R_unmap_56 : kI m_R_unmap 56 (.istore 6) 2 58 := ⟨by decide +kernel, rfl⟩
theorem d_R_unmap_58 : kI m_R_unmap 58 (.iload_n 3) 1 59 := ⟨by decide +kernel, rfl⟩
theorem d_R_unmap_59 : kI m_R_unmap 59 (.iconst 1) 1 60 := ⟨by decide +kernel, rfl⟩
theorem d_R_unmap_60 : kJ m_R_unmap 60 (.if_icmp .ne 48) 48 63 108 := ⟨by decide +kernel, rfl, by decide⟩
theorem d_R_unmap_63 : kI m_R_unmap 63 (.aload_n 0) 1 64 := ⟨by decide +kernel, rfl⟩
theorem d_R_unmap_64 : kI m_R_unmap 64 (.iload 5) 2 66 := ⟨by decide +kernel, rfl⟩
theorem d_R_unmap_66 : kI m_R_unmap 66 (.invokevirtual 109) 3 69 := ⟨by decide +kernel, rfl⟩
theorem d_R_unmap_69 : kI m_R_unmap 69 (.iload 4) 2 71 := ⟨by decide +kernel, rfl⟩
theorem d_R_unmap_71 : kJ m_R_unmap 71 (.ifCond .eq 7) 7 74 78 := ⟨by decide +kernel, rfl, by decide⟩
theorem d_R_unmap_74 : kI m_R_unmap 74 (.iconst 1) 1 75 := ⟨by decide +kernel, rfl⟩
theorem d_R_unmap_75 : kJ m_R_unmap 75 (.goto 4) 4 78 79 := ⟨by decide +kernel, rfl, by decide⟩
theorem d_R_unmap_78 : kI m_R_unmap 78 (.iconst 0) 1 79 := ⟨by decide +kernel, rfl⟩
theorem d_R_unmap_79 : kI m_R_unmap 79 .iadd 1 80 := ⟨by decide +kernel, rfl⟩
theorem d_R_unmap_80 : kI m_R_unmap 80 (.istore 6) 2 82 := ⟨by decide +kernel, rfl⟩
theorem d_R_unmap_82 : kI m_R_unmap 82 (.aload_n 0) 1 83 := ⟨by decide +kernel, rfl⟩
theorem d_R_unmap_83 : kI m_R_unmap 83 (.getfield 68) 3 86 := ⟨by decide +kernel, rfl⟩
theorem d_R_unmap_86 : kI m_R_unmap 86 (.iload 5) 2 88 := ⟨by decide +kernel, rfl⟩
theorem d_R_unmap_88 : kI m_R_unmap 88 (.iload 4) 2 90 := ⟨by decide +kernel, rfl⟩
theorem d_R_unmap_90 : kJ m_R_unmap 90 (.ifCond .eq 7) 7 93 97 := ⟨by decide +kernel, rfl, by decide⟩
theorem d_R_unmap_93 : kI m_R_unmap 93 (.iconst (-1)) 1 94 := ⟨by decide +kernel, rfl⟩
theorem d_R_unmap_94 : kJ m_R_unmap 94 (.goto 10) 10 97 104 := ⟨by decide +kernel, rfl, by decide⟩
theorem d_R_unmap_97 : kI m_R_unmap 97 (.aload_n 0) 1 98 := ⟨by decide +kernel, rfl⟩
theorem d_R_unmap_98 : kI m_R_unmap 98 (.getfield 68) 3 101 := ⟨by decide +kernel, rfl⟩
theorem d_R_unmap_101 : kI m_R_unmap 101 (.iload 5) 2 103 := ⟨by decide +kernel, rfl⟩
theorem d_R_unmap_103 : kI m_R_unmap 103 .iaload 1 104 := ⟨by decide +kernel, rfl⟩
theorem d_R_unmap_104 : kI m_R_unmap 104 .iastore 1 105 := ⟨by decide +kernel, rfl⟩
theorem d_R_unmap_105 : kI m_R_unmap 105 (.iload 6) 2 107 := ⟨by decide +kernel, rfl⟩
theorem d_R_unmap_107 : kI m_R_unmap 107 .ireturn 1 108 := ⟨by decide +kernel, rfl⟩
theorem d_R_unmap_108 : kI m_R_unmap 108 (.iconst 0) 1 109 := ⟨by decide +kernel, rfl⟩
theorem d_R_unmap_109 : kI m_R_unmap 109 (.istore 7) 2 111 := ⟨by decide +kernel, rfl⟩
theorem d_R_unmap_111 : kI m_R_unmap 111 (.iload 7) 2 113 := ⟨by decide +kernel, rfl⟩
theorem d_R_unmap_113 : kI m_R_unmap 113 (.bipush 96) 2 115 := ⟨by decide +kernel, rfl⟩
theorem d_R_unmap_115 : kJ m_R_unmap 115 (.if_icmp .ge 64) 64 118 179 := ⟨by decide +kernel, rfl, by decide⟩
theorem d_R_unmap_118 : kI m_R_unmap 118 (.aload_n 0) 1 119 := ⟨by decide +kernel, rfl⟩
theorem d_R_unmap_119 : kI m_R_unmap 119 (.getfield 68) 3 122 := ⟨by decide +kernel, rfl⟩
theorem d_R_unmap_122 : kI m_R_unmap 122 (.iload 7) 2 124 := ⟨by decide +kernel, rfl⟩
theorem d_R_unmap_124 : kI m_R_unmap 124 .iaload 1 125 := ⟨by decide +kernel, rfl⟩
theorem d_R_unmap_125 : kJ m_R_unmap 125 (.ifCond .lt 48) 48 128 173 := ⟨by decide +kernel, rfl, by decide⟩
theorem d_R_unmap_128 : kI m_R_unmap 128 (.aload_n 0) 1 129 := ⟨by decide +kernel, rfl⟩
theorem d_R_unmap_129 : kI m_R_unmap 129 (.getfield 71) 3 132 := ⟨by decide +kernel, rfl⟩
theorem d_R_unmap_132 : kI m_R_unmap 132 (.iload 7) 2 134 := ⟨by decide +kernel, rfl⟩
theorem d_R_unmap_134 : kI m_R_unmap 134 .iaload 1 135 := ⟨by decide +kernel, rfl⟩
theorem d_R_unmap_135 : kI m_R_unmap 135 (.iconst 2) 1 136 := ⟨by decide +kernel, rfl⟩
theorem d_R_unmap_136 : kJ m_R_unmap 136 (.if_icmp .ne 37) 37 139 173 := ⟨by decide +kernel, rfl, by decide⟩
theorem d_R_unmap_139 : kI m_R_unmap 139 (.aload_n 0) 1 140 := ⟨by decide +kernel, rfl⟩
theorem d_R_unmap_140 : kI m_R_unmap 140 (.iload 7) 2 142 := ⟨by decide +kernel, rfl⟩
theorem d_R_unmap_142 : kI m_R_unmap 142 (.iload 5) 2 144 := ⟨by decide +kernel, rfl⟩
theorem d_R_unmap_144 : kI m_R_unmap 144 (.invokevirtual 105) 3 147 := ⟨by decide +kernel, rfl⟩
theorem d_R_unmap_147 : kJ m_R_unmap 147 (.ifCond .ne 15) 15 150 162 := ⟨by decide +kernel, rfl, by decide⟩
theorem d_R_unmap_150 : kI m_R_unmap 150 (.iload 4) 2 152 := ⟨by decide +kernel, rfl⟩
theorem d_R_unmap_152 : kJ m_R_unmap 152 (.ifCond .eq 21) 21 155 173 := ⟨by decide +kernel, rfl, by decide⟩
theorem d_R_unmap_155 : kI m_R_unmap 155 (.iload 7) 2 157 := ⟨by decide +kernel, rfl⟩
theorem d_R_unmap_157 : kI m_R_unmap 157 (.iload 5) 2 159 := ⟨by decide +kernel, rfl⟩
theorem d_R_unmap_159 : kJ m_R_unmap 159 (.if_icmp .ne 14) 14 162 173 := ⟨by decide +kernel, rfl, by decide⟩
theorem d_R_unmap_162 : kI m_R_unmap 162 (.aload_n 0) 1 163 := ⟨by decide +kernel, rfl⟩
theorem d_R_unmap_163 : kI m_R_unmap 163 (.getfield 71) 3 166 := ⟨by decide +kernel, rfl⟩
theorem d_R_unmap_166 : kI m_R_unmap 166 (.iload 7) 2 168 := ⟨by decide +kernel, rfl⟩
theorem d_R_unmap_168 : kI m_R_unmap 168 (.iconst 1) 1 169 := ⟨by decide +kernel, rfl⟩
theorem d_R_unmap_169 : kI m_R_unmap 169 .iastore 1 170 := ⟨by decide +kernel, rfl⟩
theorem d_R_unmap_170 : kI m_R_unmap 170 (.iinc 6 1) 3 173 := ⟨by decide +kernel, rfl⟩
theorem d_R_unmap_173 : kI m_R_unmap 173 (.iinc 7 1) 3 176 := ⟨by decide +kernel, rfl⟩
theorem d_R_unmap_176 : kJ m_R_unmap 176 (.goto (-65)) (-65) 179 111 := ⟨by decide +kernel, rfl, by decide⟩
theorem d_R_unmap_179 : kI m_R_unmap 179 (.iload 6) 2 181 := ⟨by decide +kernel, rfl⟩
theorem d_R_unmap_181 : kI m_R_unmap 181 .ireturn 1 182 := ⟨by decide +kernel, rfl⟩
theorem d_R_tick_0 : kI m_R_tick 0 (.aload_n 0) 1 1 := ⟨by decide +kernel, rfl⟩
theorem d_R_tick_1 : kI m_R_tick 1 .dup 1 2 := ⟨by decide +kernel, rfl⟩
theorem d_R_tick_2 : kI m_R_tick 2 (.getfield 91) 3 5 := ⟨by decide +kernel, rfl⟩
theorem d_R_tick_5 : kI m_R_tick 5 (.iconst 1) 1 6 := ⟨by decide +kernel, rfl⟩
theorem d_R_tick_6 : kI m_R_tick 6 .iadd 1 7 := ⟨by decide +kernel, rfl⟩
theorem d_R_tick_7 : kI m_R_tick 7 (.putfield 91) 3 10 := ⟨by decide +kernel, rfl⟩
theorem d_R_tick_10 : kI m_R_tick 10 (.iconst 0) 1 11 := ⟨by decide +kernel, rfl⟩
theorem d_R_tick_11 : kI m_R_tick 11 (.istore_n 1) 1 12 := ⟨by decide +kernel, rfl⟩
theorem d_R_tick_12 : kI m_R_tick 12 (.iconst 0) 1 13 := ⟨by decide +kernel, rfl⟩
theorem d_R_tick_13 : kI m_R_tick 13 (.istore_n 2) 1 14 := ⟨by decide +kernel, rfl⟩
theorem d_R_tick_14 : kI m_R_tick 14 (.iload_n 2) 1 15 := ⟨by decide +kernel, rfl⟩
theorem d_R_tick_15 : kI m_R_tick 15 (.bipush 8) 2 17 := ⟨by decide +kernel, rfl⟩
theorem d_R_tick_17 : kJ m_R_tick 17 (.if_icmp .ge 89) 89 20 106 := ⟨by decide +kernel, rfl, by decide⟩
theorem d_R_tick_20 : kI m_R_tick 20 (.aload_n 0) 1 21 := ⟨by decide +kernel, rfl⟩
theorem d_R_tick_21 : kI m_R_tick 21 (.getfield 7) 3 24 := ⟨by decide +kernel, rfl⟩
theorem d_R_tick_24 : kI m_R_tick 24 (.iload_n 2) 1 25 := ⟨by decide +kernel, rfl⟩
theorem d_R_tick_25 : kI m_R_tick 25 .baload 1 26 := ⟨by decide +kernel, rfl⟩
theorem d_R_tick_26 : kJ m_R_tick 26 (.ifCond .eq 37) 37 29 63 := ⟨by decide +kernel, rfl, by decide⟩
theorem d_R_tick_29 : kI m_R_tick 29 (.aload_n 0) 1 30 := ⟨by decide +kernel, rfl⟩
theorem d_R_tick_30 : kI m_R_tick 30 (.getfield 47) 3 33 := ⟨by decide +kernel, rfl⟩
theorem d_R_tick_33 : kI m_R_tick 33 (.iload_n 2) 1 34 := ⟨by decide +kernel, rfl⟩
theorem d_R_tick_34 : kI m_R_tick 34 .iaload 1 35 := ⟨by decide +kernel, rfl⟩
theorem d_R_tick_35 : kI m_R_tick 35 (.iconst 1) 1 36 := ⟨by decide +kernel, rfl⟩
theorem d_R_tick_36 : kJ m_R_tick 36 (.if_icmp .eq 23) 23 39 59 := ⟨by decide +kernel, rfl, by decide⟩
theorem d_R_tick_39 : kI m_R_tick 39 (.aload_n 0) 1 40 := ⟨by decide +kernel, rfl⟩
theorem d_R_tick_40 : kI m_R_tick 40 (.getfield 47) 3 43 := ⟨by decide +kernel, rfl⟩
theorem d_R_tick_43 : kI m_R_tick 43 (.iload_n 2) 1 44 := ⟨by decide +kernel, rfl⟩
theorem d_R_tick_44 : kI m_R_tick 44 .iaload 1 45 := ⟨by decide +kernel, rfl⟩
theorem d_R_tick_45 : kI m_R_tick 45 (.iconst 3) 1 46 := ⟨by decide +kernel, rfl⟩
theorem d_R_tick_46 : kJ m_R_tick 46 (.if_icmp .eq 13) 13 49 59 := ⟨by decide +kernel, rfl, by decide⟩
theorem d_R_tick_49 : kI m_R_tick 49 (.aload_n 0) 1 50 := ⟨by decide +kernel, rfl⟩
theorem d_R_tick_50 : kI m_R_tick 50 (.getfield 47) 3 53 := ⟨by decide +kernel, rfl⟩
theorem d_R_tick_53 : kI m_R_tick 53 (.iload_n 2) 1 54 := ⟨by decide +kernel, rfl⟩
theorem d_R_tick_54 : kI m_R_tick 54 .iaload 1 55 := ⟨by decide +kernel, rfl⟩
theorem d_R_tick_55 : kI m_R_tick 55 (.iconst 2) 1 56 := ⟨by decide +kernel, rfl⟩
theorem d_R_tick_56 : kJ m_R_tick 56 (.if_icmp .ne 7) 7 59 63 := ⟨by decide +kernel, rfl, by decide⟩
theorem d_R_tick_59 : kI m_R_tick 59 (.iconst 1) 1 60 := ⟨by decide +kernel, rfl⟩
theorem d_R_tick_60 : kJ m_R_tick 60 (.goto 4) 4 63 64 := ⟨by decide +kernel, rfl, by decide⟩
theorem d_R_tick_63 : kI m_R_tick 63 (.iconst 0) 1 64 := ⟨by decide +kernel, rfl⟩
theorem d_R_tick_64 : kI m_R_tick 64 (.istore_n 3) 1 65 := ⟨by decide +kernel, rfl⟩
theorem d_R_tick_65 : kI m_R_tick 65 (.iload_n 3) 1 66 := ⟨by decide +kernel, rfl⟩
theorem d_R_tick_66 : kJ m_R_tick 66 (.ifCond .eq 34) 34 69 100 := ⟨by decide +kernel, rfl, by decide⟩
theorem d_R_tick_69 : kI m_R_tick 69 (.aload_n 0) 1 70 := ⟨by decide +kernel, rfl⟩
theorem d_R_tick_70 : kI m_R_tick 70 (.getfield 53) 3 73 := ⟨by decide +kernel, rfl⟩
theorem d_R_tick_73 : kI m_R_tick 73 (.iload_n 2) 1 74 := ⟨by decide +kernel, rfl⟩
theorem d_R_tick_74 : kI m_R_tick 74 .iaload 1 75 := ⟨by decide +kernel, rfl⟩
theorem d_R_tick_75 : kJ m_R_tick 75 (.ifCond .lt 25) 25 78 100 := ⟨by decide +kernel, rfl, by decide⟩
theorem d_R_tick_78 : kI m_R_tick 78 (.aload_n 0) 1 79 := ⟨by decide +kernel, rfl⟩
theorem d_R_tick_79 : kI m_R_tick 79 (.getfield 53) 3 82 := ⟨by decide +kernel, rfl⟩
theorem d_R_tick_82 : kI m_R_tick 82 (.iload_n 2) 1 83 := ⟨by decide +kernel, rfl⟩
theorem d_R_tick_83 : kI m_R_tick 83 .iaload 1 84 := ⟨by decide +kernel, rfl⟩
theorem d_R_tick_84 : kI m_R_tick 84 (.aload_n 0) 1 85 := ⟨by decide +kernel, rfl⟩
theorem d_R_tick_85 : kI m_R_tick 85 (.getfield 91) 3 88 := ⟨by decide +kernel, rfl⟩
theorem d_R_tick_88 : kJ m_R_tick 88 (.if_icmp .gt 12) 12 91 100 := ⟨by decide +kernel, rfl, by decide⟩
theorem d_R_tick_91 : kI m_R_tick 91 (.aload_n 0) 1 92 := ⟨by decide +kernel, rfl⟩
theorem d_R_tick_92 : kI m_R_tick 92 (.iload_n 2) 1 93 := ⟨by decide +kernel, rfl⟩
theorem d_R_tick_93 : kI m_R_tick 93 (.iconst 1) 1 94 := ⟨by decide +kernel, rfl⟩
theorem d_R_tick_94 : kI m_R_tick 94 (.invokevirtual 98) 3 97 := ⟨by decide +kernel, rfl⟩
theorem d_R_tick_97 : kI m_R_tick 97 (.iinc 1 1) 3 100 := ⟨by decide +kernel, rfl⟩
theorem d_R_tick_100 : kI m_R_tick 100 (.iinc 2 1) 3 103 := ⟨by decide +kernel, rfl⟩
theorem d_R_tick_103 : kJ m_R_tick 103 (.goto (-89)) (-89) 106 14 := ⟨by decide +kernel, rfl, by decide⟩
theorem d_R_tick_106 : kI m_R_tick 106 (.iload_n 1) 1 107 := ⟨by decide +kernel, rfl⟩
theorem d_R_tick_107 : kI m_R_tick 107 .ireturn 1 108 := ⟨by decide +kernel, rfl⟩
theorem d_R_state_0 : kI m_R_state 0 (.aload_n 0) 1 1 := ⟨by decide +kernel, rfl⟩
theorem d_R_state_1 : kI m_R_state 1 (.iload_n 1) 1 2 := ⟨by decide +kernel, rfl⟩
theorem d_R_state_2 : kI m_R_state 2 (.invokevirtual 87) 3 5 := ⟨by decide +kernel, rfl⟩
theorem d_R_state_5 : kJ m_R_state 5 (.ifCond .eq 12) 12 8 17 := ⟨by decide +kernel, rfl, by decide⟩
theorem d_R_state_8 : kI m_R_state 8 (.aload_n 0) 1 9 := ⟨by decide +kernel, rfl⟩
theorem d_R_state_9 : kI m_R_state 9 (.getfield 47) 3 12 := ⟨by decide +kernel, rfl⟩
theorem d_R_state_12 : kI m_R_state 12 (.iload_n 1) 1 13 := ⟨by decide +kernel, rfl⟩
theorem d_R_state_13 : kI m_R_state 13 .iaload 1 14 := ⟨by decide +kernel, rfl⟩
theorem d_R_state_14 : kJ m_R_state 14 (.goto 4) 4 17 18 := ⟨by decide +kernel, rfl, by decide⟩
theorem d_R_state_17 : kI m_R_state 17 (.iconst (-1)) 1 18 := ⟨by decide +kernel, rfl⟩
theorem d_R_state_18 : kI m_R_state 18 .ireturn 1 19 := ⟨by decide +kernel, rfl⟩
theorem d_R_register_0 : kI m_R_register 0 (.aload_n 0) 1 1 := ⟨by decide +kernel, rfl⟩
theorem d_R_register_1 : kI m_R_register 1 (.iload_n 1) 1 2 := ⟨by decide +kernel, rfl⟩
theorem d_R_register_2 : kI m_R_register 2 (.invokevirtual 87) 3 5 := ⟨by decide +kernel, rfl⟩
theorem d_R_register_5 : kJ m_R_register 5 (.ifCond .eq 12) 12 8 17 := ⟨by decide +kernel, rfl, by decide⟩
theorem d_R_register_8 : kI m_R_register 8 (.iload_n 2) 1 9 := ⟨by decide +kernel, rfl⟩
theorem d_R_register_9 : kJ m_R_register 9 (.ifCond .lt 8) 8 12 17 := ⟨by decide +kernel, rfl, by decide⟩
theorem d_R_register_12 : kI m_R_register 12 (.iload_n 2) 1 13 := ⟨by decide +kernel, rfl⟩
theorem d_R_register_13 : kI m_R_register 13 (.iconst 4) 1 14 := ⟨by decide +kernel, rfl⟩
theorem d_R_register_14 : kJ m_R_register 14 (.if_icmp .le 5) 5 17 19 := ⟨by decide +kernel, rfl, by decide⟩
theorem d_R_register_17 : kI m_R_register 17 (.iconst 0) 1 18 := ⟨by decide +kernel, rfl⟩
theorem d_R_register_18 : kI m_R_register 18 .ireturn 1 19 := ⟨by decide +kernel, rfl⟩
theorem d_R_register_19 : kI m_R_register 19 (.iload_n 2) 1 20 := ⟨by decide +kernel, rfl⟩
theorem d_R_register_20 : kI m_R_register 20 (.iconst 4) 1 21 := ⟨by decide +kernel, rfl⟩
theorem d_R_register_21 : kJ m_R_register 21 (.if_icmp .ne 12) 12 24 33 := ⟨by decide +kernel, rfl, by decide⟩
theorem d_R_register_24 : kI m_R_register 24 (.aload_n 0) 1 25 := ⟨by decide +kernel, rfl⟩
theorem d_R_register_25 : kI m_R_register 25 (.getfield 44) 3 28 := ⟨by decide +kernel, rfl⟩
theorem d_R_register_28 : kI m_R_register 28 (.iload_n 1) 1 29 := ⟨by decide +kernel, rfl⟩
theorem d_R_register_29 : kI m_R_register 29 .iaload 1 30 := ⟨by decide +kernel, rfl⟩
theorem d_R_register_30 : kJ m_R_register 30 (.goto 13) 13 33 43 := ⟨by decide +kernel, rfl, by decide⟩
theorem d_R_register_33 : kI m_R_register 33 (.aload_n 0) 1 34 := ⟨by decide +kernel, rfl⟩
theorem d_R_register_34 : kI m_R_register 34 (.getfield 20) 3 37 := ⟨by decide +kernel, rfl⟩
theorem d_R_register_37 : kI m_R_register 37 (.iconst 4) 1 38 := ⟨by decide +kernel, rfl⟩
theorem d_R_register_38 : kI m_R_register 38 (.iload_n 1) 1 39 := ⟨by decide +kernel, rfl⟩
theorem d_R_register_39 : kI m_R_register 39 .imul 1 40 := ⟨by decide +kernel, rfl⟩
theorem d_R_register_40 : kI m_R_register 40 (.iload_n 2) 1 41 := ⟨by decide +kernel, rfl⟩
theorem d_R_register_41 : kI m_R_register 41 .iadd 1 42 := ⟨by decide +kernel, rfl⟩
theorem d_R_register_42 : kI m_R_register 42 .iaload 1 43 := ⟨by decide +kernel, rfl⟩
theorem d_R_register_43 : kI m_R_register 43 .ireturn 1 44 := ⟨by decide +kernel, rfl⟩
theorem d_R_outcome_0 : kI m_R_outcome 0 (.aload_n 0) 1 1 := ⟨by decide +kernel, rfl⟩
theorem d_R_outcome_1 : kI m_R_outcome 1 (.iload_n 1) 1 2 := ⟨by decide +kernel, rfl⟩
theorem d_R_outcome_2 : kI m_R_outcome 2 (.invokevirtual 87) 3 5 := ⟨by decide +kernel, rfl⟩
theorem d_R_outcome_5 : kJ m_R_outcome 5 (.ifCond .eq 12) 12 8 17 := ⟨by decide +kernel, rfl, by decide⟩
theorem d_R_outcome_8 : kI m_R_outcome 8 (.aload_n 0) 1 9 := ⟨by decide +kernel, rfl⟩
theorem d_R_outcome_9 : kI m_R_outcome 9 (.getfield 35) 3 12 := ⟨by decide +kernel, rfl⟩
theorem d_R_outcome_12 : kI m_R_outcome 12 (.iload_n 1) 1 13 := ⟨by decide +kernel, rfl⟩
theorem d_R_outcome_13 : kI m_R_outcome 13 .iaload 1 14 := ⟨by decide +kernel, rfl⟩
theorem d_R_outcome_14 : kJ m_R_outcome 14 (.goto 4) 4 17 18 := ⟨by decide +kernel, rfl, by decide⟩
theorem d_R_outcome_17 : kI m_R_outcome 17 (.iconst (-1)) 1 18 := ⟨by decide +kernel, rfl⟩
theorem d_R_outcome_18 : kI m_R_outcome 18 .ireturn 1 19 := ⟨by decide +kernel, rfl⟩
theorem d_R_value_0 : kI m_R_value 0 (.aload_n 0) 1 1 := ⟨by decide +kernel, rfl⟩
theorem d_R_value_1 : kI m_R_value 1 (.iload_n 1) 1 2 := ⟨by decide +kernel, rfl⟩
theorem d_R_value_2 : kI m_R_value 2 (.invokevirtual 87) 3 5 := ⟨by decide +kernel, rfl⟩
theorem d_R_value_5 : kJ m_R_value 5 (.ifCond .eq 12) 12 8 17 := ⟨by decide +kernel, rfl, by decide⟩
theorem d_R_value_8 : kI m_R_value 8 (.aload_n 0) 1 9 := ⟨by decide +kernel, rfl⟩
theorem d_R_value_9 : kI m_R_value 9 (.getfield 41) 3 12 := ⟨by decide +kernel, rfl⟩
theorem d_R_value_12 : kI m_R_value 12 (.iload_n 1) 1 13 := ⟨by decide +kernel, rfl⟩
theorem d_R_value_13 : kI m_R_value 13 .iaload 1 14 := ⟨by decide +kernel, rfl⟩
theorem d_R_value_14 : kJ m_R_value 14 (.goto 4) 4 17 18 := ⟨by decide +kernel, rfl, by decide⟩
theorem d_R_value_17 : kI m_R_value 17 (.iconst 0) 1 18 := ⟨by decide +kernel, rfl⟩
theorem d_R_value_18 : kI m_R_value 18 .ireturn 1 19 := ⟨by decide +kernel, rfl⟩
theorem d_R_sender_0 : kI m_R_sender 0 (.aload_n 0) 1 1 := ⟨by decide +kernel, rfl⟩
theorem d_R_sender_1 : kI m_R_sender 1 (.iload_n 1) 1 2 := ⟨by decide +kernel, rfl⟩
theorem d_R_sender_2 : kI m_R_sender 2 (.invokevirtual 87) 3 5 := ⟨by decide +kernel, rfl⟩
theorem d_R_sender_5 : kJ m_R_sender 5 (.ifCond .eq 12) 12 8 17 := ⟨by decide +kernel, rfl, by decide⟩
theorem d_R_sender_8 : kI m_R_sender 8 (.aload_n 0) 1 9 := ⟨by decide +kernel, rfl⟩
theorem d_R_sender_9 : kI m_R_sender 9 (.getfield 38) 3 12 := ⟨by decide +kernel, rfl⟩
theorem d_R_sender_12 : kI m_R_sender 12 (.iload_n 1) 1 13 := ⟨by decide +kernel, rfl⟩
theorem d_R_sender_13 : kI m_R_sender 13 .iaload 1 14 := ⟨by decide +kernel, rfl⟩
theorem d_R_sender_14 : kJ m_R_sender 14 (.goto 4) 4 17 18 := ⟨by decide +kernel, rfl, by decide⟩
theorem d_R_sender_17 : kI m_R_sender 17 (.iconst (-1)) 1 18 := ⟨by decide +kernel, rfl⟩
theorem d_R_sender_18 : kI m_R_sender 18 .ireturn 1 19 := ⟨by decide +kernel, rfl⟩
theorem d_R_place_0 : kI m_R_place 0 (.iload_n 1) 1 1 := ⟨by decide +kernel, rfl⟩
theorem d_R_place_1 : kJ m_R_place 1 (.ifCond .lt 32) 32 4 33 := ⟨by decide +kernel, rfl, by decide⟩
theorem d_R_place_4 : kI m_R_place 4 (.iload_n 1) 1 5 := ⟨by decide +kernel, rfl⟩
theorem d_R_place_5 : kI m_R_place 5 (.iconst 5) 1 6 := ⟨by decide +kernel, rfl⟩
theorem d_R_place_6 : kJ m_R_place 6 (.if_icmp .gt 27) 27 9 33 := ⟨by decide +kernel, rfl, by decide⟩
theorem d_R_place_9 : kI m_R_place 9 (.iload_n 2) 1 10 := ⟨by decide +kernel, rfl⟩
theorem d_R_place_10 : kJ m_R_place 10 (.ifCond .lt 23) 23 13 33 := ⟨by decide +kernel, rfl, by decide⟩
theorem d_R_place_13 : kI m_R_place 13 (.iload_n 2) 1 14 := ⟨by decide +kernel, rfl⟩
theorem d_R_place_14 : kI m_R_place 14 (.bipush 15) 2 16 := ⟨by decide +kernel, rfl⟩
theorem d_R_place_16 : kJ m_R_place 16 (.if_icmp .gt 17) 17 19 33 := ⟨by decide +kernel, rfl, by decide⟩
theorem d_R_place_19 : kI m_R_place 19 (.aload_n 0) 1 20 := ⟨by decide +kernel, rfl⟩
theorem d_R_place_20 : kI m_R_place 20 (.getfield 68) 3 23 := ⟨by decide +kernel, rfl⟩
theorem d_R_place_23 : kI m_R_place 23 (.bipush 16) 2 25 := ⟨by decide +kernel, rfl⟩
theorem d_R_place_25 : kI m_R_place 25 (.iload_n 1) 1 26 := ⟨by decide +kernel, rfl⟩
theorem d_R_place_26 : kI m_R_place 26 .imul 1 27 := ⟨by decide +kernel, rfl⟩
theorem d_R_place_27 : kI m_R_place 27 (.iload_n 2) 1 28 := ⟨by decide +kernel, rfl⟩
theorem d_R_place_28 : kI m_R_place 28 .iadd 1 29 := ⟨by decide +kernel, rfl⟩
theorem d_R_place_29 : kI m_R_place 29 .iaload 1 30 := ⟨by decide +kernel, rfl⟩
theorem d_R_place_30 : kJ m_R_place 30 (.ifCond .ge 7) 7 33 37 := ⟨by decide +kernel, rfl, by decide⟩
theorem d_R_place_33 : kI m_R_place 33 (.iconst (-1)) 1 34 := ⟨by decide +kernel, rfl⟩
theorem d_R_place_34 : kJ m_R_place 34 (.goto 9) 9 37 43 := ⟨by decide +kernel, rfl, by decide⟩
theorem d_R_place_37 : kI m_R_place 37 (.bipush 16) 2 39 := ⟨by decide +kernel, rfl⟩
theorem d_R_place_39 : kI m_R_place 39 (.iload_n 1) 1 40 := ⟨by decide +kernel, rfl⟩
theorem d_R_place_40 : kI m_R_place 40 .imul 1 41 := ⟨by decide +kernel, rfl⟩
theorem d_R_place_41 : kI m_R_place 41 (.iload_n 2) 1 42 := ⟨by decide +kernel, rfl⟩
theorem d_R_place_42 : kI m_R_place 42 .iadd 1 43 := ⟨by decide +kernel, rfl⟩
theorem d_R_place_43 : kI m_R_place 43 .ireturn 1 44 := ⟨by decide +kernel, rfl⟩
theorem d_R_mapping_0 : kI m_R_mapping 0 (.aload_n 0) 1 1 := ⟨by decide +kernel, rfl⟩
theorem d_R_mapping_1 : kI m_R_mapping 1 (.iload_n 1) 1 2 := ⟨by decide +kernel, rfl⟩
theorem d_R_mapping_2 : kI m_R_mapping 2 (.iload_n 2) 1 3 := ⟨by decide +kernel, rfl⟩
theorem d_R_mapping_3 : kI m_R_mapping 3 (.invokevirtual 148) 3 6 := ⟨by decide +kernel, rfl⟩
theorem d_R_mapping_6 : kI m_R_mapping 6 (.istore_n 3) 1 7 := ⟨by decide +kernel, rfl⟩
theorem d_R_mapping_7 : kI m_R_mapping 7 (.iload_n 3) 1 8 := ⟨by decide +kernel, rfl⟩
theorem d_R_mapping_8 : kJ m_R_mapping 8 (.ifCond .ge 7) 7 11 15 := ⟨by decide +kernel, rfl, by decide⟩
theorem d_R_mapping_11 : kI m_R_mapping 11 (.iconst (-1)) 1 12 := ⟨by decide +kernel, rfl⟩
theorem d_R_mapping_12 : kJ m_R_mapping 12 (.goto 30) 30 15 42 := ⟨by decide +kernel, rfl, by decide⟩
theorem d_R_mapping_15 : kI m_R_mapping 15 (.sipush 1000) 3 18 := ⟨by decide +kernel, rfl⟩
theorem d_R_mapping_18 : kI m_R_mapping 18 (.aload_n 0) 1 19 := ⟨by decide +kernel, rfl⟩
theorem d_R_mapping_19 : kI m_R_mapping 19 (.getfield 74) 3 22 := ⟨by decide +kernel, rfl⟩
theorem d_R_mapping_22 : kI m_R_mapping 22 (.iload_n 3) 1 23 := ⟨by decide +kernel, rfl⟩
theorem d_R_mapping_23 : kI m_R_mapping 23 .iaload 1 24 := ⟨by decide +kernel, rfl⟩
theorem d_R_mapping_24 : kI m_R_mapping 24 .imul 1 25 := ⟨by decide +kernel, rfl⟩
theorem d_R_mapping_25 : kI m_R_mapping 25 (.bipush 10) 2 27 := ⟨by decide +kernel, rfl⟩
theorem d_R_mapping_27 : kI m_R_mapping 27 (.aload_n 0) 1 28 := ⟨by decide +kernel, rfl⟩
theorem d_R_mapping_28 : kI m_R_mapping 28 (.getfield 68) 3 31 := ⟨by decide +kernel, rfl⟩
theorem d_R_mapping_31 : kI m_R_mapping 31 (.iload_n 3) 1 32 := ⟨by decide +kernel, rfl⟩
theorem d_R_mapping_32 : kI m_R_mapping 32 .iaload 1 33 := ⟨by decide +kernel, rfl⟩
theorem d_R_mapping_33 : kI m_R_mapping 33 .imul 1 34 := ⟨by decide +kernel, rfl⟩
theorem d_R_mapping_34 : kI m_R_mapping 34 .iadd 1 35 := ⟨by decide +kernel, rfl⟩
theorem d_R_mapping_35 : kI m_R_mapping 35 (.aload_n 0) 1 36 := ⟨by decide +kernel, rfl⟩
theorem d_R_mapping_36 : kI m_R_mapping 36 (.getfield 71) 3 39 := ⟨by decide +kernel, rfl⟩
theorem d_R_mapping_39 : kI m_R_mapping 39 (.iload_n 3) 1 40 := ⟨by decide +kernel, rfl⟩
theorem d_R_mapping_40 : kI m_R_mapping 40 .iaload 1 41 := ⟨by decide +kernel, rfl⟩
theorem d_R_mapping_41 : kI m_R_mapping 41 .iadd 1 42 := ⟨by decide +kernel, rfl⟩
theorem d_R_mapping_42 : kI m_R_mapping 42 .ireturn 1 43 := ⟨by decide +kernel, rfl⟩
theorem d_R_heirs_0 : kI m_R_heirs 0 (.aload_n 0) 1 1 := ⟨by decide +kernel, rfl⟩
theorem d_R_heirs_1 : kI m_R_heirs 1 (.iload_n 1) 1 2 := ⟨by decide +kernel, rfl⟩
theorem d_R_heirs_2 : kI m_R_heirs 2 (.iload_n 2) 1 3 := ⟨by decide +kernel, rfl⟩
theorem d_R_heirs_3 : kI m_R_heirs 3 (.invokevirtual 148) 3 6 := ⟨by decide +kernel, rfl⟩
theorem d_R_heirs_6 : kI m_R_heirs 6 (.istore_n 3) 1 7 := ⟨by decide +kernel, rfl⟩
theorem d_R_heirs_7 : kI m_R_heirs 7 (.iload_n 3) 1 8 := ⟨by decide +kernel, rfl⟩
theorem d_R_heirs_8 : kJ m_R_heirs 8 (.ifCond .ge 7) 7 11 15 := ⟨by decide +kernel, rfl, by decide⟩
theorem d_R_heirs_11 : kI m_R_heirs 11 (.iconst (-1)) 1 12 := ⟨by decide +kernel, rfl⟩
theorem d_R_heirs_12 : kJ m_R_heirs 12 (.goto 8) 8 15 20 := ⟨by decide +kernel, rfl, by decide⟩
theorem d_R_heirs_15 : kI m_R_heirs 15 (.aload_n 0) 1 16 := ⟨by decide +kernel, rfl⟩
theorem d_R_heirs_16 : kI m_R_heirs 16 (.iload_n 3) 1 17 := ⟨by decide +kernel, rfl⟩
theorem d_R_heirs_17 : kI m_R_heirs 17 (.invokevirtual 152) 3 20 := ⟨by decide +kernel, rfl⟩
theorem d_R_heirs_20 : kI m_R_heirs 20 .ireturn 1 21 := ⟨by decide +kernel, rfl⟩
theorem d_R_waiting_0 : kI m_R_waiting 0 (.aload_n 0) 1 1 := ⟨by decide +kernel, rfl⟩
theorem d_R_waiting_1 : kI m_R_waiting 1 (.iload_n 1) 1 2 := ⟨by decide +kernel, rfl⟩
theorem d_R_waiting_2 : kI m_R_waiting 2 (.invokevirtual 87) 3 5 := ⟨by decide +kernel, rfl⟩
theorem d_R_waiting_5 : kJ m_R_waiting 5 (.ifCond .ne 5) 5 8 10 := ⟨by decide +kernel, rfl, by decide⟩
theorem d_R_waiting_8 : kI m_R_waiting 8 (.iconst (-1)) 1 9 := ⟨by decide +kernel, rfl⟩
theorem d_R_waiting_9 : kI m_R_waiting 9 .ireturn 1 10 := ⟨by decide +kernel, rfl⟩
theorem d_R_waiting_10 : kI m_R_waiting 10 (.iconst 0) 1 11 := ⟨by decide +kernel, rfl⟩
theorem d_R_waiting_11 : kI m_R_waiting 11 (.istore_n 2) 1 12 := ⟨by decide +kernel, rfl⟩
theorem d_R_waiting_12 : kI m_R_waiting 12 (.iconst 0) 1 13 := ⟨by decide +kernel, rfl⟩
theorem d_R_waiting_13 : kI m_R_waiting 13 (.istore_n 3) 1 14 := ⟨by decide +kernel, rfl⟩
theorem d_R_waiting_14 : kI m_R_waiting 14 (.iload_n 3) 1 15 := ⟨by decide +kernel, rfl⟩
theorem d_R_waiting_15 : kI m_R_waiting 15 (.bipush 8) 2 17 := ⟨by decide +kernel, rfl⟩
theorem d_R_waiting_17 : kJ m_R_waiting 17 (.if_icmp .ge 26) 26 20 43 := ⟨by decide +kernel, rfl, by decide⟩
theorem d_R_waiting_20 : kI m_R_waiting 20 (.iload_n 2) 1 21 := ⟨by decide +kernel, rfl⟩
theorem d_R_waiting_21 : kI m_R_waiting 21 (.aload_n 0) 1 22 := ⟨by decide +kernel, rfl⟩
theorem d_R_waiting_22 : kI m_R_waiting 22 (.iload_n 3) 1 23 := ⟨by decide +kernel, rfl⟩
theorem d_R_waiting_23 : kI m_R_waiting 23 (.iload_n 1) 1 24 := ⟨by decide +kernel, rfl⟩
theorem d_R_waiting_24 : kI m_R_waiting 24 (.invokevirtual 145) 3 27 := ⟨by decide +kernel, rfl⟩
theorem d_R_waiting_27 : kJ m_R_waiting 27 (.ifCond .eq 7) 7 30 34 := ⟨by decide +kernel, rfl, by decide⟩
theorem d_R_waiting_30 : kI m_R_waiting 30 (.iconst 1) 1 31 := ⟨by decide +kernel, rfl⟩
theorem d_R_waiting_31 : kJ m_R_waiting 31 (.goto 4) 4 34 35 := ⟨by decide +kernel, rfl, by decide⟩
theorem d_R_waiting_34 : kI m_R_waiting 34 (.iconst 0) 1 35 := ⟨by decide +kernel, rfl⟩
theorem d_R_waiting_35 : kI m_R_waiting 35 .iadd 1 36 := ⟨by decide +kernel, rfl⟩
theorem d_R_waiting_36 : kI m_R_waiting 36 (.istore_n 2) 1 37 := ⟨by decide +kernel, rfl⟩
theorem d_R_waiting_37 : kI m_R_waiting 37 (.iinc 3 1) 3 40 := ⟨by decide +kernel, rfl⟩
theorem d_R_waiting_40 : kJ m_R_waiting 40 (.goto (-26)) (-26) 43 14 := ⟨by decide +kernel, rfl, by decide⟩
theorem d_R_waiting_43 : kI m_R_waiting 43 (.iload_n 2) 1 44 := ⟨by decide +kernel, rfl⟩
theorem d_R_waiting_44 : kI m_R_waiting 44 .ireturn 1 45 := ⟨by decide +kernel, rfl⟩
theorem d_R_word_0 : kI m_R_word 0 (.iload_n 1) 1 1 := ⟨by decide +kernel, rfl⟩
theorem d_R_word_1 : kJ m_R_word 1 (.ifCond .lt 9) 9 4 10 := ⟨by decide +kernel, rfl, by decide⟩
theorem d_R_word_4 : kI m_R_word 4 (.iload_n 1) 1 5 := ⟨by decide +kernel, rfl⟩
theorem d_R_word_5 : kI m_R_word 5 (.bipush 15) 2 7 := ⟨by decide +kernel, rfl⟩
theorem d_R_word_7 : kJ m_R_word 7 (.if_icmp .le 7) 7 10 14 := ⟨by decide +kernel, rfl, by decide⟩
theorem d_R_word_10 : kI m_R_word 10 (.iconst 0) 1 11 := ⟨by decide +kernel, rfl⟩
theorem d_R_word_11 : kJ m_R_word 11 (.goto 9) 9 14 20 := ⟨by decide +kernel, rfl, by decide⟩
theorem d_R_word_14 : kI m_R_word 14 (.aload_n 0) 1 15 := ⟨by decide +kernel, rfl⟩
theorem d_R_word_15 : kI m_R_word 15 (.getfield 80) 3 18 := ⟨by decide +kernel, rfl⟩
theorem d_R_word_18 : kI m_R_word 18 (.iload_n 1) 1 19 := ⟨by decide +kernel, rfl⟩
theorem d_R_word_19 : kI m_R_word 19 .iaload 1 20 := ⟨by decide +kernel, rfl⟩
theorem d_R_word_20 : kI m_R_word 20 .ireturn 1 21 := ⟨by decide +kernel, rfl⟩
end
section
section KCW
/-- the class's cells: 0 the kernel, 1 its threads, 2 its mappings, 3 words, 4 level, 5 frame, 6 depth, 7 parent, 8 + i thread i, 16 + i its registers -/
abbrev lyC : kLy := (24,
  fun k => if k = 0 then 0 else if k = 1 then 12 else if k = 2 then 1 else if k < 8 then 10 else if k < 16 then 2 else 10,
  fun k => if k = 0 then 5 else if k = 1 then 8 else if k = 2 then 4 else if k = 3 then 16 else if k < 8 then 96 else if k < 16 then 19 else 4,
  fun k j => if k = 0 then (if j < 3 then some (j + 1) else none) else if k = 1 then some (8 + j) else if k = 2 then some (4 + j) else if k < 8 then none else if k < 16 then (if j = 1 then some (k + 8) else none) else none)
/-- the reference's cells: 0 the object, then its arrays in their order -/
abbrev lyR : kLy := (25,
  fun k => if k = 0 then 3 else if k = 1 then 11 else if k = 7 then 11 else if k = 18 then 11 else 10,
  fun k => if k = 0 then 26 else if k = 4 then 32 else if k < 20 then 8 else if k < 24 then 96 else 16,
  fun k j => if k = 0 then (if j < 2 then none else some (j - 1)) else none)
theorem kdT {i : Nat} (hi : i < 8) : lyC.2.1 (8 + i) = 2 := by
  show (if 8 + i = 0 then 0 else if 8 + i = 1 then 12 else if 8 + i = 2 then 1 else if 8 + i < 8 then 10 else if 8 + i < 16 then 2 else 10) = 2
  rw [if_neg (by omega), if_neg (by omega), if_neg (by omega), if_neg (by omega), if_pos (by omega)]
theorem lnT {i : Nat} (hi : i < 8) : lyC.2.2.1 (8 + i) = 19 := by
  show (if 8 + i = 0 then 5 else if 8 + i = 1 then 8 else if 8 + i = 2 then 4 else if 8 + i = 3 then 16 else if 8 + i < 8 then 96 else if 8 + i < 16 then 19 else 4) = 19
  rw [if_neg (by omega), if_neg (by omega), if_neg (by omega), if_neg (by omega), if_neg (by omega), if_pos (by omega)]
theorem rfT {i j : Nat} (hi : i < 8) (hj : j ≠ 1) : lyC.2.2.2 (8 + i) j = none := by
  show (if 8 + i = 0 then (if j < 3 then some (j + 1) else none) else if 8 + i = 1 then some (8 + j) else if 8 + i = 2 then some (4 + j) else if 8 + i < 8 then none else if 8 + i < 16 then (if j = 1 then some (8 + i + 8) else none) else none) = none
  rw [if_neg (by omega), if_neg (by omega), if_neg (by omega), if_neg (by omega), if_pos (by omega), if_neg hj]
theorem rfT1 {i : Nat} (hi : i < 8) : lyC.2.2.2 (8 + i) 1 = some (16 + i) := by
  show (if 8 + i = 0 then (if 1 < 3 then some (1 + 1) else none) else if 8 + i = 1 then some (8 + 1) else if 8 + i = 2 then some (4 + 1) else if 8 + i < 8 then none else if 8 + i < 16 then (if 1 = 1 then some (8 + i + 8) else none) else none) = some (16 + i)
  rw [if_neg (by omega), if_neg (by omega), if_neg (by omega), if_neg (by omega), if_pos (by omega), if_pos rfl]
  congr 1
  omega
theorem kdR {i : Nat} : lyC.2.1 (16 + i) = 10 := by
  show (if 16 + i = 0 then 0 else if 16 + i = 1 then 12 else if 16 + i = 2 then 1 else if 16 + i < 8 then 10 else if 16 + i < 16 then 2 else 10) = 10
  rw [if_neg (by omega), if_neg (by omega), if_neg (by omega), if_neg (by omega), if_neg (by omega)]
theorem lnR {i : Nat} : lyC.2.2.1 (16 + i) = 4 := by
  show (if 16 + i = 0 then 5 else if 16 + i = 1 then 8 else if 16 + i = 2 then 4 else if 16 + i = 3 then 16 else if 16 + i < 8 then 96 else if 16 + i < 16 then 19 else 4) = 4
  rw [if_neg (by omega), if_neg (by omega), if_neg (by omega), if_neg (by omega), if_neg (by omega), if_neg (by omega)]
def bI (b : Bool) : Int32 := if b = true then 1 else 0
abbrev ix (v : Int32) : Nat := v.toNatClampNeg
theorem kup_o {u : kSt} {k j a b : Nat} {v : Int32} (h : a ≠ k) : kup u k j v a b = u a b := by simp [kup, h]
theorem kup_j {u : kSt} {k j a b : Nat} {v : Int32} (h : b ≠ j) : kup u k j v a b = u a b := by simp [kup, h]
theorem ix0 : ix 0 = 0 := by decide
theorem ix1 : ix 1 = 1 := by decide
theorem ix2 : ix 2 = 2 := by decide
theorem ix3 : ix 3 = 3 := by decide
theorem nb_bI (b : Bool) : narrow .boolean (.int (bI b)) = .int (bI b) := by cases b <;> rfl
theorem bI_0 (b : Bool) : bI b = 0 ↔ b = false := by cases b <;> decide
theorem bI_n0 (b : Bool) : ¬ bI b = 0 ↔ b = true := by cases b <;> decide
/-- a place within a row, by its two comparisons; by its number -/
theorem vin {v : Int32} {n : Nat} {m : Int32} (h0 : ¬ v < 0) (h1 : ¬ m ≤ v) (hm : m.toInt = n := by decide) : vp_in v n := by
  rw [vp_in_iff]
  rw [Int32.lt_iff_toInt_lt, Int32.toInt_zero] at h0
  rw [Int32.le_iff_toInt_le, hm] at h1
  omega
theorem vin_le {v : Int32} {n : Nat} {m : Int32} (h0 : ¬ v < 0) (h1 : ¬ m < v) (hm : m.toInt + 1 = n := by decide) : vp_in v n := by
  rw [vp_in_iff]
  rw [Int32.lt_iff_toInt_lt, Int32.toInt_zero] at h0
  rw [Int32.lt_iff_toInt_lt] at h1
  omega
theorem vin_n {k n : Nat} (h : k < n) (hn : n < 2 ^ 31 := by decide) : vp_in (nI k) n := vp_in_nI h hn
theorem vin_lt {v : Int32} {n : Nat} (h : vp_in v n) : ix v < n := Nat.not_le.mp fun q => h (Or.inr q)
theorem vin_eq {v : Int32} {n : Nat} (h : vp_in v n) (hn : n < 2 ^ 31 := by decide) : v = nI (ix v) := by
  obtain ⟨j, hj, rfl⟩ := vp_in_of h hn
  rw [show ix (nI j) = j from nI_clamp (by omega)]
theorem ix_nI {n : Nat} (h : n < 2 ^ 31) : ix (nI n) = n := nI_clamp h
section
variable {X : Type} {w : kW X} {mt : kMT} {d pc q t : Nat} {L : List (Option Value)} {S : List Value} {x x' : X} {r : Option Value}
theorem KAt.to {r' : Option Value} {z : X} (h : KAt w mt d pc L S x r x') (hr : r = r') (hx : x' = z) : KAt w mt d pc L S x r' z := hr ▸ hx ▸ h
theorem k_forget (i : Nat) (h : KAt w mt d pc (L.set i none) S x r x') : KAt w mt d pc L S x r x' := by
  intro p e R s m args below meth c H locs cells slots ls A hk hB hS hl
  refine h _ _ _ _ _ _ _ _ _ _ _ _ _ _ _ hk hB hS ⟨hl.1, hl.2.1, fun j v hj => ?_⟩
  by_cases hij : j = i
  · subst hij
    by_cases hlt : j < L.length
    · rw [List.getElem?_set_self hlt] at hj
      cases hj
    · rw [List.getElem?_eq_none (by simpa using hlt)] at hj
      cases hj
  · rw [List.getElem?_set_ne (Ne.symm hij)] at hj
    exact hl.2.2 j v hj
theorem k_if_eqB {b : Bool} {off : Int} (hd : kJ mt pc (.ifCond .eq off) off q t) (kt : b = false → KAt w mt d t L S x r x') (kf : b = true → KAt w mt d q L S x r x') : KAt w mt d pc L (.int (bI b) :: S) x r x' :=
  k_if_eq hd (fun h => kt ((bI_0 b).mp h)) (fun h => kf ((bI_n0 b).mp h))
theorem k_if_neB {b : Bool} {off : Int} (hd : kJ mt pc (.ifCond .ne off) off q t) (kt : b = true → KAt w mt d t L S x r x') (kf : b = false → KAt w mt d q L S x r x') : KAt w mt d pc L (.int (bI b) :: S) x r x' :=
  k_if_ne hd (fun h => kt ((bI_n0 b).mp h)) (fun h => kf ((bI_0 b).mp h))
theorem k_inc1 {i : Nat} {v : Int32} (hd : kI mt pc (.iinc i 1) 3 q) (hl : L[i]? = some (some (.int v))) (hn : i < mt.2.2.1) (kk : KAt w mt d q (L.set i (some (.int (v + 1)))) S x r x') : KAt w mt d pc L S x r x' :=
  k_iinc hd hl rfl hn kk
theorem k_incN {i n : Nat} (hd : kI mt pc (.iinc i 1) 3 q) (hl : L[i]? = some (some (.int (nI n)))) (hn : i < mt.2.2.1) (kk : KAt w mt d q (L.set i (some (.int (nI (n + 1))))) S x r x') : KAt w mt d pc L S x r x' :=
  k_iinc hd hl (nI_1 n) hn kk
theorem k_dec1 {i : Nat} {v : Int32} (hd : kI mt pc (.iinc i (-1)) 3 q) (hl : L[i]? = some (some (.int v))) (hn : i < mt.2.2.1) (kk : KAt w mt d q (L.set i (some (.int (v + (-1))))) S x r x') : KAt w mt d pc L S x r x' :=
  k_iinc hd hl rfl hn kk
theorem k_decN {i n : Nat} (hd : kI mt pc (.iinc i (-1)) 3 q) (hl : L[i]? = some (some (.int (nI (n + 1))))) (hn : i < mt.2.2.1) (kk : KAt w mt d q (L.set i (some (.int (nI n)))) S x r x') : KAt w mt d pc L S x r x' :=
  k_iinc hd hl (pk_m1 n) hn kk
end
section
variable {ly : kLy} {l : Launch} {D : va_G} {cI cB cT : ClassId} {ad : Nat → Nat} {mt : kMT} {d pc q : Nat} {L : List (Option Value)} {S : List Value} {u u' : kSt} {r : Option Value}
/-- an array's place by its number -/
theorem k_ialdN {k j n : Nat} (hd : kI mt pc .iaload 1 q) (hk : k < ly.1) (hkd : ly.2.1 k = 10) (hn : ly.2.2.1 k = n) (hj : j < n) (hb : n < 2 ^ 31) (kk : KAt (kWl ly l D cI cB cT ad) mt d q L (.int (u k j) :: S) u r u') : KAt (kWl ly l D cI cB cT ad) mt d pc L (.int (nI j) :: .ref k :: S) u r u' :=
  k_iald hd hk hkd (by rw [hn]; exact vp_in_nI hj hb) (by rw [nI_clamp (by omega)]; exact kk)
theorem k_baldN {k j n : Nat} (hd : kI mt pc .baload 1 q) (hk : k < ly.1) (hkd : ly.2.1 k = 11) (hn : ly.2.2.1 k = n) (hj : j < n) (hb : n < 2 ^ 31) (kk : KAt (kWl ly l D cI cB cT ad) mt d q L (.int (u k j) :: S) u r u') : KAt (kWl ly l D cI cB cT ad) mt d pc L (.int (nI j) :: .ref k :: S) u r u' :=
  k_bald hd hk hkd (by rw [hn]; exact vp_in_nI hj hb) (by rw [nI_clamp (by omega)]; exact kk)
theorem k_iastN {k j n : Nat} {v : Int32} (hd : kI mt pc .iastore 1 q) (hk : k < ly.1) (hkd : ly.2.1 k = 10) (hn : ly.2.2.1 k = n) (hj : j < n) (hb : n < 2 ^ 31) (kk : KAt (kWl ly l D cI cB cT ad) mt d q L S (kup u k j v) r u') : KAt (kWl ly l D cI cB cT ad) mt d pc L (.int v :: .int (nI j) :: .ref k :: S) u r u' :=
  k_iast hd hk hkd (by rw [hn]; exact vp_in_nI hj hb) (by rw [nI_clamp (by omega)]; exact kk)
theorem k_bastN {k j n : Nat} {v : Int32} (hd : kI mt pc .bastore 1 q) (hk : k < ly.1) (hkd : ly.2.1 k = 11) (hn : ly.2.2.1 k = n) (hj : j < n) (hb : n < 2 ^ 31) (hv : vp_nar .boolean v = v) (kk : KAt (kWl ly l D cI cB cT ad) mt d q L S (kup u k j v) r u') : KAt (kWl ly l D cI cB cT ad) mt d pc L (.int v :: .int (nI j) :: .ref k :: S) u r u' :=
  k_bast hd hk hkd (by rw [hn]; exact vp_in_nI hj hb) hv (by rw [nI_clamp (by omega)]; exact kk)
end
/-- Math.min -/
def kMin (own : String) (idx : Nat) : Prop := Cond.methodLink own idx Lib.Math.min.name ∈ kWS ∧ Cond.static Lib.Math.min.name ∈ kWS ∧ Cond.initialized "java/lang/Math" ∈ kWS ∧ Cond.code Lib.Math.min.name Lib.Math.min.code 2 (some .int) ∈ kWS
theorem lm_P_43 : kMin "PagerKernel$MappingTree" 43 := ⟨(kIn 280 (by decide +kernel) rfl), (kIn 281 (by decide +kernel) rfl), (kIn 38 (by decide +kernel) rfl), (kIn 282 (by decide +kernel) rfl)⟩
theorem k_min {X : Type} {w : kW X} {mt : kMT} {d pc q : Nat} {L : List (Option Value)} {S : List Value} {x x' : X} {r : Option Value} {idx : Nat} {a b : Int32} (hd : kI mt pc (.invokestatic idx) 3 q) (hm : kMin mt.1 idx) (hr : (S.map fun v => v.category).sum ≤ 8) (k : KAt w mt (d + 1) q L (.int (if b < a then b else a) :: S) x r x') : KAt w mt (d + 1) pc L (.int b :: .int a :: S) x r x' := by
  intro p e R s m args below meth c H locs cells slots ls A h hB hS hl
  obtain ⟨h1, h2, h3, h4⟩ := hm
  have hts := h.1.2.2.2.2
  have hfr := h.2.2.2.2.1
  have hcs := h.2.2.2.2.2.1
  have hr2 : ((S.map (cv (kwA w))).map fun v => v.category).sum ≤ 8 := by
    rw [List.map_map]
    have : ((fun v : Value => v.category) ∘ cv (kwA w)) = fun v => v.category := funext fun v => cv_cat _ v
    rw [this]
    exact hr
  refine va_mmin h.1.1 h.1.2.1 (h.1.2.2.1.trans hl.1.symm) h.1.2.2.2.1 (hts _ h1) (hts _ h2) (hts _ h3) (hts _ h4) (by omega) (by omega) hcs.1 hcs.2 hd.1 ?_
  rw [hd.2]
  exact k _ _ _ _ _ _ _ _ _ _ _ _ _ _ _ h hB hS hl
section
variable {l : Launch} {D : va_G} {cI cB cT : ClassId} {ad : Nat → Nat} {mt : kMT} {d pc q : Nat} {L : List (Option Value)} {S : List Value} {u u' : kSt} {r : Option Value}
theorem cT_get {i j idx : Nat} (hd : kI mt pc (.getfield idx) 3 q) (hf : kF mt.1 idx 2 j) (hi : i < 8) (hj : j ≠ 1) (hj2 : j < 19) (kk : KAt (kWl lyC l D cI cB cT ad) mt d q L (.int (u (8 + i) j) :: S) u r u') : KAt (kWl lyC l D cI cB cT ad) mt d pc L (.ref (8 + i) :: S) u r u' :=
  k_getf hd hf (by show 8 + i < 24; omega) (kdT hi) (by decide) (by rw [lnT hi]; exact hj2) (rfT hi hj) kk
theorem cT_num {i idx : Nat} (hd : kI mt pc (.getfield idx) 3 q) (hf : kF mt.1 idx 2 0) (hi : i < 8) (hn : u (8 + i) 0 = nI i) (kk : KAt (kWl lyC l D cI cB cT ad) mt d q L (.int (nI i) :: S) u r u') : KAt (kWl lyC l D cI cB cT ad) mt d pc L (.ref (8 + i) :: S) u r u' :=
  cT_get hd hf hi (by decide) (by decide) (by rw [hn]; exact kk)
theorem cT_reg {i idx : Nat} (hd : kI mt pc (.getfield idx) 3 q) (hf : kF mt.1 idx 2 1) (hi : i < 8) (kk : KAt (kWl lyC l D cI cB cT ad) mt d q L (.ref (16 + i) :: S) u r u') : KAt (kWl lyC l D cI cB cT ad) mt d pc L (.ref (8 + i) :: S) u r u' :=
  k_getr hd hf (by show 8 + i < 24; omega) (kdT hi) (by decide) (by rw [lnT hi]; decide) (rfT1 hi) kk
theorem cT_put {i j idx : Nat} {ty : FieldType} {v : Int32} (hd : kI mt pc (.putfield idx) 3 q) (hf : kFp mt.1 idx 2 j ty) (hi : i < 8) (hj : j ≠ 1) (hj2 : j < 19) (hn : narrow ty (.int v) = .int v) (hfit : fits ty (.int v) = true) (kk : KAt (kWl lyC l D cI cB cT ad) mt d q L S (kup u (8 + i) j v) r u') : KAt (kWl lyC l D cI cB cT ad) mt d pc L (.int v :: .ref (8 + i) :: S) u r u' :=
  k_putf hd hf (by show 8 + i < 24; omega) (kdT hi) (by decide) (by rw [lnT hi]; exact hj2) (rfT hi hj) hn hfit kk
theorem cR_ald {i : Nat} {v : Int32} (hd : kI mt pc .iaload 1 q) (hi : i < 8) (hin : vp_in v 4) (kk : KAt (kWl lyC l D cI cB cT ad) mt d q L (.int (u (16 + i) (ix v)) :: S) u r u') : KAt (kWl lyC l D cI cB cT ad) mt d pc L (.int v :: .ref (16 + i) :: S) u r u' :=
  k_iald hd (by show 16 + i < 24; omega) kdR (by rw [lnR]; exact hin) kk
theorem cR_ast {i : Nat} {v z : Int32} (hd : kI mt pc .iastore 1 q) (hi : i < 8) (hin : vp_in v 4) (kk : KAt (kWl lyC l D cI cB cT ad) mt d q L S (kup u (16 + i) (ix v) z) r u') : KAt (kWl lyC l D cI cB cT ad) mt d pc L (.int z :: .int v :: .ref (16 + i) :: S) u r u' :=
  k_iast hd (by show 16 + i < 24; omega) kdR (by rw [lnR]; exact hin) kk
theorem cA_ald {v : Int32} (hd : kI mt pc .aaload 1 q) (hin : vp_in v 8) (kk : ix v < 8 → KAt (kWl lyC l D cI cB cT ad) mt d q L (.ref (8 + ix v) :: S) u r u') : KAt (kWl lyC l D cI cB cT ad) mt d pc L (.int v :: .ref 1 :: S) u r u' :=
  k_aald (t := 8 + ix v) hd (by decide) rfl hin rfl (kk (vin_lt hin))
theorem cA_aldN {k : Nat} (hd : kI mt pc .aaload 1 q) (hk : k < 8) (kk : KAt (kWl lyC l D cI cB cT ad) mt d q L (.ref (8 + k) :: S) u r u') : KAt (kWl lyC l D cI cB cT ad) mt d pc L (.int (nI k) :: .ref 1 :: S) u r u' :=
  cA_ald hd (vin_n hk) (fun _ => by rw [ix_nI (by omega)]; exact kk)
theorem rcvP : kRcv (kWl lyC l D cI cB cT ad) u 2 "PagerKernel$MappingTree" := kRcv_of (T := F_P) (N := 4) (by decide) rfl (by decide) rfl
theorem rcvK : kRcv (kWl lyC l D cI cB cT ad) u 0 "PagerKernel" := kRcv_of (T := F_K) (N := 5) (by decide) rfl (by decide) rfl
theorem rcvR : kRcv (kWl lyR l D cI cB cT ad) u 0 "PagerKernelModel" := kRcv_of (T := F_R) (N := 26) (by decide) rfl (by decide) rfl
theorem rcvT {i : Nat} (hi : i < 8) : kRcv (kWl lyC l D cI cB cT ad) u (8 + i) "PagerKernel$KernelThread" :=
  kRcv_of (T := F_H) (N := 19) (by show 8 + i < 24; omega) (kdT hi) (by decide) rfl
end
end KCW
end
section
section KPC
/-! The class as pure steps. Cells: 0 the kernel (3 now, 4 arrivals), 3 words, 4 level, 5 frame, 6 depth, 7 parent, 8 + i thread i, 16 + i its registers.
A thread's places: 0 number, 2 state, 3 space, 4 pager, 5 offerPage, 6 offerLevel, 7 offerGrant, 8 windowPage, 9 lastOutcome, 10 lastSender, 11 lastValue, 12 messagesTaken, 13 partner, 14 deadline, 15 arrival, 16 wantedPage, 17 wantedLevel, 18 wantedWord -/
-- a thread's row
def cRun (u : kSt) (i : Nat) (o : Int32) : kSt := kup (kup u (8 + i) 2 0) (8 + i) 9 o
def cWait (u : kSt) (i : Nat) (st pa dl : Int32) : kSt := kup (kup (kup u (8 + i) 2 st) (8 + i) 13 pa) (8 + i) 14 dl
def cTake (u : kSt) (i : Nat) (s a b c e : Int32) : kSt := kup (kup (kup (kup (kup (kup u (16 + i) 0 a) (16 + i) 1 b) (16 + i) 2 c) (16 + i) 3 e) (8 + i) 10 s) (8 + i) 12 (u (8 + i) 12 + 1)
def cClear (u : kSt) (i : Nat) : Nat → kSt
  | 0 => u
  | n + 1 => kup (cClear u i n) (16 + i) n 0
def cBegin (u : kSt) (i : Nat) (sp pg : Int32) : kSt := kup (kup (kup (kup (kup (kup (kup (kup (kup (cClear u i 4) (8 + i) 2 0) (8 + i) 3 sp) (8 + i) 4 pg) (8 + i) 5 (-1)) (8 + i) 8 (-1)) (8 + i) 9 0) (8 + i) 10 (-1)) (8 + i) 11 0) (8 + i) 12 0
def cWaits (u : kSt) (i : Nat) : Bool := if u (8 + i) 2 = 1 then true else if u (8 + i) 2 = 2 then true else if u (8 + i) 2 = 3 then true else false
def cWaitsTo (u : kSt) (i : Nat) (t : Int32) : Bool := if u (8 + i) 2 = 1 ∨ u (8 + i) 2 = 3 ∨ u (8 + i) 2 = 4 then (if u (8 + i) 13 = t then true else false) else false
def cRecv (u : kSt) (i : Nat) (t : Int32) : Bool := if u (8 + i) 2 = 2 then (if u (8 + i) 13 = -1 then true else if u (8 + i) 13 = t then true else false) else false
def cTakes (u : kSt) (i : Nat) (t : Int32) : Bool := if cRecv u i t = true then true else if u (8 + i) 2 = 5 then (if u (8 + i) 13 = t then true else false) else false
def cOut1 (u : kSt) (i : Nat) (t : Int32) : kSt := if cWaits u i = true ∧ u (8 + i) 13 = t then cRun u i 2 else u
def cOut2 (u : kSt) (i : Nat) (t : Int32) : kSt := if u (8 + i) 4 = t then (if u (8 + i) 2 = 4 ∨ u (8 + i) 2 = 5 then kup (kup u (8 + i) 4 (-1)) (8 + i) 2 6 else kup u (8 + i) 4 (-1)) else u
def cOutlive (u : kSt) (i : Nat) (t : Int32) : kSt := cOut2 (cOut1 u i t) i t
-- the mappings
def cHolds (u : kSt) (k : Nat) : Bool := if u 4 k = 0 then false else true
def cDescribe (u : kSt) (k : Nat) : Int32 := if cHolds u k = true then 1000 * u 6 k + 10 * u 5 k + u 4 k else -1
/-- the rows of parents and depths are in their ranges -/
def cPar (u : kSt) : Prop := ∀ j, j < 96 → u 7 j = -1 ∨ ∃ p, p < 96 ∧ u 7 j = nI p
def cDep (u : kSt) : Prop := ∀ j, j < 96 → ∃ e, e ≤ 12 ∧ u 6 j = nI e
/-- n steps upward at most, from slot a, to the slot z -/
def cUp (u : kSt) (z : Int32) : Nat → Int32 → Bool
  | 0, _ => false
  | n + 1, a => if a = -1 then false else if u 7 (ix a) = z then true else cUp u z n (u 7 (ix a))
def cDesc (u : kSt) (k : Nat) (z : Int32) : Bool := cUp u z (ix (u 6 k)) (nI k)
def cCount (u : kSt) (z : Int32) : Nat → Int32
  | 0 => 0
  | n + 1 => if cHolds u n = true ∧ cDesc u n z = true then cCount u z n + 1 else cCount u z n
def cLower (u : kSt) (k : Nat) (m : Int32) : kSt := if m < u 4 k then kup u 4 k m else u
def cLowerN (u : kSt) (k : Nat) (m : Int32) : Int32 := if m < u 4 k then 1 else 0
/-- the slots below n lowered, if they descend from z -/
def cLow (u : kSt) (z m : Int32) : Nat → kSt
  | 0 => u
  | n + 1 => if cHolds (cLow u z m n) n = true ∧ cDesc (cLow u z m n) n z = true then cLower (cLow u z m n) n m else cLow u z m n
def cLowN (u : kSt) (z m : Int32) : Nat → Int32
  | 0 => 0
  | n + 1 => if cHolds (cLow u z m n) n = true ∧ cDesc (cLow u z m n) n z = true then cLowN u z m n + cLowerN (cLow u z m n) n m else cLowN u z m n
/-- the slots below n whose parent was z get the parent t -/
def cAdopt (u : kSt) (z t : Int32) : Nat → kSt
  | 0 => u
  | n + 1 => if cHolds (cAdopt u z t n) n = true ∧ cAdopt u z t n 7 n = z then kup (cAdopt u z t n) 7 n t else cAdopt u z t n
def cMove (u : kSt) (s t : Nat) : kSt := kup (cAdopt (kup (kup (kup (kup u 4 t (u 4 s)) 5 t (u 5 s)) 6 t (u 6 s)) 7 t (u 7 s)) (nI s) (nI t) 96) 4 s 0
def cDerive (u : kSt) (s t : Nat) (m : Int32) : kSt := kup (kup (kup (kup u 4 t m) 5 t (u 5 s)) 6 t (u 6 s + 1)) 7 t (nI s)
def cClean (u : kSt) (t : Nat) : kSt := if cHolds u t = true then cLower (cLow u (nI t) 0 96) t 0 else u
def cHand2 (u : kSt) (s t : Nat) (m g : Int32) : kSt := if cHolds u s = true then (if g ≠ 0 then cMove u s t else if 12 ≤ u 6 s then u else cDerive u s t (if u 4 s < m then u 4 s else m)) else u
def cHandOn (u : kSt) (s t : Nat) (m g : Int32) : kSt := if s = t then u else if cHolds u s = true then cHand2 (cClean u t) s t m g else u
-- the kernel
def cIsThread (u : kSt) (t : Int32) : Bool := if t < 0 then false else if 8 ≤ t then false else if u (8 + ix t) 2 = -1 then false else true
def cIsRun (u : kSt) (t : Int32) : Bool := if cIsThread u t = true then (if u (8 + ix t) 2 = 0 then true else false) else false
def cIsLimit (n : Int32) : Bool := if n < -1 then false else if 100 < n then false else true
def cMaySend (u : kSt) (t o n : Int32) : Bool := if cIsRun u t = true then (if o = t then false else if cIsThread u o = true then (if cIsLimit n = true then true else false) else false) else false
def cIsSpace (n : Int32) : Bool := if n < 0 then false else if 6 ≤ n then false else true
def cIsPage (n : Int32) : Bool := if n < 0 then false else if 16 ≤ n then false else true
def cIsPageN (n : Int32) : Bool := if n = -1 then true else if cIsPage n = true then true else false
def cIsLevel (n : Int32) : Bool := if n = 1 then true else if n = 2 then true else false
def cDeadline (u : kSt) (n : Int32) : Int32 := if n = -1 then -1 else u 0 3 + n
/-- the least number from n on that is free, of the last m ones -/
def cFree (u : kSt) : Nat → Nat → Int32
  | _, 0 => -1
  | n, m + 1 => if u (8 + n) 2 = -1 then nI n else cFree u (n + 1) m
def cJoin (u : kSt) (i : Nat) (st tg dl : Int32) : kSt := cWait (kup (kup u (8 + i) 15 (u 0 4)) 0 4 (u 0 4 + 1)) i st tg dl
def cGiveUp (u : kSt) (i : Nat) : kSt := cRun u i 1
def cWaitSend (u : kSt) (i : Nat) (st o n : Int32) : kSt := if n = 0 then cRun u i 1 else cJoin u i st o (cDeadline u n)
def cWaitSendN (n : Int32) : Int32 := if n = 0 then 2 else 1
def cPassFault (u : kSt) (f g : Nat) : kSt := cRun (cWait (cTake u g (nI f) (u (8 + f) 16) (u (8 + f) 17) 0 0) f 5 (nI g) (-1)) g 0
def cFault (u : kSt) (f g : Nat) : kSt := if cRecv (cJoin u f 4 (nI g) (-1)) g (nI f) = true then cPassFault (cJoin u f 4 (nI g) (-1)) f g else cJoin u f 4 (nI g) (-1)
def cDoAccess (u : kSt) (i fr : Nat) : kSt := if u (8 + i) 17 = 2 then cRun (kup u 3 fr (u (8 + i) 18)) i 0 else cRun (kup u (8 + i) 11 (u 3 fr)) i 0
/-- the slot of page p of a space -/
def sl (sp p : Int32) : Nat := ix (sp * 16 + p)
def cTry (u : kSt) (i : Nat) : kSt := if u 4 (sl (u (8 + i) 3) (u (8 + i) 16)) < u (8 + i) 17 then (if u (8 + i) 4 = -1 then kup u (8 + i) 2 6 else cFault u i (ix (u (8 + i) 4))) else cDoAccess u i (ix (u 5 (sl (u (8 + i) 3) (u (8 + i) 16))))
def cPage (u : kSt) (g : Nat) : Int32 := if u (8 + g) 2 = 5 then u (8 + g) 16 else u (8 + g) 8
def cOffer1 (u : kSt) (f g : Nat) : kSt := if u (8 + f) 5 = -1 then u else if cPage u g = -1 then u else cHandOn u (sl (u (8 + f) 3) (u (8 + f) 5)) (sl (u (8 + g) 3) (cPage u g)) (u (8 + f) 6) (u (8 + f) 7)
def cOffer (u : kSt) (f g : Nat) : kSt := kup (cOffer1 u f g) (8 + f) 5 (-1)
def cPass3 (u : kSt) (g : Nat) (rests : Bool) : kSt := if rests = true then cTry u g else cRun u g 0
def cPass2 (u : kSt) (f g : Nat) (calls : Int32) : kSt := if calls = 0 then cRun u f 0 else cWait u f 2 (nI g) (-1)
def cPass1 (u : kSt) (f g : Nat) : kSt := if u (8 + g) 2 = 5 then u else cTake u g (nI f) (u (16 + f) 0) (u (16 + f) 1) (u (16 + f) 2) (u (16 + f) 3)
def cPass (u : kSt) (f g : Nat) (calls : Int32) : kSt := cPass3 (cPass2 (cOffer (cPass1 u f g) f g) f g calls) g (decide (u (8 + g) 2 = 5))
def cTakeW (u : kSt) (f g : Nat) : kSt := if u (8 + f) 2 = 4 then cPassFault u f g else cPass u f g (if u (8 + f) 2 = 3 then 1 else 0)
/-- of the threads n, n + 1, .. (m of them) and the first one so far: the one that has waited for longest -/
def cLong (u : kSt) (t fr : Int32) : Nat → Nat → Option Nat → Option Nat
  | _, 0, b => b
  | n, m + 1, b => if (fr = -1 ∨ fr = nI n) ∧ cWaitsTo u n t = true then (match b with
      | none => cLong u t fr (n + 1) m (some n)
      | some k => if u (8 + k) 15 ≤ u (8 + n) 15 then cLong u t fr (n + 1) m (some k) else cLong u t fr (n + 1) m (some n)) else cLong u t fr (n + 1) m b
-- the calls: the answer, the state
def cSpawn (u : kSt) (sp pg : Int32) : Int32 × kSt := if cIsSpace sp = true then (if pg = -1 ∨ cIsThread u pg = true then (if cFree u 0 8 = -1 then (-1, u) else (cFree u 0 8, cBegin u (ix (cFree u 0 8)) sp pg)) else (-1, u)) else (-1, u)
def cOutAll (u : kSt) (t : Int32) : Nat → kSt
  | 0 => u
  | n + 1 => cOutlive (cOutAll u t n) n t
def cDelete (u : kSt) (t : Int32) : Int32 × kSt := if t = 0 then (0, u) else if cIsThread u t = true then (1, cOutAll (kup u (8 + ix t) 2 (-1)) t 8) else (0, u)
def cLoad (u : kSt) (t k v : Int32) : Int32 × kSt := if cIsRun u t = true then (if k < 0 then (0, u) else if k < 4 then (1, kup u (16 + ix t) (ix k) v) else (0, u)) else (0, u)
def cOfferCall (u : kSt) (t p m g : Int32) : Int32 × kSt := if cIsRun u t = true then (if cIsPageN p = true then (if p ≠ -1 ∧ cIsLevel m = false then (0, u) else (1, kup (kup (kup u (8 + ix t) 5 p) (8 + ix t) 6 m) (8 + ix t) 7 g)) else (0, u)) else (0, u)
def cWindow (u : kSt) (t p : Int32) : Int32 × kSt := if cIsRun u t = true then (if cIsPageN p = true then (1, kup u (8 + ix t) 8 p) else (0, u)) else (0, u)
def cSend (u : kSt) (t o n : Int32) : Int32 × kSt := if cMaySend u t o n = true then (if cTakes u (ix o) t = true then (0, cPass u (ix t) (ix o) 0) else (cWaitSendN n, cWaitSend u (ix t) 1 o n)) else (-1, u)
def cCall (u : kSt) (t o n : Int32) : Int32 × kSt := if cMaySend u t o n = true then (if cTakes u (ix o) t = true then (1, cPass u (ix t) (ix o) 1) else (cWaitSendN n, cWaitSend u (ix t) 3 o n)) else (-1, u)
def cRec2 (u : kSt) (t e n : Int32) : Int32 × kSt := match cLong u t e 0 8 none with
  | some k => (0, cTakeW u k (ix t))
  | none => if n = 0 then (2, cRun u (ix t) 1) else (1, cWait u (ix t) 2 e (cDeadline u n))
def cReceive (u : kSt) (t fr n : Int32) : Int32 × kSt := if cIsRun u t = true then (if fr = t then (-1, u) else if fr ≠ -1 ∧ cIsThread u fr = false then (-1, u) else if cIsLimit n = true then cRec2 u t fr n else (-1, u)) else (-1, u)
def cWant (u : kSt) (i : Nat) (p st v : Int32) : kSt := kup (kup (kup u (8 + i) 16 p) (8 + i) 17 (if st = 0 then 1 else 2)) (8 + i) 18 v
def cAccess (u : kSt) (t p st v : Int32) : Int32 × kSt := if cIsRun u t = true then (if cIsPage p = true then (if cTry (cWant u (ix t) p st v) (ix t) (8 + ix t) 2 = 0 then 0 else if cTry (cWant u (ix t) p st v) (ix t) (8 + ix t) 2 = 6 then 2 else 1, cTry (cWant u (ix t) p st v) (ix t)) else (-1, u)) else (-1, u)
def cUnmap (u : kSt) (t p m self : Int32) : Int32 × kSt := if cIsRun u t = true then (if cIsPage p = true then (if cIsLevel m = true then (if cHolds u (sl (u (8 + ix t) 3) p) = true then
    (if self = 0 then (cLowN u (nI (sl (u (8 + ix t) 3) p)) (m - 1) 96 + 0, cLow u (nI (sl (u (8 + ix t) 3) p)) (m - 1) 96)
      else (cLowN u (nI (sl (u (8 + ix t) 3) p)) (m - 1) 96 + cLowerN (cLow u (nI (sl (u (8 + ix t) 3) p)) (m - 1) 96) (sl (u (8 + ix t) 3) p) (m - 1), cLower (cLow u (nI (sl (u (8 + ix t) 3) p)) (m - 1) 96) (sl (u (8 + ix t) 3) p) (m - 1)))
    else (0, u)) else (-1, u)) else (-1, u)) else (-1, u)
/-- the first n threads ticked -/
def cTickS (u : kSt) : Nat → kSt
  | 0 => u
  | n + 1 => if cWaits (cTickS u n) n = true ∧ cTickS u n (8 + n) 14 = cTickS u n 0 3 then cRun (cTickS u n) n 1 else cTickS u n
def cTickN (u : kSt) : Nat → Int32
  | 0 => 0
  | n + 1 => if cWaits (cTickS u n) n = true ∧ cTickS u n (8 + n) 14 = cTickS u n 0 3 then cTickN u n + 1 else cTickN u n
def cTick (u : kSt) : Int32 × kSt := (cTickN (kup u 0 3 (u 0 3 + 1)) 8, cTickS (kup u 0 3 (u 0 3 + 1)) 8)
def cState (u : kSt) (t : Int32) : Int32 := if cIsThread u t = true then u (8 + ix t) 2 else -1
def cRegister (u : kSt) (t k : Int32) : Int32 := if cIsThread u t = true then (if k < 0 then 0 else if k ≤ 4 then (if k = 4 then u (8 + ix t) 12 else u (16 + ix t) (ix k)) else 0) else 0
def cOutcome (u : kSt) (t : Int32) : Int32 := if cIsThread u t = true then u (8 + ix t) 9 else -1
def cValue (u : kSt) (t : Int32) : Int32 := if cIsThread u t = true then u (8 + ix t) 11 else 0
def cSender (u : kSt) (t : Int32) : Int32 := if cIsThread u t = true then u (8 + ix t) 10 else -1
def cMapping (u : kSt) (sp p : Int32) : Int32 := if cIsSpace sp = true then (if cIsPage p = true then cDescribe u (sl sp p) else -1) else -1
def cHeirs (u : kSt) (sp p : Int32) : Int32 := if cIsSpace sp = true then (if cIsPage p = true then (if cHolds u (sl sp p) = true then cCount u (nI (sl sp p)) 96 else -1) else -1) else -1
def cWaitCount (u : kSt) (t : Int32) : Nat → Int32
  | 0 => 0
  | n + 1 => if cWaitsTo u n t = true then cWaitCount u t n + 1 else cWaitCount u t n
def cWaiting (u : kSt) (t : Int32) : Int32 := if cIsThread u t = true then cWaitCount u t 8 else -1
def cWord (u : kSt) (f : Int32) : Int32 := if f < 0 then 0 else if 16 ≤ f then 0 else u 3 (ix f)
end KPC
end
section
section KPR
/-! The reference as pure steps. Cells: 0 (0 now, 1 clock), 1 alive, 2 space, 3 pager, 4 registers, 5 offered, 6 offeredLevel, 7 granted, 8 windows, 9 outcomes, 10 senders, 11 values, 12 counts, 13 states, 14 other, 15 until, 16 since, 17 wanted, 18 storing, 19 stored, 20 frames, 21 levels, 22 depths, 23 parents, 24 words -/
def rThread (v : kSt) (t : Int32) : Bool := if t < 0 then false else if 8 ≤ t then false else if v 1 (ix t) = 0 then false else true
def rRunning (v : kSt) (t : Int32) : Bool := if rThread v t = true then (if v 13 (ix t) = 0 then true else false) else false
def rRun (v : kSt) (t : Nat) (o : Int32) : kSt := kup (kup v 13 t 0) 9 t o
def rLinger (v : kSt) (t : Nat) (st on n : Int32) : kSt := kup (kup (kup (kup (kup v 13 t st) 14 t on) 15 t (if 0 ≤ n then v 0 0 + n else -1)) 16 t (v 0 1)) 0 1 (v 0 1 + 1)
def rClear (v : kSt) (t : Nat) : Nat → kSt
  | 0 => v
  | n + 1 => kup (rClear v t n) 4 (4 * t + n) 0
def rBegin (v : kSt) (t : Nat) (sp pg : Int32) : kSt :=
  kup (kup (kup (kup (kup (kup (kup (rClear (kup (kup (kup v 1 t 1) 2 t sp) 3 t pg) t 4) 5 t (-1)) 8 t (-1)) 9 t 0) 10 t (-1)) 11 t 0) 12 t 0) 13 t 0
/-- the least free number of the last n ones, -1 if none -/
def rFree (v : kSt) : Nat → Int32
  | 0 => -1
  | m + 1 => if v 1 (7 - m) = 0 then nI (7 - m) else rFree v m
/-- n steps upward at most, from place a, to the place z -/
def rUp (v : kSt) (z : Int32) : Nat → Int32 → Bool
  | 0, _ => false
  | n + 1, a => if v 23 (ix a) = z then true else rUp v z n (v 23 (ix a))
def rDesc (v : kSt) (k : Nat) (z : Int32) : Bool := rUp v z (ix (if 0 ≤ v 20 k then v 22 k else 0)) (nI k)
def rCount (v : kSt) (z : Int32) : Nat → Int32
  | 0 => 0
  | n + 1 => rCount v z n + (if rDesc v n z = true then 1 else 0)
/-- whether the removal at depth e takes place n -/
def rHit (v : kSt) (z e : Int32) (n : Nat) : Bool := if v 20 n < 0 then false else if v 22 n = e then (if rDesc v n z = true then true else false) else false
/-- of the first n places those of depth e that descend from z are emptied -/
def rRem1 (v : kSt) (z e : Int32) : Nat → kSt
  | 0 => v
  | n + 1 => if rHit (rRem1 v z e n) z e n = true then kup (rRem1 v z e n) 20 n (-1) else rRem1 v z e n
def rRem1N (v : kSt) (z e : Int32) (a : Int32) : Nat → Int32
  | 0 => a
  | n + 1 => if rHit (rRem1 v z e n) z e n = true then rRem1N v z e a n + 1 else rRem1N v z e a n
/-- depths e, e - 1, .. 1, over the first N places -/
def rRem (v : kSt) (z : Int32) (N : Nat) : Nat → kSt
  | 0 => v
  | e + 1 => rRem (rRem1 v z (nI (e + 1)) N) z N e
def rRemN (v : kSt) (z : Int32) (a : Int32) (N : Nat) : Nat → Int32
  | 0 => a
  | e + 1 => rRemN (rRem1 v z (nI (e + 1)) N) z (rRem1N v z (nI (e + 1)) a N) N e
/-- whether place n is below s -/
def rBelow (v : kSt) (s : Int32) (n : Nat) : Bool := if v 20 n < 0 then false else if v 22 n ≤ 0 then false else if v 23 n = s then true else false
/-- those of the first n places that are below s get the parent t -/
def rAdopt (v : kSt) (s t : Int32) : Nat → kSt
  | 0 => v
  | n + 1 => if rBelow (rAdopt v s t n) s n = true then kup (rAdopt v s t n) 23 n t else rAdopt v s t n
def rMove (v : kSt) (s t : Nat) : kSt := rAdopt (kup (kup (kup (kup (kup v 20 t (v 20 s)) 21 t (v 21 s)) 22 t (v 22 s)) 23 t (v 23 s)) 20 s (-1)) (nI s) (nI t) 96
def rDerive (v : kSt) (i s t : Nat) : kSt := kup (kup (kup (kup v 20 t (v 20 s)) 21 t (if v 21 s ≤ v 6 i then v 21 s else v 6 i)) 22 t (v 22 s + 1)) 23 t (nI s)
def rClean (v : kSt) (t : Nat) : kSt := if v 20 t < 0 then v else kup (rRem v (nI t) 96 12) 20 t (-1)
def rHand2 (v : kSt) (i s t : Nat) : kSt := if 0 ≤ v 20 s then (if v 7 i = 0 then (if 12 ≤ v 22 s then v else rDerive v i s t) else rMove v s t) else v
def rHandOn (v : kSt) (i s t : Nat) : kSt := if s = t then v else if 0 ≤ v 20 s then rHand2 (rClean v t) i s t else v
def rTake (v : kSt) (r : Nat) (s a b c e : Int32) : kSt := kup (kup (kup (kup (kup (kup v 4 (4 * r) a) 4 (4 * r + 1) b) 4 (4 * r + 2) c) 4 (4 * r + 3) e) 10 r s) 12 r (v 12 r + 1)
def rReport (v : kSt) (t : Nat) : kSt := rRun (kup (kup (rTake v (ix (v 3 t)) (nI t) (v 17 t) (if v 18 t = 0 then 1 else 2) 0 0) 13 t 5) 14 t (v 3 t)) (ix (v 3 t)) 0
def rOk (v : kSt) (t k : Nat) : Bool := if v 20 k < 0 then false else if v 21 k < (if v 18 t = 0 then 1 else 2) then false else true
def rAttempt3 (v : kSt) (t p : Nat) : kSt := if v 13 p = 2 then (if v 14 p = nI t then rReport v t else if 0 ≤ v 14 p then v else rReport v t) else v
def rAttempt2 (v : kSt) (t : Nat) : kSt := if 0 ≤ v 3 t then rAttempt3 (rLinger v t 4 (v 3 t) (-1)) t (ix (v 3 t)) else kup v 13 t 6
def rDo (v : kSt) (t k : Nat) : kSt := if v 18 t = 0 then rRun (kup v 11 t (v 24 (ix (v 20 k)))) t 0 else rRun (kup v 24 (ix (v 20 k)) (v 19 t)) t 0
def rsl (sp p : Int32) : Nat := ix (16 * sp + p)
def rAttempt (v : kSt) (t : Nat) : kSt := if rOk v t (rsl (v 2 t) (v 17 t)) = true then rDo v t (rsl (v 2 t) (v 17 t)) else rAttempt2 v t
def rPage (v : kSt) (r : Nat) (rests : Bool) : Int32 := if rests = true then v 17 r else v 8 r
def rMsg1 (v : kSt) (s r : Nat) (rests : Bool) : kSt := if rests = true then v else rTake v r (nI s) (v 4 (4 * s)) (v 4 (4 * s + 1)) (v 4 (4 * s + 2)) (v 4 (4 * s + 3))
def rMsg2 (v : kSt) (s r : Nat) (p : Int32) : kSt := if v 5 s < 0 then v else if p < 0 then v else rHandOn v s (rsl (v 2 s) (v 5 s)) (rsl (v 2 r) p)
def rMsg3 (v : kSt) (s r : Nat) (calls : Int32) : kSt := if calls = 0 then rRun v s 0 else rLinger v s 2 (nI r) (-1)
def rMsg4 (v : kSt) (r : Nat) (rests : Bool) : kSt := if rests = true then rAttempt v r else rRun v r 0
def rMsgB (v : kSt) (s r : Nat) (calls : Int32) (rests : Bool) : kSt := rMsg4 (rMsg3 (kup (rMsg2 v s r (rPage v r rests)) 5 s (-1)) s r calls) r rests
def rMessage (v : kSt) (s r : Nat) (calls : Int32) : kSt := rMsgB (rMsg1 v s r (decide (v 13 r = 5))) s r calls (decide (v 13 r = 5))
def rTakes (v : kSt) (r s : Nat) : Bool := if v 13 r = 2 ∧ (v 14 r = nI s ∨ v 14 r < 0) then true else if v 13 r = 5 then (if v 14 r = nI s then true else false) else false
def rSpk (v : kSt) (i j : Nat) (n calls : Int32) : Int32 × kSt := if rTakes v j i = true then (if calls = 0 then 0 else 1, rMessage v i j calls) else if n = 0 then (2, kup v 9 i 1) else (1, rLinger v i (if calls = 0 then 1 else 3) (nI j) n)
def rSpeak (v : kSt) (t o n calls : Int32) : Int32 × kSt := if rRunning v t = true then (if o = t then (-1, v) else if rThread v o = true then (if n < -1 then (-1, v) else if n ≤ 100 then rSpk v (ix t) (ix o) n calls else (-1, v)) else (-1, v)) else (-1, v)
def rWaits (v : kSt) (i : Nat) (t : Int32) : Bool := if v 1 i = 0 then false else if v 13 i = 1 ∨ v 13 i = 3 ∨ v 13 i = 4 then (if v 14 i = t then true else false) else false
/-- whether thread n is asked, and waits for t -/
def rAsk (v : kSt) (t fr : Int32) (n : Nat) : Bool := if rWaits v n t = true then (if fr < 0 then true else if nI n = fr then true else false) else false
/-- the longest waiting one of the first n, as the loop has it -/
def rBest (v : kSt) (t fr : Int32) : Nat → Int32
  | 0 => -1
  | n + 1 => if rAsk v t fr n = true then (if rBest v t fr n < 0 then nI n else if v 16 (ix (rBest v t fr n)) ≤ v 16 n then rBest v t fr n else nI n) else rBest v t fr n
def rRec2 (v : kSt) (i : Nat) (fr n b : Int32) : Int32 × kSt := if b < 0 then (if n = 0 then (2, kup v 9 i 1) else (1, rLinger v i 2 fr n)) else
    (0, if v 13 (ix b) = 4 then rReport v (ix b) else rMessage v (ix b) i (if v 13 (ix b) = 3 then 1 else 0))
def rReceive (v : kSt) (t fr n : Int32) : Int32 × kSt := if rRunning v t = true then (if fr = t then (-1, v) else if fr ≠ -1 ∧ rThread v fr = false then (-1, v) else if n < -1 then (-1, v) else if n ≤ 100 then rRec2 v (ix t) fr n (rBest v t fr 8) else (-1, v)) else (-1, v)
def rWant (v : kSt) (t : Nat) (p st a : Int32) : kSt := kup (kup (kup v 17 t p) 18 t st) 19 t a
def rAcc2 (v : kSt) (i : Nat) : Int32 × kSt := (if rAttempt v i 13 i = 0 then 0 else if rAttempt v i 13 i = 6 then 2 else 1, rAttempt v i)
def rAccess (v : kSt) (t p st a : Int32) : Int32 × kSt := if rRunning v t = true then (if p < 0 then (-1, v) else if p ≤ 15 then rAcc2 (rWant v (ix t) p st a) (ix t) else (-1, v)) else (-1, v)
/-- whether place n gets the level 1 -/
def rSoftB (v : kSt) (z self : Int32) (n : Nat) : Bool := if v 20 n < 0 then false else if v 21 n = 2 then (if rDesc v n z = true then true else if self = 0 then false else if nI n = z then true else false) else false
/-- of the first n places the descendants of z, and z itself if asked, get level 1 -/
def rSoft (v : kSt) (z self : Int32) : Nat → kSt
  | 0 => v
  | n + 1 => if rSoftB (rSoft v z self n) z self n = true then kup (rSoft v z self n) 21 n 1 else rSoft v z self n
def rSoftN (v : kSt) (z self : Int32) : Nat → Int32
  | 0 => 0
  | n + 1 => if rSoftB (rSoft v z self n) z self n = true then rSoftN v z self n + 1 else rSoftN v z self n
def rUnm (v : kSt) (k : Nat) (m self : Int32) : Int32 × kSt := if 0 ≤ v 20 k then (if m = 1 then
      (rRemN v (nI k) 0 96 12 + (if self = 0 then 0 else 1), kup (rRem v (nI k) 96 12) 20 k (if self = 0 then rRem v (nI k) 96 12 20 k else -1))
    else (rSoftN v (nI k) self 96, rSoft v (nI k) self 96)) else (0, v)
def rUnmap (v : kSt) (t p m self : Int32) : Int32 × kSt := if rRunning v t = true then (if p < 0 then (-1, v) else if 15 < p then (-1, v) else if m ≠ 1 ∧ m ≠ 2 then (-1, v) else rUnm v (rsl (v 2 (ix t)) p) m self) else (-1, v)
def rTickB (v : kSt) (i : Nat) : Bool := if v 1 i = 0 then false else if v 13 i = 1 ∨ v 13 i = 3 ∨ v 13 i = 2 then (if v 15 i < 0 then false else if v 0 0 < v 15 i then false else true) else false
def rTickS (v : kSt) : Nat → kSt
  | 0 => v
  | n + 1 => if rTickB (rTickS v n) n = true then rRun (rTickS v n) n 1 else rTickS v n
def rTickN (v : kSt) : Nat → Int32
  | 0 => 0
  | n + 1 => if rTickB (rTickS v n) n = true then rTickN v n + 1 else rTickN v n
def rTick (v : kSt) : Int32 × kSt := (rTickN (kup v 0 0 (v 0 0 + 1)) 8, rTickS (kup v 0 0 (v 0 0 + 1)) 8)
def rState (v : kSt) (t : Int32) : Int32 := if rThread v t = true then v 13 (ix t) else -1
def rRegister (v : kSt) (t k : Int32) : Int32 := if rThread v t = true then (if k < 0 then 0 else if k ≤ 4 then (if k = 4 then v 12 (ix t) else v 4 (ix (4 * t + k))) else 0) else 0
def rOutcome (v : kSt) (t : Int32) : Int32 := if rThread v t = true then v 9 (ix t) else -1
def rValue (v : kSt) (t : Int32) : Int32 := if rThread v t = true then v 11 (ix t) else 0
def rSender (v : kSt) (t : Int32) : Int32 := if rThread v t = true then v 10 (ix t) else -1
def rPlace (v : kSt) (sp p : Int32) : Int32 := if sp < 0 then -1 else if 5 < sp then -1 else if p < 0 then -1 else if 15 < p then -1 else if 0 ≤ v 20 (rsl sp p) then 16 * sp + p else -1
def rMapping (v : kSt) (sp p : Int32) : Int32 := if 0 ≤ rPlace v sp p then 1000 * v 22 (ix (rPlace v sp p)) + 10 * v 20 (ix (rPlace v sp p)) + v 21 (ix (rPlace v sp p)) else -1
def rHeirs (v : kSt) (sp p : Int32) : Int32 := if 0 ≤ rPlace v sp p then rCount v (rPlace v sp p) 96 else -1
def rWaitCount (v : kSt) (t : Int32) : Nat → Int32
  | 0 => 0
  | n + 1 => rWaitCount v t n + (if rWaits v n t = true then 1 else 0)
def rWaiting (v : kSt) (t : Int32) : Int32 := if rThread v t = true then rWaitCount v t 8 else -1
def rWord (v : kSt) (f : Int32) : Int32 := if f < 0 then 0 else if f ≤ 15 then v 24 (ix f) else 0
def rSp2 (v : kSt) (sp pg fr : Int32) : Int32 × kSt := if sp < 0 then (-1, v) else if 5 < sp then (-1, v) else if pg ≠ -1 ∧ rThread v pg = false then (-1, v) else if 0 ≤ fr then (fr, rBegin v (ix fr) sp pg) else (-1, v)
def rSpawn (v : kSt) (sp pg : Int32) : Int32 × kSt := rSp2 v sp pg (rFree v 8)
/-- a thread that outlives t -/
def rMeets (v : kSt) (i : Nat) (t : Int32) : Bool := if v 13 i = 1 ∨ v 13 i = 3 ∨ v 13 i = 2 then (if v 14 i = t then true else false) else false
def rOut1 (v : kSt) (i : Nat) (t : Int32) : kSt := if rMeets v i t = true then rRun v i 2 else v
def rOut2 (v : kSt) (i : Nat) (t : Int32) : kSt := if v 3 i = t then kup (kup v 3 i (-1)) 13 i (if v 13 i = 4 then 6 else if v 13 i = 5 then 6 else v 13 i) else v
def rOutlive (v : kSt) (i : Nat) (t : Int32) : kSt := if v 1 i = 0 then v else rOut2 (rOut1 v i t) i t
def rOutAll (v : kSt) (t : Int32) : Nat → kSt
  | 0 => v
  | n + 1 => rOutlive (rOutAll v t n) n t
def rDelete (v : kSt) (t : Int32) : Int32 × kSt := if rThread v t = true then (if t = 0 then (0, v) else (1, rOutAll (kup v 1 (ix t) 0) t 8)) else (0, v)
def rLoad (v : kSt) (t k a : Int32) : Int32 × kSt := if rRunning v t = true then (if k < 0 then (0, v) else if k ≤ 3 then (1, kup v 4 (ix (4 * t + k)) a) else (0, v)) else (0, v)
def rOfferCall (v : kSt) (t p m g : Int32) : Int32 × kSt := if rRunning v t = true then (if p < -1 then (0, v) else if 15 < p then (0, v) else if ¬ p < 0 ∧ m ≠ 1 ∧ m ≠ 2 then (0, v) else (1, kup (kup (kup v 5 (ix t) p) 6 (ix t) m) 7 (ix t) g)) else (0, v)
def rWindow (v : kSt) (t p : Int32) : Int32 × kSt := if rRunning v t = true then (if p < -1 then (0, v) else if p ≤ 15 then (1, kup v 8 (ix t) p) else (0, v)) else (0, v)
/-! ranges -/
def rOkv (a b : Nat) (x : Int32) : Prop :=
  (a = 2 → b < 8 → vp_in x 6) ∧ (a = 3 → b < 8 → x = -1 ∨ vp_in x 8) ∧ (a = 5 → b < 8 → x = -1 ∨ vp_in x 16) ∧ (a = 8 → b < 8 → x = -1 ∨ vp_in x 16) ∧ (a = 17 → b < 8 → vp_in x 16)
  ∧ (a = 20 → b < 96 → x = -1 ∨ vp_in x 16) ∧ (a = 22 → b < 96 → vp_in x 13) ∧ (a = 23 → b < 96 → vp_in x 96)
def rInv (v : kSt) : Prop := ∀ a b, rOkv a b (v a b)
theorem rInv.up {v : kSt} (h : rInv v) {k j : Nat} {x : Int32} (hx : rOkv k j x) : rInv (kup v k j x) := by
  intro a b
  show rOkv a b (if a = k ∧ b = j then x else v a b)
  split
  · rename_i hab
    obtain ⟨rfl, rfl⟩ := hab
    exact hx
  · exact h a b
theorem rInv.space {v : kSt} (h : rInv v) {i : Nat} (hi : i < 8) : vp_in (v 2 i) 6 := (h 2 i).1 rfl hi
theorem rInv.pager {v : kSt} (h : rInv v) {i : Nat} (hi : i < 8) : v 3 i = -1 ∨ vp_in (v 3 i) 8 := (h 3 i).2.1 rfl hi
theorem rInv.offer {v : kSt} (h : rInv v) {i : Nat} (hi : i < 8) : v 5 i = -1 ∨ vp_in (v 5 i) 16 := (h 5 i).2.2.1 rfl hi
theorem rInv.window {v : kSt} (h : rInv v) {i : Nat} (hi : i < 8) : v 8 i = -1 ∨ vp_in (v 8 i) 16 := (h 8 i).2.2.2.1 rfl hi
theorem rInv.wanted {v : kSt} (h : rInv v) {i : Nat} (hi : i < 8) : vp_in (v 17 i) 16 := (h 17 i).2.2.2.2.1 rfl hi
theorem rInv.frame {v : kSt} (h : rInv v) {k : Nat} (hk : k < 96) : v 20 k = -1 ∨ vp_in (v 20 k) 16 := (h 20 k).2.2.2.2.2.1 rfl hk
theorem rInv.depth {v : kSt} (h : rInv v) {k : Nat} (hk : k < 96) : vp_in (v 22 k) 13 := (h 22 k).2.2.2.2.2.2.1 rfl hk
theorem rInv.parent {v : kSt} (h : rInv v) {k : Nat} (hk : k < 96) : vp_in (v 23 k) 96 := (h 23 k).2.2.2.2.2.2.2 rfl hk
/-- a place that may hold anything -/
theorem rOk_any {a b : Nat} {x : Int32} (h : a ≠ 2 ∧ a ≠ 3 ∧ a ≠ 5 ∧ a ≠ 8 ∧ a ≠ 17 ∧ a ≠ 20 ∧ a ≠ 22 ∧ a ≠ 23) : rOkv a b x :=
  ⟨fun e => absurd e h.1, fun e => absurd e h.2.1, fun e => absurd e h.2.2.1, fun e => absurd e h.2.2.2.1, fun e => absurd e h.2.2.2.2.1, fun e => absurd e h.2.2.2.2.2.1, fun e => absurd e h.2.2.2.2.2.2.1, fun e => absurd e h.2.2.2.2.2.2.2⟩
theorem rOk_2 {b : Nat} {x : Int32} (h : vp_in x 6) : rOkv 2 b x := ⟨fun _ _ => h, fun e => by omega, fun e => by omega, fun e => by omega, fun e => by omega, fun e => by omega, fun e => by omega, fun e => by omega⟩
theorem rOk_3 {b : Nat} {x : Int32} (h : x = -1 ∨ vp_in x 8) : rOkv 3 b x := ⟨fun e => by omega, fun _ _ => h, fun e => by omega, fun e => by omega, fun e => by omega, fun e => by omega, fun e => by omega, fun e => by omega⟩
theorem rOk_5 {b : Nat} {x : Int32} (h : x = -1 ∨ vp_in x 16) : rOkv 5 b x := ⟨fun e => by omega, fun e => by omega, fun _ _ => h, fun e => by omega, fun e => by omega, fun e => by omega, fun e => by omega, fun e => by omega⟩
theorem rOk_8 {b : Nat} {x : Int32} (h : x = -1 ∨ vp_in x 16) : rOkv 8 b x := ⟨fun e => by omega, fun e => by omega, fun e => by omega, fun _ _ => h, fun e => by omega, fun e => by omega, fun e => by omega, fun e => by omega⟩
theorem rOk_17 {b : Nat} {x : Int32} (h : vp_in x 16) : rOkv 17 b x := ⟨fun e => by omega, fun e => by omega, fun e => by omega, fun e => by omega, fun _ _ => h, fun e => by omega, fun e => by omega, fun e => by omega⟩
theorem rOk_20 {b : Nat} {x : Int32} (h : b < 96 → x = -1 ∨ vp_in x 16) : rOkv 20 b x := ⟨fun e => by omega, fun e => by omega, fun e => by omega, fun e => by omega, fun e => by omega, fun _ => h, fun e => by omega, fun e => by omega⟩
theorem rOk_22 {b : Nat} {x : Int32} (h : b < 96 → vp_in x 13) : rOkv 22 b x := ⟨fun e => by omega, fun e => by omega, fun e => by omega, fun e => by omega, fun e => by omega, fun e => by omega, fun _ => h, fun e => by omega⟩
theorem rOk_23 {b : Nat} {x : Int32} (h : b < 96 → vp_in x 96) : rOkv 23 b x := ⟨fun e => by omega, fun e => by omega, fun e => by omega, fun e => by omega, fun e => by omega, fun e => by omega, fun e => by omega, fun _ => h⟩
theorem rInv.run {v : kSt} (h : rInv v) {i : Nat} {o : Int32} : rInv (rRun v i o) := (h.up (rOk_any (by decide))).up (rOk_any (by decide))
theorem rInv.linger {v : kSt} (h : rInv v) {i : Nat} {a b c : Int32} : rInv (rLinger v i a b c) := ((((h.up (rOk_any (by decide))).up (rOk_any (by decide))).up (rOk_any (by decide))).up (rOk_any (by decide))).up (rOk_any (by decide))
theorem rInv.take {v : kSt} (h : rInv v) {i : Nat} {s a b c e : Int32} : rInv (rTake v i s a b c e) := (((((h.up (rOk_any (by decide))).up (rOk_any (by decide))).up (rOk_any (by decide))).up (rOk_any (by decide))).up (rOk_any (by decide))).up (rOk_any (by decide))
theorem rInv.report {v : kSt} (h : rInv v) {t : Nat} : rInv (rReport v t) := ((h.take.up (rOk_any (by decide))).up (rOk_any (by decide))).run
theorem rInv.attempt {v : kSt} (h : rInv v) {t : Nat} : rInv (rAttempt v t) := by
  unfold rAttempt rAttempt2 rAttempt3 rDo
  repeat' split
  · exact (h.up (rOk_any (by decide))).run
  · exact (h.up (rOk_any (by decide))).run
  · exact h.linger.report
  · exact h.linger
  · exact h.linger.report
  · exact h.linger
  · exact h.up (rOk_any (by decide))
theorem rInv.rem1 {v : kSt} (h : rInv v) {z e : Int32} : ∀ n, rInv (rRem1 v z e n)
  | 0 => h
  | n + 1 => by
    unfold rRem1
    split
    · exact (rInv.rem1 h n).up (rOk_20 (fun _ => Or.inl rfl))
    · exact rInv.rem1 h n
theorem rInv.rem {z : Int32} (N e : Nat) (v : kSt) (h : rInv v) : rInv (rRem v z N e) := by
  induction e generalizing v with
  | zero => exact h
  | succ e ih =>
    rw [rRem]
    exact ih _ (rInv.rem1 h N)
theorem rInv.clean {v : kSt} (h : rInv v) {t : Nat} : rInv (rClean v t) := by
  unfold rClean
  split
  · exact h
  · exact (rInv.rem 96 12 v h).up (rOk_20 (fun _ => Or.inl rfl))
theorem rInv.adopt {v : kSt} (h : rInv v) {s : Int32} {t : Nat} (ht : t < 96) : ∀ n, rInv (rAdopt v s (nI t) n)
  | 0 => h
  | n + 1 => by
    unfold rAdopt
    split
    · exact (rInv.adopt h ht n).up (rOk_23 (fun _ => vin_n ht))
    · exact rInv.adopt h ht n
theorem rInv.move {v : kSt} (h : rInv v) {s t : Nat} (hs : s < 96) (ht : t < 96) : rInv (rMove v s t) := by
  unfold rMove
  exact rInv.adopt (((((h.up (rOk_20 (fun _ => h.frame hs))).up (rOk_any (by decide))).up (rOk_22 (fun _ => h.depth hs))).up (rOk_23 (fun _ => h.parent hs))).up (rOk_20 (fun _ => Or.inl rfl))) ht 96
theorem rInv.derive {v : kSt} (h : rInv v) {i s t : Nat} (hs : s < 96) (hd : ¬ 12 ≤ v 22 s) : rInv (rDerive v i s t) := by
  unfold rDerive
  refine (((h.up (rOk_20 (fun _ => h.frame hs))).up (rOk_any (by decide))).up (rOk_22 (fun _ => ?_))).up (rOk_23 (fun _ => vin_n hs))
  obtain ⟨e, he, e2⟩ := vp_in_of (h.depth hs) (by decide)
  rw [e2] at hd ⊢
  have : e < 12 := by
    rcases Nat.lt_or_ge e 12 with h | h
    · exact h
    · exact absurd (nI_le (a := 12) (b := e) h (by omega)) hd
  rw [nI_1]
  exact vin_n (by omega)
theorem rInv.hand2 {v : kSt} (h : rInv v) {i s t : Nat} (hs : s < 96) (ht : t < 96) : rInv (rHand2 v i s t) := by
  unfold rHand2
  split
  · split
    · split
      · exact h
      · exact h.derive hs (by assumption)
    · exact h.move hs ht
  · exact h
theorem rInv.handOn {v : kSt} (h : rInv v) {i s t : Nat} (hs : s < 96) (ht : t < 96) : rInv (rHandOn v i s t) := by
  unfold rHandOn
  split
  · exact h
  · split
    · exact h.clean.hand2 hs ht
    · exact h
theorem rsl_eq {a b : Int32} (h1 : vp_in a 6) (h2 : vp_in b 16) : 16 * a + b = nI (rsl a b) ∧ rsl a b < 96 := by
  obtain ⟨i, hi, rfl⟩ := vp_in_of h1 (by decide)
  obtain ⟨j, hj, rfl⟩ := vp_in_of h2 (by decide)
  have e : 16 * nI i + nI j = nI (16 * i + j) := by
    rw [show (16 : Int32) = nI 16 from rfl, pk_mul, nI_add]
  unfold rsl
  rw [e, ix_nI (by omega)]
  exact ⟨rfl, by omega⟩
theorem or_ge {x : Int32} {n : Nat} (h : x = -1 ∨ vp_in x n) (hn : ¬ x < 0) : vp_in x n := h.resolve_left (fun e => hn (by rw [e]; decide))
theorem or_ge' {x : Int32} {n : Nat} (h : x = -1 ∨ vp_in x n) (hn : 0 ≤ x) : vp_in x n := h.resolve_left (fun e => absurd hn (by rw [e]; decide))
theorem rInv.page {v : kSt} (h : rInv v) {r : Nat} {b : Bool} (hr : r < 8) : rPage v r b = -1 ∨ vp_in (rPage v r b) 16 := by
  unfold rPage
  split
  · exact Or.inr (h.wanted hr)
  · exact h.window hr
theorem rInv.msg2 {v : kSt} (h : rInv v) {s r : Nat} {p : Int32} (hs : s < 8) (hr : r < 8) (hp : p = -1 ∨ vp_in p 16) : rInv (rMsg2 v s r p) := by
  unfold rMsg2
  split
  · exact h
  · split
    · exact h
    · exact h.handOn (rsl_eq (h.space hs) (or_ge (h.offer hs) (by assumption))).2 (rsl_eq (h.space hr) (or_ge hp (by assumption))).2
theorem rInv.msg3 {v : kSt} (h : rInv v) {s r : Nat} {c : Int32} : rInv (rMsg3 v s r c) := by
  unfold rMsg3
  split
  · exact h.run
  · exact h.linger
theorem rInv.msg1 {v : kSt} (h : rInv v) {s r : Nat} {b : Bool} : rInv (rMsg1 v s r b) := by
  unfold rMsg1
  split
  · exact h
  · exact h.take
theorem rInv.msg4 {v : kSt} (h : rInv v) {r : Nat} {b : Bool} : rInv (rMsg4 v r b) := by
  unfold rMsg4
  split
  · exact h.attempt
  · exact h.run
theorem rInv.msgB {v : kSt} (h : rInv v) {s r : Nat} {c : Int32} {b : Bool} (hs : s < 8) (hr : r < 8) : rInv (rMsgB v s r c b) := (((h.msg2 hs hr (h.page hr)).up (rOk_5 (Or.inl rfl))).msg3).msg4
theorem rInv.message {v : kSt} (h : rInv v) {s r : Nat} {c : Int32} (hs : s < 8) (hr : r < 8) : rInv (rMessage v s r c) := h.msg1.msgB hs hr
theorem rThread_in {v : kSt} {t : Int32} (h : rThread v t = true) : vp_in t 8 := by
  unfold rThread at h
  split at h
  · cases h
  · split at h
    · cases h
    · exact vin (by assumption) (by assumption)
theorem rRunning_th {v : kSt} {t : Int32} (h : rRunning v t = true) : rThread v t = true := by
  unfold rRunning at h
  split at h
  · assumption
  · cases h
theorem rRunning_in {v : kSt} {t : Int32} (h : rRunning v t = true) : vp_in t 8 := rThread_in (rRunning_th h)
theorem rFree_in {v : kSt} : ∀ n, rFree v n = -1 ∨ vp_in (rFree v n) 8
  | 0 => Or.inl rfl
  | n + 1 => by
    unfold rFree
    split
    · exact Or.inr (vin_n (by omega))
    · exact rFree_in n
theorem rBest_in {v : kSt} {t fr : Int32} : ∀ n, n ≤ 8 → (rBest v t fr n = -1 ∨ vp_in (rBest v t fr n) 8)
  | 0, _ => Or.inl rfl
  | n + 1, hn => by
    unfold rBest
    split
    · split
      · exact Or.inr (vin_n (by omega))
      · split
        · exact rBest_in n (by omega)
        · exact Or.inr (vin_n (by omega))
    · exact rBest_in n (by omega)
/-- places in the registers' row -/
theorem rg_eq {i j : Nat} (hi : i < 8) (hj : j < 4) : (4 : Int32) * nI i + nI j = nI (4 * i + j) := by
  rw [show (4 : Int32) = nI 4 from rfl, pk_mul, nI_add]
theorem rg_eq0 {i : Nat} : (4 : Int32) * nI i = nI (4 * i) := by
  rw [show (4 : Int32) = nI 4 from rfl, pk_mul]
theorem rg_in {a b : Int32} (h1 : vp_in a 8) (h2 : vp_in b 4) : vp_in (4 * a + b) 32 := by
  obtain ⟨i, hi, rfl⟩ := vp_in_of h1 (by decide)
  obtain ⟨j, hj, rfl⟩ := vp_in_of h2 (by decide)
  rw [rg_eq hi hj]
  exact vin_n (by omega)
end KPR
end
section
section KCH
set_option maxRecDepth 4000 in
theorem c_H_run {l : Launch} {D : va_G} {cI cB cT : ClassId} {ad : Nat → Nat} {d : Nat} {u : kSt} {i : Nat} {o : Int32} (hi : i < 8) : KSp (kWl lyC l D cI cB cT ad) y_H_run m_H_run d [.ref (8 + i), .int o] u none (cRun u i o) := by
  refine KSp.of (by decide) rfl (Nat.le_of_ble_eq_true rfl) rfl ?_
  show KAt (kWl lyC l D cI cB cT ad) m_H_run d 0 [some (.ref (8 + i)), some (.int o)] [] u none (cRun u i o)
  refine k_aload_n d_H_run_0 rfl ?_
  refine k_iconst (v := 0) d_H_run_1 (by decide) ?_
  refine cT_put d_H_run_2 p_H_15 (by first | assumption | omega) (by decide) (by decide) rfl rfl ?_
  refine k_aload_n d_H_run_5 rfl ?_
  refine k_iload_n d_H_run_6 rfl ?_
  refine cT_put d_H_run_7 p_H_34 (by first | assumption | omega) (by decide) (by decide) rfl rfl ?_
  exact k_vret d_H_run_10 rfl rfl (by first | rfl | (simp [cRun] <;> done) | (simp [cRun, *] <;> done))

set_option maxRecDepth 4000 in
theorem c_H_waitFor {l : Launch} {D : va_G} {cI cB cT : ClassId} {ad : Nat → Nat} {d : Nat} {u : kSt} {i : Nat} {a b c : Int32} (hi : i < 8) : KSp (kWl lyC l D cI cB cT ad) y_H_waitFor m_H_waitFor d [.ref (8 + i), .int a, .int b, .int c] u none (cWait u i a b c) := by
  refine KSp.of (by decide) rfl (Nat.le_of_ble_eq_true rfl) rfl ?_
  show KAt (kWl lyC l D cI cB cT ad) m_H_waitFor d 0 [some (.ref (8 + i)), some (.int a), some (.int b), some (.int c)] [] u none (cWait u i a b c)
  refine k_aload_n d_H_waitFor_0 rfl ?_
  refine k_iload_n d_H_waitFor_1 rfl ?_
  refine cT_put d_H_waitFor_2 p_H_15 (by first | assumption | omega) (by decide) (by decide) rfl rfl ?_
  refine k_aload_n d_H_waitFor_5 rfl ?_
  refine k_iload_n d_H_waitFor_6 rfl ?_
  refine cT_put d_H_waitFor_7 p_H_46 (by first | assumption | omega) (by decide) (by decide) rfl rfl ?_
  refine k_aload_n d_H_waitFor_10 rfl ?_
  refine k_iload_n d_H_waitFor_11 rfl ?_
  refine cT_put d_H_waitFor_12 p_H_49 (by first | assumption | omega) (by decide) (by decide) rfl rfl ?_
  exact k_vret d_H_waitFor_15 rfl rfl (by first | rfl | (simp [cWait] <;> done) | (simp [cWait, *] <;> done))

set_option maxRecDepth 4000 in
theorem c_H_take {l : Launch} {D : va_G} {cI cB cT : ClassId} {ad : Nat → Nat} {d : Nat} {u : kSt} {i : Nat} {s a b c e : Int32} (hi : i < 8) : KSp (kWl lyC l D cI cB cT ad) y_H_take m_H_take d [.ref (8 + i), .int s, .int a, .int b, .int c, .int e] u none (cTake u i s a b c e) := by
  refine KSp.of (by decide) rfl (Nat.le_of_ble_eq_true rfl) rfl ?_
  show KAt (kWl lyC l D cI cB cT ad) m_H_take d 0 [some (.ref (8 + i)), some (.int s), some (.int a), some (.int b), some (.int c), some (.int e)] [] u none (cTake u i s a b c e)
  refine k_aload_n d_H_take_0 rfl ?_
  refine cT_reg d_H_take_1 f_H_9 (by first | assumption | omega) ?_
  refine k_iconst (v := 0) d_H_take_4 (by decide) ?_
  refine k_iload_n d_H_take_5 rfl ?_
  refine cR_ast d_H_take_6 (by first | assumption | omega) (by first | assumption | (unfold vp_in; decide) | exact vin (by assumption) (by assumption) | exact vin_n (by assumption) | exact vin_n (by omega)) ?_
  refine k_aload_n d_H_take_7 rfl ?_
  refine cT_reg d_H_take_8 f_H_9 (by first | assumption | omega) ?_
  refine k_iconst (v := 1) d_H_take_11 (by decide) ?_
  refine k_iload_n d_H_take_12 rfl ?_
  refine cR_ast d_H_take_13 (by first | assumption | omega) (by first | assumption | (unfold vp_in; decide) | exact vin (by assumption) (by assumption) | exact vin_n (by assumption) | exact vin_n (by omega)) ?_
  refine k_aload_n d_H_take_14 rfl ?_
  refine cT_reg d_H_take_15 f_H_9 (by first | assumption | omega) ?_
  refine k_iconst (v := 2) d_H_take_18 (by decide) ?_
  refine k_iload d_H_take_19 rfl ?_
  refine cR_ast d_H_take_21 (by first | assumption | omega) (by first | assumption | (unfold vp_in; decide) | exact vin (by assumption) (by assumption) | exact vin_n (by assumption) | exact vin_n (by omega)) ?_
  refine k_aload_n d_H_take_22 rfl ?_
  refine cT_reg d_H_take_23 f_H_9 (by first | assumption | omega) ?_
  refine k_iconst (v := 3) d_H_take_26 (by decide) ?_
  refine k_iload d_H_take_27 rfl ?_
  refine cR_ast d_H_take_29 (by first | assumption | omega) (by first | assumption | (unfold vp_in; decide) | exact vin (by assumption) (by assumption) | exact vin_n (by assumption) | exact vin_n (by omega)) ?_
  refine k_aload_n d_H_take_30 rfl ?_
  refine k_iload_n d_H_take_31 rfl ?_
  refine cT_put d_H_take_32 p_H_37 (by first | assumption | omega) (by decide) (by decide) rfl rfl ?_
  refine k_aload_n d_H_take_35 rfl ?_
  refine k_dup d_H_take_36 rfl ?_
  refine cT_get d_H_take_37 f_H_43 (by first | assumption | omega) (by decide) (by decide) ?_
  refine k_iconst (v := 1) d_H_take_40 (by decide) ?_
  refine k_iadd d_H_take_41 ?_
  refine cT_put d_H_take_42 p_H_43 (by first | assumption | omega) (by decide) (by decide) rfl rfl ?_
  exact k_vret d_H_take_45 rfl rfl (by simp only [cTake, ix0, ix1, ix2, ix3]; congr 1; simp [kup])

set_option maxRecDepth 4000 in
theorem c_H_waitsForThread {l : Launch} {D : va_G} {cI cB cT : ClassId} {ad : Nat → Nat} {d : Nat} {u : kSt} {i : Nat} (hi : i < 8) : KSp (kWl lyC l D cI cB cT ad) y_H_waitsForThread m_H_waitsForThread d [.ref (8 + i)] u (some (.int (bI (cWaits u i)))) u := by
  refine KSp.of (by decide) rfl (Nat.le_of_ble_eq_true rfl) rfl ?_
  show KAt (kWl lyC l D cI cB cT ad) m_H_waitsForThread d 0 [some (.ref (8 + i))] [] u (some (.int (bI (cWaits u i)))) u
  refine k_aload_n d_H_waitsForThread_0 rfl ?_
  refine cT_get d_H_waitsForThread_1 f_H_15 (by first | assumption | omega) (by decide) (by decide) ?_
  refine k_iconst (v := 1) d_H_waitsForThread_4 (by decide) ?_
  refine k_icmp_eq d_H_waitsForThread_5 (fun h5 => ?_) (fun h5 => ?_)
  · refine k_iconst (v := 1) d_H_waitsForThread_24 (by decide) ?_
    refine k_goto d_H_waitsForThread_25 ?_
    exact k_zret d_H_waitsForThread_29 rfl (by first | rfl | exact nb_bI _) (by first | rfl | (simp [cWaits, bI] <;> done) | (simp [cWaits, bI, *] <;> done)) (by first | rfl | (simp [cWaits, bI] <;> done) | (simp [cWaits, bI, *] <;> done))
  · refine k_aload_n d_H_waitsForThread_8 rfl ?_
    refine cT_get d_H_waitsForThread_9 f_H_15 (by first | assumption | omega) (by decide) (by decide) ?_
    refine k_iconst (v := 2) d_H_waitsForThread_12 (by decide) ?_
    refine k_icmp_eq d_H_waitsForThread_13 (fun h13 => ?_) (fun h13 => ?_)
    · refine k_iconst (v := 1) d_H_waitsForThread_24 (by decide) ?_
      refine k_goto d_H_waitsForThread_25 ?_
      exact k_zret d_H_waitsForThread_29 rfl (by first | rfl | exact nb_bI _) (by first | rfl | (simp [cWaits, bI] <;> done) | (simp [cWaits, bI, *] <;> done)) (by first | rfl | (simp [cWaits, bI] <;> done) | (simp [cWaits, bI, *] <;> done))
    · refine k_aload_n d_H_waitsForThread_16 rfl ?_
      refine cT_get d_H_waitsForThread_17 f_H_15 (by first | assumption | omega) (by decide) (by decide) ?_
      refine k_iconst (v := 3) d_H_waitsForThread_20 (by decide) ?_
      refine k_icmp_ne d_H_waitsForThread_21 (fun h21 => ?_) (fun h21 => ?_)
      · refine k_iconst (v := 0) d_H_waitsForThread_28 (by decide) ?_
        exact k_zret d_H_waitsForThread_29 rfl (by first | rfl | exact nb_bI _) (by first | rfl | (simp [cWaits, bI] <;> done) | (simp [cWaits, bI, *] <;> done)) (by first | rfl | (simp [cWaits, bI] <;> done) | (simp [cWaits, bI, *] <;> done))
      · refine k_iconst (v := 1) d_H_waitsForThread_24 (by decide) ?_
        refine k_goto d_H_waitsForThread_25 ?_
        exact k_zret d_H_waitsForThread_29 rfl (by first | rfl | exact nb_bI _) (by first | rfl | (simp [cWaits, bI] <;> done) | (simp [cWaits, bI, *] <;> done)) (by first | rfl | (simp [cWaits, bI] <;> done) | (simp [cWaits, bI, *] <;> done))

set_option maxRecDepth 4000 in
theorem c_H_waitsToSendTo {l : Launch} {D : va_G} {cI cB cT : ClassId} {ad : Nat → Nat} {d : Nat} {u : kSt} {i : Nat} {t : Int32} (hi : i < 8) : KSp (kWl lyC l D cI cB cT ad) y_H_waitsToSendTo m_H_waitsToSendTo d [.ref (8 + i), .int t] u (some (.int (bI (cWaitsTo u i t)))) u := by
  refine KSp.of (by decide) rfl (Nat.le_of_ble_eq_true rfl) rfl ?_
  show KAt (kWl lyC l D cI cB cT ad) m_H_waitsToSendTo d 0 [some (.ref (8 + i)), some (.int t)] [] u (some (.int (bI (cWaitsTo u i t)))) u
  refine k_aload_n d_H_waitsToSendTo_0 rfl ?_
  refine cT_get d_H_waitsToSendTo_1 f_H_15 (by first | assumption | omega) (by decide) (by decide) ?_
  refine k_iconst (v := 1) d_H_waitsToSendTo_4 (by decide) ?_
  refine k_icmp_eq d_H_waitsToSendTo_5 (fun h5 => ?_) (fun h5 => ?_)
  · refine k_aload_n d_H_waitsToSendTo_24 rfl ?_
    refine cT_get d_H_waitsToSendTo_25 f_H_46 (by first | assumption | omega) (by decide) (by decide) ?_
    refine k_iload_n d_H_waitsToSendTo_28 rfl ?_
    refine k_icmp_ne d_H_waitsToSendTo_29 (fun h29 => ?_) (fun h29 => ?_)
    · refine k_iconst (v := 0) d_H_waitsToSendTo_36 (by decide) ?_
      exact k_zret d_H_waitsToSendTo_37 rfl (by first | rfl | exact nb_bI _) (by first | rfl | (simp [cWaitsTo, bI] <;> done) | (simp [cWaitsTo, bI, *] <;> done)) (by first | rfl | (simp [cWaitsTo, bI] <;> done) | (simp [cWaitsTo, bI, *] <;> done))
    · refine k_iconst (v := 1) d_H_waitsToSendTo_32 (by decide) ?_
      refine k_goto d_H_waitsToSendTo_33 ?_
      exact k_zret d_H_waitsToSendTo_37 rfl (by first | rfl | exact nb_bI _) (by first | rfl | (simp [cWaitsTo, bI] <;> done) | (simp [cWaitsTo, bI, *] <;> done)) (by first | rfl | (simp [cWaitsTo, bI] <;> done) | (simp [cWaitsTo, bI, *] <;> done))
  · refine k_aload_n d_H_waitsToSendTo_8 rfl ?_
    refine cT_get d_H_waitsToSendTo_9 f_H_15 (by first | assumption | omega) (by decide) (by decide) ?_
    refine k_iconst (v := 3) d_H_waitsToSendTo_12 (by decide) ?_
    refine k_icmp_eq d_H_waitsToSendTo_13 (fun h13 => ?_) (fun h13 => ?_)
    · refine k_aload_n d_H_waitsToSendTo_24 rfl ?_
      refine cT_get d_H_waitsToSendTo_25 f_H_46 (by first | assumption | omega) (by decide) (by decide) ?_
      refine k_iload_n d_H_waitsToSendTo_28 rfl ?_
      refine k_icmp_ne d_H_waitsToSendTo_29 (fun h29 => ?_) (fun h29 => ?_)
      · refine k_iconst (v := 0) d_H_waitsToSendTo_36 (by decide) ?_
        exact k_zret d_H_waitsToSendTo_37 rfl (by first | rfl | exact nb_bI _) (by first | rfl | (simp [cWaitsTo, bI] <;> done) | (simp [cWaitsTo, bI, *] <;> done)) (by first | rfl | (simp [cWaitsTo, bI] <;> done) | (simp [cWaitsTo, bI, *] <;> done))
      · refine k_iconst (v := 1) d_H_waitsToSendTo_32 (by decide) ?_
        refine k_goto d_H_waitsToSendTo_33 ?_
        exact k_zret d_H_waitsToSendTo_37 rfl (by first | rfl | exact nb_bI _) (by first | rfl | (simp [cWaitsTo, bI] <;> done) | (simp [cWaitsTo, bI, *] <;> done)) (by first | rfl | (simp [cWaitsTo, bI] <;> done) | (simp [cWaitsTo, bI, *] <;> done))
    · refine k_aload_n d_H_waitsToSendTo_16 rfl ?_
      refine cT_get d_H_waitsToSendTo_17 f_H_15 (by first | assumption | omega) (by decide) (by decide) ?_
      refine k_iconst (v := 4) d_H_waitsToSendTo_20 (by decide) ?_
      refine k_icmp_ne d_H_waitsToSendTo_21 (fun h21 => ?_) (fun h21 => ?_)
      · refine k_iconst (v := 0) d_H_waitsToSendTo_36 (by decide) ?_
        exact k_zret d_H_waitsToSendTo_37 rfl (by first | rfl | exact nb_bI _) (by first | rfl | (simp [cWaitsTo, bI] <;> done) | (simp [cWaitsTo, bI, *] <;> done)) (by first | rfl | (simp [cWaitsTo, bI] <;> done) | (simp [cWaitsTo, bI, *] <;> done))
      · refine k_aload_n d_H_waitsToSendTo_24 rfl ?_
        refine cT_get d_H_waitsToSendTo_25 f_H_46 (by first | assumption | omega) (by decide) (by decide) ?_
        refine k_iload_n d_H_waitsToSendTo_28 rfl ?_
        refine k_icmp_ne d_H_waitsToSendTo_29 (fun h29 => ?_) (fun h29 => ?_)
        · refine k_iconst (v := 0) d_H_waitsToSendTo_36 (by decide) ?_
          exact k_zret d_H_waitsToSendTo_37 rfl (by first | rfl | exact nb_bI _) (by first | rfl | (simp [cWaitsTo, bI] <;> done) | (simp [cWaitsTo, bI, *] <;> done)) (by first | rfl | (simp [cWaitsTo, bI] <;> done) | (simp [cWaitsTo, bI, *] <;> done))
        · refine k_iconst (v := 1) d_H_waitsToSendTo_32 (by decide) ?_
          refine k_goto d_H_waitsToSendTo_33 ?_
          exact k_zret d_H_waitsToSendTo_37 rfl (by first | rfl | exact nb_bI _) (by first | rfl | (simp [cWaitsTo, bI] <;> done) | (simp [cWaitsTo, bI, *] <;> done)) (by first | rfl | (simp [cWaitsTo, bI] <;> done) | (simp [cWaitsTo, bI, *] <;> done))

set_option maxRecDepth 4000 in
theorem c_H_receivesFrom {l : Launch} {D : va_G} {cI cB cT : ClassId} {ad : Nat → Nat} {d : Nat} {u : kSt} {i : Nat} {t : Int32} (hi : i < 8) : KSp (kWl lyC l D cI cB cT ad) y_H_receivesFrom m_H_receivesFrom d [.ref (8 + i), .int t] u (some (.int (bI (cRecv u i t)))) u := by
  refine KSp.of (by decide) rfl (Nat.le_of_ble_eq_true rfl) rfl ?_
  show KAt (kWl lyC l D cI cB cT ad) m_H_receivesFrom d 0 [some (.ref (8 + i)), some (.int t)] [] u (some (.int (bI (cRecv u i t)))) u
  refine k_aload_n d_H_receivesFrom_0 rfl ?_
  refine cT_get d_H_receivesFrom_1 f_H_15 (by first | assumption | omega) (by decide) (by decide) ?_
  refine k_iconst (v := 2) d_H_receivesFrom_4 (by decide) ?_
  refine k_icmp_ne d_H_receivesFrom_5 (fun h5 => ?_) (fun h5 => ?_)
  · refine k_iconst (v := 0) d_H_receivesFrom_28 (by decide) ?_
    exact k_zret d_H_receivesFrom_29 rfl (by first | rfl | exact nb_bI _) (by first | rfl | (simp [cRecv, bI] <;> done) | (simp [cRecv, bI, *] <;> done)) (by first | rfl | (simp [cRecv, bI] <;> done) | (simp [cRecv, bI, *] <;> done))
  · refine k_aload_n d_H_receivesFrom_8 rfl ?_
    refine cT_get d_H_receivesFrom_9 f_H_46 (by first | assumption | omega) (by decide) (by decide) ?_
    refine k_iconst (v := (-1)) d_H_receivesFrom_12 (by decide) ?_
    refine k_icmp_eq d_H_receivesFrom_13 (fun h13 => ?_) (fun h13 => ?_)
    · refine k_iconst (v := 1) d_H_receivesFrom_24 (by decide) ?_
      refine k_goto d_H_receivesFrom_25 ?_
      exact k_zret d_H_receivesFrom_29 rfl (by first | rfl | exact nb_bI _) (by first | rfl | (simp [cRecv, bI] <;> done) | (simp [cRecv, bI, *] <;> done)) (by first | rfl | (simp [cRecv, bI] <;> done) | (simp [cRecv, bI, *] <;> done))
    · refine k_aload_n d_H_receivesFrom_16 rfl ?_
      refine cT_get d_H_receivesFrom_17 f_H_46 (by first | assumption | omega) (by decide) (by decide) ?_
      refine k_iload_n d_H_receivesFrom_20 rfl ?_
      refine k_icmp_ne d_H_receivesFrom_21 (fun h21 => ?_) (fun h21 => ?_)
      · refine k_iconst (v := 0) d_H_receivesFrom_28 (by decide) ?_
        exact k_zret d_H_receivesFrom_29 rfl (by first | rfl | exact nb_bI _) (by first | rfl | (simp [cRecv, bI] <;> done) | (simp [cRecv, bI, *] <;> done)) (by first | rfl | (simp [cRecv, bI] <;> done) | (simp [cRecv, bI, *] <;> done))
      · refine k_iconst (v := 1) d_H_receivesFrom_24 (by decide) ?_
        refine k_goto d_H_receivesFrom_25 ?_
        exact k_zret d_H_receivesFrom_29 rfl (by first | rfl | exact nb_bI _) (by first | rfl | (simp [cRecv, bI] <;> done) | (simp [cRecv, bI, *] <;> done)) (by first | rfl | (simp [cRecv, bI] <;> done) | (simp [cRecv, bI, *] <;> done))

set_option maxRecDepth 4000 in
theorem c_H_takesFrom {l : Launch} {D : va_G} {cI cB cT : ClassId} {ad : Nat → Nat} {d : Nat} {u : kSt} {i : Nat} {t : Int32} (hi : i < 8) : KSp (kWl lyC l D cI cB cT ad) y_H_takesFrom m_H_takesFrom (d + 1) [.ref (8 + i), .int t] u (some (.int (bI (cTakes u i t)))) u := by
  refine KSp.of (by decide) rfl (Nat.le_of_ble_eq_true rfl) rfl ?_
  show KAt (kWl lyC l D cI cB cT ad) m_H_takesFrom (d + 1) 0 [some (.ref (8 + i)), some (.int t)] [] u (some (.int (bI (cTakes u i t)))) u
  refine k_aload_n d_H_takesFrom_0 rfl ?_
  refine k_iload_n d_H_takesFrom_1 rfl ?_
  refine k_virt1s d_H_takesFrom_2 l_H_60 g_H_receivesFrom (c_H_receivesFrom hi) (rcvT (by first | assumption | omega)) (Nat.le_of_ble_eq_true rfl) ?_
  refine k_if_neB d_H_takesFrom_5 (fun h5 => ?_) (fun h5 => ?_)
  · refine k_iconst (v := 1) d_H_takesFrom_24 (by decide) ?_
    refine k_goto d_H_takesFrom_25 ?_
    exact k_zret d_H_takesFrom_29 rfl (by first | rfl | exact nb_bI _) (by first | rfl | (simp [cTakes, bI] <;> done) | (simp [cTakes, bI, *] <;> done)) (by first | rfl | (simp [cTakes, bI] <;> done) | (simp [cTakes, bI, *] <;> done))
  · refine k_aload_n d_H_takesFrom_8 rfl ?_
    refine cT_get d_H_takesFrom_9 f_H_15 (by first | assumption | omega) (by decide) (by decide) ?_
    refine k_iconst (v := 5) d_H_takesFrom_12 (by decide) ?_
    refine k_icmp_ne d_H_takesFrom_13 (fun h13 => ?_) (fun h13 => ?_)
    · refine k_iconst (v := 0) d_H_takesFrom_28 (by decide) ?_
      exact k_zret d_H_takesFrom_29 rfl (by first | rfl | exact nb_bI _) (by first | rfl | (simp [cTakes, bI] <;> done) | (simp [cTakes, bI, *] <;> done)) (by first | rfl | (simp [cTakes, bI] <;> done) | (simp [cTakes, bI, *] <;> done))
    · refine k_aload_n d_H_takesFrom_16 rfl ?_
      refine cT_get d_H_takesFrom_17 f_H_46 (by first | assumption | omega) (by decide) (by decide) ?_
      refine k_iload_n d_H_takesFrom_20 rfl ?_
      refine k_icmp_ne d_H_takesFrom_21 (fun h21 => ?_) (fun h21 => ?_)
      · refine k_iconst (v := 0) d_H_takesFrom_28 (by decide) ?_
        exact k_zret d_H_takesFrom_29 rfl (by first | rfl | exact nb_bI _) (by first | rfl | (simp [cTakes, bI] <;> done) | (simp [cTakes, bI, *] <;> done)) (by first | rfl | (simp [cTakes, bI] <;> done) | (simp [cTakes, bI, *] <;> done))
      · refine k_iconst (v := 1) d_H_takesFrom_24 (by decide) ?_
        refine k_goto d_H_takesFrom_25 ?_
        exact k_zret d_H_takesFrom_29 rfl (by first | rfl | exact nb_bI _) (by first | rfl | (simp [cTakes, bI] <;> done) | (simp [cTakes, bI, *] <;> done)) (by first | rfl | (simp [cTakes, bI] <;> done) | (simp [cTakes, bI, *] <;> done))

theorem c_H_begin_loop {l : Launch} {D : va_G} {cI cB cT : ClassId} {ad : Nat → Nat} {d : Nat} {u : kSt} {i : Nat} {sp pg : Int32} (hi : i < 8) : ∀ (n k : Nat), k + n = 4 → KAt (kWl lyC l D cI cB cT ad) m_H_begin d 2 [some (.ref (8 + i)), some (.int sp), some (.int pg), some (.int (nI k))] [] (cClear u i k) none (cBegin u i sp pg) := by
  intro n
  induction n with
  | zero =>
    intro k hk
    obtain rfl : k = 4 := by omega
    refine k_iload_n d_H_begin_2 rfl ?_
    refine k_iconst (v := 4) d_H_begin_3 (by decide) ?_
    refine k_icmp_ge d_H_begin_4 (fun h4 => ?_) (fun h4 => absurd h4 (fun z => z (by decide)))
    refine k_aload_n d_H_begin_20 rfl ?_
    refine k_iconst (v := 0) d_H_begin_21 (by decide) ?_
    refine cT_put d_H_begin_22 p_H_15 (by first | assumption | omega) (by decide) (by decide) rfl rfl ?_
    refine k_aload_n d_H_begin_25 rfl ?_
    refine k_iload_n d_H_begin_26 rfl ?_
    refine cT_put d_H_begin_27 p_H_22 (by first | assumption | omega) (by decide) (by decide) rfl rfl ?_
    refine k_aload_n d_H_begin_30 rfl ?_
    refine k_iload_n d_H_begin_31 rfl ?_
    refine cT_put d_H_begin_32 p_H_25 (by first | assumption | omega) (by decide) (by decide) rfl rfl ?_
    refine k_aload_n d_H_begin_35 rfl ?_
    refine k_iconst (v := (-1)) d_H_begin_36 (by decide) ?_
    refine cT_put d_H_begin_37 p_H_28 (by first | assumption | omega) (by decide) (by decide) rfl rfl ?_
    refine k_aload_n d_H_begin_40 rfl ?_
    refine k_iconst (v := (-1)) d_H_begin_41 (by decide) ?_
    refine cT_put d_H_begin_42 p_H_31 (by first | assumption | omega) (by decide) (by decide) rfl rfl ?_
    refine k_aload_n d_H_begin_45 rfl ?_
    refine k_iconst (v := 0) d_H_begin_46 (by decide) ?_
    refine cT_put d_H_begin_47 p_H_34 (by first | assumption | omega) (by decide) (by decide) rfl rfl ?_
    refine k_aload_n d_H_begin_50 rfl ?_
    refine k_iconst (v := (-1)) d_H_begin_51 (by decide) ?_
    refine cT_put d_H_begin_52 p_H_37 (by first | assumption | omega) (by decide) (by decide) rfl rfl ?_
    refine k_aload_n d_H_begin_55 rfl ?_
    refine k_iconst (v := 0) d_H_begin_56 (by decide) ?_
    refine cT_put d_H_begin_57 p_H_40 (by first | assumption | omega) (by decide) (by decide) rfl rfl ?_
    refine k_aload_n d_H_begin_60 rfl ?_
    refine k_iconst (v := 0) d_H_begin_61 (by decide) ?_
    refine cT_put d_H_begin_62 p_H_43 (by first | assumption | omega) (by decide) (by decide) rfl rfl ?_
    exact k_vret d_H_begin_65 rfl rfl (by first | rfl | (simp [cBegin] <;> done) | (simp [cBegin, *] <;> done))
  | succ n ih =>
    intro k hk
    refine k_iload_n d_H_begin_2 rfl ?_
    refine k_iconst (v := 4) d_H_begin_3 (by decide) ?_
    refine k_icmp_ge d_H_begin_4 (fun h4 => absurd h4 (nI_ge (a := k) (b := 4) (by omega) (by decide))) (fun h4 => ?_)
    refine k_aload_n d_H_begin_7 rfl ?_
    refine cT_reg d_H_begin_8 f_H_9 (by first | assumption | omega) ?_
    refine k_iload_n d_H_begin_11 rfl ?_
    refine k_iconst (v := 0) d_H_begin_12 (by decide) ?_
    refine cR_ast d_H_begin_13 (by first | assumption | omega) (by first | assumption | (unfold vp_in; decide) | exact vin (by assumption) (by assumption) | exact vin_n (by assumption) | exact vin_n (by omega)) ?_
    rw [ix_nI (n := k) (by omega)]
    refine k_incN d_H_begin_14 rfl (by decide) ?_
    refine k_goto d_H_begin_17 ?_
    exact ih (k + 1) (by omega)

set_option maxRecDepth 4000 in
theorem c_H_begin {l : Launch} {D : va_G} {cI cB cT : ClassId} {ad : Nat → Nat} {d : Nat} {u : kSt} {i : Nat} {sp pg : Int32} (hi : i < 8) : KSp (kWl lyC l D cI cB cT ad) y_H_begin m_H_begin d [.ref (8 + i), .int sp, .int pg] u none (cBegin u i sp pg) := by
  refine KSp.of (by decide) rfl (Nat.le_of_ble_eq_true rfl) rfl ?_
  show KAt (kWl lyC l D cI cB cT ad) m_H_begin d 0 [some (.ref (8 + i)), some (.int sp), some (.int pg), none] [] u none (cBegin u i sp pg)
  refine k_iconst (v := 0) d_H_begin_0 (by decide) ?_
  refine k_istore_n d_H_begin_1 (by decide) ?_
  exact c_H_begin_loop hi 4 0 rfl

theorem c_H_outlive_2 {l : Launch} {D : va_G} {cI cB cT : ClassId} {ad : Nat → Nat} {d : Nat} {u : kSt} {i : Nat} {t : Int32} (hi : i < 8) : KAt (kWl lyC l D cI cB cT ad) m_H_outlive d 20 [some (.ref (8 + i)), some (.int t)] [] u none (cOut2 u i t) := by
  refine k_aload_n d_H_outlive_20 rfl ?_
  refine cT_get d_H_outlive_21 f_H_25 (by first | assumption | omega) (by decide) (by decide) ?_
  refine k_iload_n d_H_outlive_24 rfl ?_
  refine k_icmp_ne d_H_outlive_25 (fun h25 => ?_) (fun h25 => ?_)
  · exact k_vret d_H_outlive_55 rfl rfl (by simp [cOut2, kup] at * <;> simp [*])
  · refine k_aload_n d_H_outlive_28 rfl ?_
    refine k_iconst (v := (-1)) d_H_outlive_29 (by decide) ?_
    refine cT_put d_H_outlive_30 p_H_25 (by first | assumption | omega) (by decide) (by decide) rfl rfl ?_
    refine k_aload_n d_H_outlive_33 rfl ?_
    refine cT_get d_H_outlive_34 f_H_15 (by first | assumption | omega) (by decide) (by decide) ?_
    refine k_iconst (v := 4) d_H_outlive_37 (by decide) ?_
    refine k_icmp_eq d_H_outlive_38 (fun h38 => ?_) (fun h38 => ?_)
    · refine k_aload_n d_H_outlive_49 rfl ?_
      refine k_bipush (v := 6) d_H_outlive_50 (by decide) ?_
      refine cT_put d_H_outlive_52 p_H_15 (by first | assumption | omega) (by decide) (by decide) rfl rfl ?_
      exact k_vret d_H_outlive_55 rfl rfl (by simp [cOut2, kup] at * <;> simp [*])
    · refine k_aload_n d_H_outlive_41 rfl ?_
      refine cT_get d_H_outlive_42 f_H_15 (by first | assumption | omega) (by decide) (by decide) ?_
      refine k_iconst (v := 5) d_H_outlive_45 (by decide) ?_
      refine k_icmp_ne d_H_outlive_46 (fun h46 => ?_) (fun h46 => ?_)
      · exact k_vret d_H_outlive_55 rfl rfl (by simp [cOut2, kup] at * <;> simp [*])
      · refine k_aload_n d_H_outlive_49 rfl ?_
        refine k_bipush (v := 6) d_H_outlive_50 (by decide) ?_
        refine cT_put d_H_outlive_52 p_H_15 (by first | assumption | omega) (by decide) (by decide) rfl rfl ?_
        exact k_vret d_H_outlive_55 rfl rfl (by simp [cOut2, kup] at * <;> simp [*])

set_option maxRecDepth 4000 in
theorem c_H_outlive {l : Launch} {D : va_G} {cI cB cT : ClassId} {ad : Nat → Nat} {d : Nat} {u : kSt} {i : Nat} {t : Int32} (hi : i < 8) : KSp (kWl lyC l D cI cB cT ad) y_H_outlive m_H_outlive (d + 1) [.ref (8 + i), .int t] u none (cOutlive u i t) := by
  refine KSp.of (by decide) rfl (Nat.le_of_ble_eq_true rfl) rfl ?_
  show KAt (kWl lyC l D cI cB cT ad) m_H_outlive (d + 1) 0 [some (.ref (8 + i)), some (.int t)] [] u none (cOutlive u i t)
  refine k_aload_n d_H_outlive_0 rfl ?_
  refine k_virt0s d_H_outlive_1 l_H_52 g_H_waitsForThread (c_H_waitsForThread hi) (rcvT (by first | assumption | omega)) (Nat.le_of_ble_eq_true rfl) ?_
  refine k_if_eqB d_H_outlive_4 (fun h4 => ?_) (fun h4 => ?_)
  · exact (c_H_outlive_2 hi).to rfl (by simp [cOutlive, cOut1, *])
  · refine k_aload_n d_H_outlive_7 rfl ?_
    refine cT_get d_H_outlive_8 f_H_46 (by first | assumption | omega) (by decide) (by decide) ?_
    refine k_iload_n d_H_outlive_11 rfl ?_
    refine k_icmp_ne d_H_outlive_12 (fun h12 => ?_) (fun h12 => ?_)
    · exact (c_H_outlive_2 hi).to rfl (by simp [cOutlive, cOut1, *])
    · refine k_aload_n d_H_outlive_15 rfl ?_
      refine k_iconst (v := 2) d_H_outlive_16 (by decide) ?_
      refine k_virt1v d_H_outlive_17 l_H_56 g_H_run (c_H_run hi) (rcvT (by first | assumption | omega)) (Nat.le_of_ble_eq_true rfl) ?_
      exact (c_H_outlive_2 hi).to rfl (by simp [cOutlive, cOut1, *])

end KCH
end
section
section KCP
set_option maxRecDepth 4000 in
theorem c_P_holds {l : Launch} {D : va_G} {cI cB cT : ClassId} {ad : Nat → Nat} {d : Nat} {u : kSt} {k : Nat} (hk : k < 96) : KSp (kWl lyC l D cI cB cT ad) y_P_holds m_P_holds d [.ref 2, .int (nI k)] u (some (.int (bI (cHolds u k)))) u := by
  refine KSp.of (by decide) rfl (Nat.le_of_ble_eq_true rfl) rfl ?_
  show KAt (kWl lyC l D cI cB cT ad) m_P_holds d 0 [some (.ref 2), some (.int (nI k))] [] u (some (.int (bI (cHolds u k)))) u
  refine k_aload_n d_P_holds_0 rfl ?_
  refine k_getr (t := 4) d_P_holds_1 f_P_9 (by decide) rfl (by decide) (by decide) rfl ?_
  refine k_iload_n d_P_holds_4 rfl ?_
  refine k_ialdN (n := 96) d_P_holds_5 (by decide) rfl rfl (by first | assumption | omega) (by decide) ?_
  refine k_if_eq d_P_holds_6 (fun h6 => ?_) (fun h6 => ?_)
  · refine k_iconst (v := 0) d_P_holds_13 (by decide) ?_
    exact k_zret d_P_holds_14 rfl (by first | rfl | exact nb_bI _) (by first | rfl | (simp [cHolds, bI] <;> done) | (simp [cHolds, bI, *] <;> done)) (by first | rfl | (simp [cHolds, bI] <;> done) | (simp [cHolds, bI, *] <;> done))
  · refine k_iconst (v := 1) d_P_holds_9 (by decide) ?_
    refine k_goto d_P_holds_10 ?_
    exact k_zret d_P_holds_14 rfl (by first | rfl | exact nb_bI _) (by first | rfl | (simp [cHolds, bI] <;> done) | (simp [cHolds, bI, *] <;> done)) (by first | rfl | (simp [cHolds, bI] <;> done) | (simp [cHolds, bI, *] <;> done))

set_option maxRecDepth 4000 in
theorem c_P_describe {l : Launch} {D : va_G} {cI cB cT : ClassId} {ad : Nat → Nat} {d : Nat} {u : kSt} {k : Nat} (hk : k < 96) : KSp (kWl lyC l D cI cB cT ad) y_P_describe m_P_describe (d + 1) [.ref 2, .int (nI k)] u (some (.int (cDescribe u k))) u := by
  refine KSp.of (by decide) rfl (Nat.le_of_ble_eq_true rfl) rfl ?_
  show KAt (kWl lyC l D cI cB cT ad) m_P_describe (d + 1) 0 [some (.ref 2), some (.int (nI k))] [] u (some (.int (cDescribe u k))) u
  refine k_aload_n d_P_describe_0 rfl ?_
  refine k_iload_n d_P_describe_1 rfl ?_
  refine k_virt1s d_P_describe_2 l_P_24 g_P_holds (c_P_holds hk) rcvP (Nat.le_of_ble_eq_true rfl) ?_
  refine k_if_eqB d_P_describe_5 (fun h5 => ?_) (fun h5 => ?_)
  · refine k_iconst (v := (-1)) d_P_describe_38 (by decide) ?_
    exact k_iret d_P_describe_39 rfl (by first | rfl | (simp [cDescribe] <;> done) | (simp [cDescribe, *] <;> done)) (by first | rfl | (simp [cDescribe] <;> done) | (simp [cDescribe, *] <;> done))
  · refine k_sipush (v := 1000) d_P_describe_8 (by decide) ?_
    refine k_aload_n d_P_describe_11 rfl ?_
    refine k_getr (t := 6) d_P_describe_12 f_P_18 (by decide) rfl (by decide) (by decide) rfl ?_
    refine k_iload_n d_P_describe_15 rfl ?_
    refine k_ialdN (n := 96) d_P_describe_16 (by decide) rfl rfl (by first | assumption | omega) (by decide) ?_
    refine k_imul d_P_describe_17 ?_
    refine k_bipush (v := 10) d_P_describe_18 (by decide) ?_
    refine k_aload_n d_P_describe_20 rfl ?_
    refine k_getr (t := 5) d_P_describe_21 f_P_15 (by decide) rfl (by decide) (by decide) rfl ?_
    refine k_iload_n d_P_describe_24 rfl ?_
    refine k_ialdN (n := 96) d_P_describe_25 (by decide) rfl rfl (by first | assumption | omega) (by decide) ?_
    refine k_imul d_P_describe_26 ?_
    refine k_iadd d_P_describe_27 ?_
    refine k_aload_n d_P_describe_28 rfl ?_
    refine k_getr (t := 4) d_P_describe_29 f_P_9 (by decide) rfl (by decide) (by decide) rfl ?_
    refine k_iload_n d_P_describe_32 rfl ?_
    refine k_ialdN (n := 96) d_P_describe_33 (by decide) rfl rfl (by first | assumption | omega) (by decide) ?_
    refine k_iadd d_P_describe_34 ?_
    refine k_goto d_P_describe_35 ?_
    exact k_iret d_P_describe_39 rfl (by first | rfl | (simp [cDescribe] <;> done) | (simp [cDescribe, *] <;> done)) (by first | rfl | (simp [cDescribe] <;> done) | (simp [cDescribe, *] <;> done))

theorem c_P_descends_loop {l : Launch} {D : va_G} {cI cB cT : ClassId} {ad : Nat → Nat} {d : Nat} {u : kSt} {k : Nat} {z : Int32} (hp : cPar u) : ∀ (n : Nat) (a : Int32), n < 100 → (a = -1 ∨ ∃ p, p < 96 ∧ a = nI p) → KAt (kWl lyC l D cI cB cT ad) m_P_descends d 10 [some (.ref 2), some (.int (nI k)), some (.int z), some (.int a), some (.int (nI n))] [] u (some (.int (bI (cUp u z n a)))) u := by
  intro n
  induction n with
  | zero =>
    intro a hn ha
    refine k_iload d_P_descends_10 rfl ?_
    refine k_if_le d_P_descends_12 (fun h12 => ?_) (fun h12 => absurd h12 (fun z => z (by decide)))
    refine k_iconst (v := 0) d_P_descends_40 (by decide) ?_
    exact k_zret d_P_descends_41 rfl (by first | rfl | exact nb_bI _) (by first | rfl | (simp [cUp, bI] <;> done) | (simp [cUp, bI, *] <;> done)) (by first | rfl | (simp [cUp, bI] <;> done) | (simp [cUp, bI, *] <;> done))
  | succ n ih =>
    intro a hn ha
    rcases ha with rfl | ⟨p, hq, rfl⟩
    · have h0 := nI_nle (n := n + 1) (by omega) (by omega)
      refine k_iload d_P_descends_10 rfl ?_
      refine k_if_le d_P_descends_12 (fun h12 => absurd h12 h0) (fun h12 => ?_)
      refine k_iload_n d_P_descends_15 rfl ?_
      refine k_iconst (v := (-1)) d_P_descends_16 (by decide) ?_
      refine k_icmp_eq d_P_descends_17 (fun h17 => ?_) (fun h17 => absurd h17 (fun z => z rfl))
      refine k_iconst (v := 0) d_P_descends_40 (by decide) ?_
      exact k_zret d_P_descends_41 rfl (by first | rfl | exact nb_bI _) (by first | rfl | (simp [cUp, bI] <;> done) | (simp [cUp, bI, *] <;> done)) (by first | rfl | (simp [cUp, bI] <;> done) | (simp [cUp, bI, *] <;> done))
    · have h0 := nI_nle (n := n + 1) (by omega) (by omega)
      have h1 : ¬ nI p = -1 := fun e => nI_pos (n := p) (by omega) (by rw [e]; decide)
      have h2 := ix_nI (n := p) (by omega)
      refine k_iload d_P_descends_10 rfl ?_
      refine k_if_le d_P_descends_12 (fun h12 => absurd h12 h0) (fun h12 => ?_)
      refine k_iload_n d_P_descends_15 rfl ?_
      refine k_iconst (v := (-1)) d_P_descends_16 (by decide) ?_
      refine k_icmp_eq d_P_descends_17 (fun h17 => absurd h17 h1) (fun h17 => ?_)
      refine k_aload_n d_P_descends_20 rfl ?_
      refine k_getr (t := 7) d_P_descends_21 f_P_21 (by decide) rfl (by decide) (by decide) rfl ?_
      refine k_iload_n d_P_descends_24 rfl ?_
      refine k_ialdN (n := 96) d_P_descends_25 (by decide) rfl rfl (by first | assumption | omega) (by decide) ?_
      refine k_istore_n d_P_descends_26 (by decide) ?_
      refine k_iload_n d_P_descends_27 rfl ?_
      refine k_iload_n d_P_descends_28 rfl ?_
      refine k_icmp_ne d_P_descends_29 (fun h29 => ?_) (fun h29 => ?_)
      · refine k_decN d_P_descends_34 rfl (by decide) ?_
        refine k_goto d_P_descends_37 ?_
        exact (ih _ (by omega) (hp p hq)).to (by simp [cUp, *]) rfl
      · refine k_iconst (v := 1) d_P_descends_32 (by decide) ?_
        exact k_zret d_P_descends_33 rfl (by first | rfl | exact nb_bI _) (by first | rfl | (simp [cUp, bI] <;> done) | (simp [cUp, bI, *] <;> done)) (by first | rfl | (simp [cUp, bI] <;> done) | (simp [cUp, bI, *] <;> done))

set_option maxRecDepth 4000 in
theorem c_P_descends {l : Launch} {D : va_G} {cI cB cT : ClassId} {ad : Nat → Nat} {d : Nat} {u : kSt} {k : Nat} {z : Int32} (hk : k < 96) (hp : cPar u) (hd : cDep u) : KSp (kWl lyC l D cI cB cT ad) y_P_descends m_P_descends d [.ref 2, .int (nI k), .int z] u (some (.int (bI (cDesc u k z)))) u := by
  refine KSp.of (by decide) rfl (Nat.le_of_ble_eq_true rfl) rfl ?_
  show KAt (kWl lyC l D cI cB cT ad) m_P_descends d 0 [some (.ref 2), some (.int (nI k)), some (.int z), none, none] [] u (some (.int (bI (cDesc u k z)))) u
  refine k_iload_n d_P_descends_0 rfl ?_
  refine k_istore_n d_P_descends_1 (by decide) ?_
  refine k_aload_n d_P_descends_2 rfl ?_
  refine k_getr (t := 6) d_P_descends_3 f_P_18 (by decide) rfl (by decide) (by decide) rfl ?_
  refine k_iload_n d_P_descends_6 rfl ?_
  refine k_ialdN (n := 96) d_P_descends_7 (by decide) rfl rfl (by first | assumption | omega) (by decide) ?_
  refine k_istore d_P_descends_8 (by decide) ?_
  obtain ⟨e, he, he2⟩ := hd k hk
  have h2 := ix_nI (n := e) (by omega)
  rw [he2]
  exact (c_P_descends_loop hp e _ (by omega) (Or.inr ⟨k, hk, rfl⟩)).to (by simp [cDesc, he2, h2]) rfl

theorem c_P_countDescendants_loop {l : Launch} {D : va_G} {cI cB cT : ClassId} {ad : Nat → Nat} {d : Nat} {u : kSt} {z : Int32} (hp : cPar u) (hd : cDep u) (N : Nat) (hN : N = 96) : ∀ (n k : Nat) (a : Int32), k + n = N → a = cCount u z k → KAt (kWl lyC l D cI cB cT ad) m_P_countDescendants (d + 1) 4 [some (.ref 2), some (.int z), some (.int a), some (.int (nI k))] [] u (some (.int (cCount u z N))) u := by
  intro n
  induction n with
  | zero =>
    intro k a hk ha
    subst ha
    obtain rfl : k = N := by omega
    have h0 : ¬ ¬ (96 : Int32) ≤ nI k := by rw [hN]; decide
    refine k_iload_n d_P_countDescendants_4 rfl ?_
    refine k_bipush (v := 96) d_P_countDescendants_5 (by decide) ?_
    refine k_icmp_ge d_P_countDescendants_7 (fun h7 => ?_) (fun h7 => absurd h7 h0)
    refine k_iload_n d_P_countDescendants_36 rfl ?_
    exact k_iret d_P_countDescendants_37 rfl (by first | rfl | (simp [bI] <;> done) | (simp [bI, *] <;> done)) (by first | rfl | (simp [bI] <;> done) | (simp [bI, *] <;> done))
  | succ n ih =>
    intro k a hk ha
    subst ha
    have hk2 : k < 96 := by omega
    have h0 : ¬ (96 : Int32) ≤ nI k := nI_ge (a := k) (b := 96) hk2 (by decide)
    refine k_iload_n d_P_countDescendants_4 rfl ?_
    refine k_bipush (v := 96) d_P_countDescendants_5 (by decide) ?_
    refine k_icmp_ge d_P_countDescendants_7 (fun h7 => absurd h7 h0) (fun h7 => ?_)
    refine k_aload_n d_P_countDescendants_10 rfl ?_
    refine k_iload_n d_P_countDescendants_11 rfl ?_
    refine k_virt1s d_P_countDescendants_12 l_P_24 g_P_holds (c_P_holds hk2) rcvP (Nat.le_of_ble_eq_true rfl) ?_
    refine k_if_eqB d_P_countDescendants_15 (fun h15 => ?_) (fun h15 => ?_)
    · refine k_incN d_P_countDescendants_30 rfl (by decide) ?_
      refine k_goto d_P_countDescendants_33 ?_
      exact ih (k + 1) _ (by omega) (by simp [cCount, *])
    · refine k_aload_n d_P_countDescendants_18 rfl ?_
      refine k_iload_n d_P_countDescendants_19 rfl ?_
      refine k_iload_n d_P_countDescendants_20 rfl ?_
      refine k_virt2s d_P_countDescendants_21 l_P_28 g_P_descends (c_P_descends hk2 hp hd) rcvP (Nat.le_of_ble_eq_true rfl) ?_
      refine k_if_eqB d_P_countDescendants_24 (fun h24 => ?_) (fun h24 => ?_)
      · refine k_incN d_P_countDescendants_30 rfl (by decide) ?_
        refine k_goto d_P_countDescendants_33 ?_
        exact ih (k + 1) _ (by omega) (by simp [cCount, *])
      · refine k_inc1 d_P_countDescendants_27 rfl (by decide) ?_
        refine k_incN d_P_countDescendants_30 rfl (by decide) ?_
        refine k_goto d_P_countDescendants_33 ?_
        exact ih (k + 1) _ (by omega) (by simp [cCount, *])

set_option maxRecDepth 4000 in
theorem c_P_countDescendants {l : Launch} {D : va_G} {cI cB cT : ClassId} {ad : Nat → Nat} {d : Nat} {u : kSt} {z : Int32} (hp : cPar u) (hd : cDep u) : KSp (kWl lyC l D cI cB cT ad) y_P_countDescendants m_P_countDescendants (d + 1) [.ref 2, .int z] u (some (.int (cCount u z 96))) u := by
  refine KSp.of (by decide) rfl (Nat.le_of_ble_eq_true rfl) rfl ?_
  show KAt (kWl lyC l D cI cB cT ad) m_P_countDescendants (d + 1) 0 [some (.ref 2), some (.int z), none, none] [] u (some (.int (cCount u z 96))) u
  refine k_iconst (v := 0) d_P_countDescendants_0 (by decide) ?_
  refine k_istore_n d_P_countDescendants_1 (by decide) ?_
  refine k_iconst (v := 0) d_P_countDescendants_2 (by decide) ?_
  refine k_istore_n d_P_countDescendants_3 (by decide) ?_
  exact c_P_countDescendants_loop hp hd 96 rfl 96 0 _ rfl rfl

set_option maxRecDepth 4000 in
theorem c_P_lower {l : Launch} {D : va_G} {cI cB cT : ClassId} {ad : Nat → Nat} {d : Nat} {u : kSt} {k : Nat} {m : Int32} (hk : k < 96) : KSp (kWl lyC l D cI cB cT ad) y_P_lower m_P_lower d [.ref 2, .int (nI k), .int m] u (some (.int (cLowerN u k m))) (cLower u k m) := by
  refine KSp.of (by decide) rfl (Nat.le_of_ble_eq_true rfl) rfl ?_
  show KAt (kWl lyC l D cI cB cT ad) m_P_lower d 0 [some (.ref 2), some (.int (nI k)), some (.int m)] [] u (some (.int (cLowerN u k m))) (cLower u k m)
  refine k_aload_n d_P_lower_0 rfl ?_
  refine k_getr (t := 4) d_P_lower_1 f_P_9 (by decide) rfl (by decide) (by decide) rfl ?_
  refine k_iload_n d_P_lower_4 rfl ?_
  refine k_ialdN (n := 96) d_P_lower_5 (by decide) rfl rfl (by first | assumption | omega) (by decide) ?_
  refine k_iload_n d_P_lower_6 rfl ?_
  refine k_icmp_gt d_P_lower_7 (fun h7 => ?_) (fun h7 => ?_)
  · refine k_aload_n d_P_lower_12 rfl ?_
    refine k_getr (t := 4) d_P_lower_13 f_P_9 (by decide) rfl (by decide) (by decide) rfl ?_
    refine k_iload_n d_P_lower_16 rfl ?_
    refine k_iload_n d_P_lower_17 rfl ?_
    refine k_iastN (n := 96) d_P_lower_18 (by decide) rfl rfl (by first | assumption | omega) (by decide) ?_
    refine k_iconst (v := 1) d_P_lower_19 (by decide) ?_
    exact k_iret d_P_lower_20 rfl (by first | rfl | (simp [cLower, cLowerN] <;> done) | (simp [cLower, cLowerN, *] <;> done)) (by first | rfl | (simp [cLower, cLowerN] <;> done) | (simp [cLower, cLowerN, *] <;> done))
  · refine k_iconst (v := 0) d_P_lower_10 (by decide) ?_
    exact k_iret d_P_lower_11 rfl (by first | rfl | (simp [cLower, cLowerN] <;> done) | (simp [cLower, cLowerN, *] <;> done)) (by first | rfl | (simp [cLower, cLowerN] <;> done) | (simp [cLower, cLowerN, *] <;> done))

theorem cLower_ne {u : kSt} {k a : Nat} {m : Int32} (ha : a ≠ 4) : cLower u k m a = u a := by
  unfold cLower
  split
  · exact kup_ne u k m ha
  · rfl
theorem cLow_ne {u : kSt} {z m : Int32} {a : Nat} (ha : a ≠ 4) : ∀ n, cLow u z m n a = u a
  | 0 => rfl
  | n + 1 => by
    unfold cLow
    split
    · rw [cLower_ne ha, cLow_ne ha n]
    · exact cLow_ne ha n
theorem cLow_par {u : kSt} {z m : Int32} (h : cPar u) (n : Nat) : cPar (cLow u z m n) := by
  intro j hj
  rw [cLow_ne (by decide)]
  exact h j hj
theorem cLow_dep {u : kSt} {z m : Int32} (h : cDep u) (n : Nat) : cDep (cLow u z m n) := by
  intro j hj
  rw [cLow_ne (by decide)]
  exact h j hj
theorem c_P_lowerDescendants_loop {l : Launch} {D : va_G} {cI cB cT : ClassId} {ad : Nat → Nat} {d : Nat} {u : kSt} {z m : Int32} (hp : cPar u) (hd : cDep u) (N : Nat) (hN : N = 96) : ∀ (n k : Nat) (a : Int32) (y : kSt), k + n = N → a = cLowN u z m k → y = cLow u z m k → KAt (kWl lyC l D cI cB cT ad) m_P_lowerDescendants (d + 1) 5 [some (.ref 2), some (.int z), some (.int m), some (.int a), some (.int (nI k))] [] y (some (.int (cLowN u z m N))) (cLow u z m N) := by
  intro n
  induction n with
  | zero =>
    intro k a y hk ha hy
    subst ha
    subst hy
    obtain rfl : k = N := by omega
    have h0 : ¬ ¬ (96 : Int32) ≤ nI k := by rw [hN]; decide
    refine k_iload d_P_lowerDescendants_5 rfl ?_
    refine k_bipush (v := 96) d_P_lowerDescendants_7 (by decide) ?_
    refine k_icmp_ge d_P_lowerDescendants_9 (fun h9 => ?_) (fun h9 => absurd h9 h0)
    refine k_iload_n d_P_lowerDescendants_47 rfl ?_
    exact k_iret d_P_lowerDescendants_48 rfl (by first | rfl | (simp [bI] <;> done) | (simp [bI, *] <;> done)) (by first | rfl | (simp [bI] <;> done) | (simp [bI, *] <;> done))
  | succ n ih =>
    intro k a y hk ha hy
    subst ha
    subst hy
    have hk2 : k < 96 := by omega
    have h0 : ¬ (96 : Int32) ≤ nI k := nI_ge (a := k) (b := 96) hk2 (by decide)
    refine k_iload d_P_lowerDescendants_5 rfl ?_
    refine k_bipush (v := 96) d_P_lowerDescendants_7 (by decide) ?_
    refine k_icmp_ge d_P_lowerDescendants_9 (fun h9 => absurd h9 h0) (fun h9 => ?_)
    refine k_aload_n d_P_lowerDescendants_12 rfl ?_
    refine k_iload d_P_lowerDescendants_13 rfl ?_
    refine k_virt1s d_P_lowerDescendants_15 l_P_24 g_P_holds (c_P_holds hk2) rcvP (Nat.le_of_ble_eq_true rfl) ?_
    refine k_if_eqB d_P_lowerDescendants_18 (fun h18 => ?_) (fun h18 => ?_)
    · refine k_incN d_P_lowerDescendants_41 rfl (by decide) ?_
      refine k_goto d_P_lowerDescendants_44 ?_
      exact ih (k + 1) _ _ (by omega) (by simp [cLowN, *]) (by simp [cLow, *])
    · refine k_aload_n d_P_lowerDescendants_21 rfl ?_
      refine k_iload d_P_lowerDescendants_22 rfl ?_
      refine k_iload_n d_P_lowerDescendants_24 rfl ?_
      refine k_virt2s d_P_lowerDescendants_25 l_P_28 g_P_descends (c_P_descends hk2 (cLow_par hp k) (cLow_dep hd k)) rcvP (Nat.le_of_ble_eq_true rfl) ?_
      refine k_if_eqB d_P_lowerDescendants_28 (fun h28 => ?_) (fun h28 => ?_)
      · refine k_incN d_P_lowerDescendants_41 rfl (by decide) ?_
        refine k_goto d_P_lowerDescendants_44 ?_
        exact ih (k + 1) _ _ (by omega) (by simp [cLowN, *]) (by simp [cLow, *])
      · refine k_iload_n d_P_lowerDescendants_31 rfl ?_
        refine k_aload_n d_P_lowerDescendants_32 rfl ?_
        refine k_iload d_P_lowerDescendants_33 rfl ?_
        refine k_iload_n d_P_lowerDescendants_35 rfl ?_
        refine k_virt2s d_P_lowerDescendants_36 l_P_32 g_P_lower (c_P_lower hk2) rcvP (Nat.le_of_ble_eq_true rfl) ?_
        refine k_iadd d_P_lowerDescendants_39 ?_
        refine k_istore_n d_P_lowerDescendants_40 (by decide) ?_
        refine k_incN d_P_lowerDescendants_41 rfl (by decide) ?_
        refine k_goto d_P_lowerDescendants_44 ?_
        exact ih (k + 1) _ _ (by omega) (by simp [cLowN, *]) (by simp [cLow, *])

set_option maxRecDepth 4000 in
theorem c_P_lowerDescendants {l : Launch} {D : va_G} {cI cB cT : ClassId} {ad : Nat → Nat} {d : Nat} {u : kSt} {z m : Int32} (hp : cPar u) (hd : cDep u) : KSp (kWl lyC l D cI cB cT ad) y_P_lowerDescendants m_P_lowerDescendants (d + 1) [.ref 2, .int z, .int m] u (some (.int (cLowN u z m 96))) (cLow u z m 96) := by
  refine KSp.of (by decide) rfl (Nat.le_of_ble_eq_true rfl) rfl ?_
  show KAt (kWl lyC l D cI cB cT ad) m_P_lowerDescendants (d + 1) 0 [some (.ref 2), some (.int z), some (.int m), none, none] [] u (some (.int (cLowN u z m 96))) (cLow u z m 96)
  refine k_iconst (v := 0) d_P_lowerDescendants_0 (by decide) ?_
  refine k_istore_n d_P_lowerDescendants_1 (by decide) ?_
  refine k_iconst (v := 0) d_P_lowerDescendants_2 (by decide) ?_
  refine k_istore d_P_lowerDescendants_3 (by decide) ?_
  exact c_P_lowerDescendants_loop hp hd 96 rfl 96 0 _ _ rfl rfl rfl

set_option maxRecDepth 4000 in
theorem c_P_derive {l : Launch} {D : va_G} {cI cB cT : ClassId} {ad : Nat → Nat} {d : Nat} {u : kSt} {s t : Nat} {m : Int32} (hs : s < 96) (ht : t < 96) : KSp (kWl lyC l D cI cB cT ad) y_P_derive m_P_derive d [.ref 2, .int (nI s), .int (nI t), .int m] u none (cDerive u s t m) := by
  refine KSp.of (by decide) rfl (Nat.le_of_ble_eq_true rfl) rfl ?_
  show KAt (kWl lyC l D cI cB cT ad) m_P_derive d 0 [some (.ref 2), some (.int (nI s)), some (.int (nI t)), some (.int m)] [] u none (cDerive u s t m)
  refine k_aload_n d_P_derive_0 rfl ?_
  refine k_getr (t := 4) d_P_derive_1 f_P_9 (by decide) rfl (by decide) (by decide) rfl ?_
  refine k_iload_n d_P_derive_4 rfl ?_
  refine k_iload_n d_P_derive_5 rfl ?_
  refine k_iastN (n := 96) d_P_derive_6 (by decide) rfl rfl (by first | assumption | omega) (by decide) ?_
  refine k_aload_n d_P_derive_7 rfl ?_
  refine k_getr (t := 5) d_P_derive_8 f_P_15 (by decide) rfl (by decide) (by decide) rfl ?_
  refine k_iload_n d_P_derive_11 rfl ?_
  refine k_aload_n d_P_derive_12 rfl ?_
  refine k_getr (t := 5) d_P_derive_13 f_P_15 (by decide) rfl (by decide) (by decide) rfl ?_
  refine k_iload_n d_P_derive_16 rfl ?_
  refine k_ialdN (n := 96) d_P_derive_17 (by decide) rfl rfl (by first | assumption | omega) (by decide) ?_
  refine k_iastN (n := 96) d_P_derive_18 (by decide) rfl rfl (by first | assumption | omega) (by decide) ?_
  refine k_aload_n d_P_derive_19 rfl ?_
  refine k_getr (t := 6) d_P_derive_20 f_P_18 (by decide) rfl (by decide) (by decide) rfl ?_
  refine k_iload_n d_P_derive_23 rfl ?_
  refine k_aload_n d_P_derive_24 rfl ?_
  refine k_getr (t := 6) d_P_derive_25 f_P_18 (by decide) rfl (by decide) (by decide) rfl ?_
  refine k_iload_n d_P_derive_28 rfl ?_
  refine k_ialdN (n := 96) d_P_derive_29 (by decide) rfl rfl (by first | assumption | omega) (by decide) ?_
  refine k_iconst (v := 1) d_P_derive_30 (by decide) ?_
  refine k_iadd d_P_derive_31 ?_
  refine k_iastN (n := 96) d_P_derive_32 (by decide) rfl rfl (by first | assumption | omega) (by decide) ?_
  refine k_aload_n d_P_derive_33 rfl ?_
  refine k_getr (t := 7) d_P_derive_34 f_P_21 (by decide) rfl (by decide) (by decide) rfl ?_
  refine k_iload_n d_P_derive_37 rfl ?_
  refine k_iload_n d_P_derive_38 rfl ?_
  refine k_iastN (n := 96) d_P_derive_39 (by decide) rfl rfl (by first | assumption | omega) (by decide) ?_
  exact k_vret d_P_derive_40 rfl rfl (by simp [cDerive, kup_o])

theorem c_P_move_loop {l : Launch} {D : va_G} {cI cB cT : ClassId} {ad : Nat → Nat} {d : Nat} {u : kSt} {s t : Nat} (hs : s < 96) (ht : t < 96) (N : Nat) (hN : N = 96) : ∀ (n k : Nat) (y : kSt), k + n = N → y = cAdopt u (nI s) (nI t) k → KAt (kWl lyC l D cI cB cT ad) m_P_move (d + 1) 50 [some (.ref 2), some (.int (nI s)), some (.int (nI t)), some (.int (nI k))] [] y none (kup (cAdopt u (nI s) (nI t) N) 4 s 0) := by
  intro n
  induction n with
  | zero =>
    intro k y hk hy
    subst hy
    obtain rfl : k = N := by omega
    have h0 : ¬ ¬ (96 : Int32) ≤ nI k := by rw [hN]; decide
    refine k_iload_n d_P_move_50 rfl ?_
    refine k_bipush (v := 96) d_P_move_51 (by decide) ?_
    refine k_icmp_ge d_P_move_53 (fun h53 => ?_) (fun h53 => absurd h53 h0)
    refine k_aload_n d_P_move_87 rfl ?_
    refine k_getr (t := 4) d_P_move_88 f_P_9 (by decide) rfl (by decide) (by decide) rfl ?_
    refine k_iload_n d_P_move_91 rfl ?_
    refine k_iconst (v := 0) d_P_move_92 (by decide) ?_
    refine k_iastN (n := 96) d_P_move_93 (by decide) rfl rfl (by first | assumption | omega) (by decide) ?_
    exact k_vret d_P_move_94 rfl rfl (by first | rfl | (simp [bI] <;> done) | (simp [bI, *] <;> done))
  | succ n ih =>
    intro k y hk hy
    subst hy
    have hk2 : k < 96 := by omega
    have h0 : ¬ (96 : Int32) ≤ nI k := nI_ge (a := k) (b := 96) hk2 (by decide)
    refine k_iload_n d_P_move_50 rfl ?_
    refine k_bipush (v := 96) d_P_move_51 (by decide) ?_
    refine k_icmp_ge d_P_move_53 (fun h53 => absurd h53 h0) (fun h53 => ?_)
    refine k_aload_n d_P_move_56 rfl ?_
    refine k_iload_n d_P_move_57 rfl ?_
    refine k_virt1s d_P_move_58 l_P_24 g_P_holds (c_P_holds hk2) rcvP (Nat.le_of_ble_eq_true rfl) ?_
    refine k_if_eqB d_P_move_61 (fun h61 => ?_) (fun h61 => ?_)
    · refine k_incN d_P_move_81 rfl (by decide) ?_
      refine k_goto d_P_move_84 ?_
      exact ih (k + 1) _ (by omega) (by simp [cAdopt, *])
    · refine k_aload_n d_P_move_64 rfl ?_
      refine k_getr (t := 7) d_P_move_65 f_P_21 (by decide) rfl (by decide) (by decide) rfl ?_
      refine k_iload_n d_P_move_68 rfl ?_
      refine k_ialdN (n := 96) d_P_move_69 (by decide) rfl rfl (by first | assumption | omega) (by decide) ?_
      refine k_iload_n d_P_move_70 rfl ?_
      refine k_icmp_ne d_P_move_71 (fun h71 => ?_) (fun h71 => ?_)
      · refine k_incN d_P_move_81 rfl (by decide) ?_
        refine k_goto d_P_move_84 ?_
        exact ih (k + 1) _ (by omega) (by simp [cAdopt, *])
      · refine k_aload_n d_P_move_74 rfl ?_
        refine k_getr (t := 7) d_P_move_75 f_P_21 (by decide) rfl (by decide) (by decide) rfl ?_
        refine k_iload_n d_P_move_78 rfl ?_
        refine k_iload_n d_P_move_79 rfl ?_
        refine k_iastN (n := 96) d_P_move_80 (by decide) rfl rfl (by first | assumption | omega) (by decide) ?_
        refine k_incN d_P_move_81 rfl (by decide) ?_
        refine k_goto d_P_move_84 ?_
        exact ih (k + 1) _ (by omega) (by simp [cAdopt, *])

set_option maxRecDepth 4000 in
theorem c_P_move {l : Launch} {D : va_G} {cI cB cT : ClassId} {ad : Nat → Nat} {d : Nat} {u : kSt} {s t : Nat} (hs : s < 96) (ht : t < 96) : KSp (kWl lyC l D cI cB cT ad) y_P_move m_P_move (d + 1) [.ref 2, .int (nI s), .int (nI t)] u none (cMove u s t) := by
  refine KSp.of (by decide) rfl (Nat.le_of_ble_eq_true rfl) rfl ?_
  show KAt (kWl lyC l D cI cB cT ad) m_P_move (d + 1) 0 [some (.ref 2), some (.int (nI s)), some (.int (nI t)), none] [] u none (cMove u s t)
  refine k_aload_n d_P_move_0 rfl ?_
  refine k_getr (t := 4) d_P_move_1 f_P_9 (by decide) rfl (by decide) (by decide) rfl ?_
  refine k_iload_n d_P_move_4 rfl ?_
  refine k_aload_n d_P_move_5 rfl ?_
  refine k_getr (t := 4) d_P_move_6 f_P_9 (by decide) rfl (by decide) (by decide) rfl ?_
  refine k_iload_n d_P_move_9 rfl ?_
  refine k_ialdN (n := 96) d_P_move_10 (by decide) rfl rfl (by first | assumption | omega) (by decide) ?_
  refine k_iastN (n := 96) d_P_move_11 (by decide) rfl rfl (by first | assumption | omega) (by decide) ?_
  refine k_aload_n d_P_move_12 rfl ?_
  refine k_getr (t := 5) d_P_move_13 f_P_15 (by decide) rfl (by decide) (by decide) rfl ?_
  refine k_iload_n d_P_move_16 rfl ?_
  refine k_aload_n d_P_move_17 rfl ?_
  refine k_getr (t := 5) d_P_move_18 f_P_15 (by decide) rfl (by decide) (by decide) rfl ?_
  refine k_iload_n d_P_move_21 rfl ?_
  refine k_ialdN (n := 96) d_P_move_22 (by decide) rfl rfl (by first | assumption | omega) (by decide) ?_
  refine k_iastN (n := 96) d_P_move_23 (by decide) rfl rfl (by first | assumption | omega) (by decide) ?_
  refine k_aload_n d_P_move_24 rfl ?_
  refine k_getr (t := 6) d_P_move_25 f_P_18 (by decide) rfl (by decide) (by decide) rfl ?_
  refine k_iload_n d_P_move_28 rfl ?_
  refine k_aload_n d_P_move_29 rfl ?_
  refine k_getr (t := 6) d_P_move_30 f_P_18 (by decide) rfl (by decide) (by decide) rfl ?_
  refine k_iload_n d_P_move_33 rfl ?_
  refine k_ialdN (n := 96) d_P_move_34 (by decide) rfl rfl (by first | assumption | omega) (by decide) ?_
  refine k_iastN (n := 96) d_P_move_35 (by decide) rfl rfl (by first | assumption | omega) (by decide) ?_
  refine k_aload_n d_P_move_36 rfl ?_
  refine k_getr (t := 7) d_P_move_37 f_P_21 (by decide) rfl (by decide) (by decide) rfl ?_
  refine k_iload_n d_P_move_40 rfl ?_
  refine k_aload_n d_P_move_41 rfl ?_
  refine k_getr (t := 7) d_P_move_42 f_P_21 (by decide) rfl (by decide) (by decide) rfl ?_
  refine k_iload_n d_P_move_45 rfl ?_
  refine k_ialdN (n := 96) d_P_move_46 (by decide) rfl rfl (by first | assumption | omega) (by decide) ?_
  refine k_iastN (n := 96) d_P_move_47 (by decide) rfl rfl (by first | assumption | omega) (by decide) ?_
  refine k_iconst (v := 0) d_P_move_48 (by decide) ?_
  refine k_istore_n d_P_move_49 (by decide) ?_
  exact (c_P_move_loop hs ht 96 rfl 96 0 _ rfl rfl).to rfl (by simp [cMove, kup_o]; rfl)

theorem c_P_handOn_2 {l : Launch} {D : va_G} {cI cB cT : ClassId} {ad : Nat → Nat} {d : Nat} {u : kSt} {s t : Nat} {m g : Int32} (hs : s < 96) (ht : t < 96) : KAt (kWl lyC l D cI cB cT ad) m_P_handOn (d + 2) 36 [some (.ref 2), some (.int (nI s)), some (.int (nI t)), some (.int m), some (.int g)] [] u none (cHand2 u s t m g) := by
  refine k_aload_n d_P_handOn_36 rfl ?_
  refine k_iload_n d_P_handOn_37 rfl ?_
  refine k_virt1s d_P_handOn_38 l_P_24 g_P_holds (c_P_holds hs) rcvP (Nat.le_of_ble_eq_true rfl) ?_
  refine k_if_neB d_P_handOn_41 (fun h41 => ?_) (fun h41 => ?_)
  · refine k_iload d_P_handOn_45 rfl ?_
    refine k_if_eq d_P_handOn_47 (fun h47 => ?_) (fun h47 => ?_)
    · refine k_aload_n d_P_handOn_59 rfl ?_
      refine k_getr (t := 6) d_P_handOn_60 f_P_18 (by decide) rfl (by decide) (by decide) rfl ?_
      refine k_iload_n d_P_handOn_63 rfl ?_
      refine k_ialdN (n := 96) d_P_handOn_64 (by decide) rfl rfl (by first | assumption | omega) (by decide) ?_
      refine k_bipush (v := 12) d_P_handOn_65 (by decide) ?_
      refine k_icmp_ge d_P_handOn_67 (fun h67 => ?_) (fun h67 => ?_)
      · exact k_vret d_P_handOn_86 rfl rfl (by first | rfl | (simp [cHand2] <;> done) | (simp [cHand2, *] <;> done))
      · refine k_aload_n d_P_handOn_70 rfl ?_
        refine k_iload_n d_P_handOn_71 rfl ?_
        refine k_iload_n d_P_handOn_72 rfl ?_
        refine k_iload_n d_P_handOn_73 rfl ?_
        refine k_aload_n d_P_handOn_74 rfl ?_
        refine k_getr (t := 4) d_P_handOn_75 f_P_9 (by decide) rfl (by decide) (by decide) rfl ?_
        refine k_iload_n d_P_handOn_78 rfl ?_
        refine k_ialdN (n := 96) d_P_handOn_79 (by decide) rfl rfl (by first | assumption | omega) (by decide) ?_
        refine k_min d_P_handOn_80 lm_P_43 (Nat.le_of_ble_eq_true rfl) ?_
        refine k_virt3v d_P_handOn_83 l_P_48 g_P_derive (c_P_derive hs ht) rcvP (Nat.le_of_ble_eq_true rfl) ?_
        exact k_vret d_P_handOn_86 rfl rfl (by first | rfl | (simp [cHand2] <;> done) | (simp [cHand2, *] <;> done))
    · refine k_aload_n d_P_handOn_50 rfl ?_
      refine k_iload_n d_P_handOn_51 rfl ?_
      refine k_iload_n d_P_handOn_52 rfl ?_
      refine k_virt2v d_P_handOn_53 l_P_39 g_P_move (c_P_move hs ht) rcvP (Nat.le_of_ble_eq_true rfl) ?_
      refine k_goto d_P_handOn_56 ?_
      exact k_vret d_P_handOn_86 rfl rfl (by first | rfl | (simp [cHand2] <;> done) | (simp [cHand2, *] <;> done))
  · exact k_vret d_P_handOn_44 rfl rfl (by first | rfl | (simp [cHand2] <;> done) | (simp [cHand2, *] <;> done))

set_option maxRecDepth 4000 in
theorem c_P_handOn {l : Launch} {D : va_G} {cI cB cT : ClassId} {ad : Nat → Nat} {d : Nat} {u : kSt} {s t : Nat} {m g : Int32} (hs : s < 96) (ht : t < 96) (hp : cPar u) (hd : cDep u) : KSp (kWl lyC l D cI cB cT ad) y_P_handOn m_P_handOn (d + 2) [.ref 2, .int (nI s), .int (nI t), .int m, .int g] u none (cHandOn u s t m g) := by
  refine KSp.of (by decide) rfl (Nat.le_of_ble_eq_true rfl) rfl ?_
  show KAt (kWl lyC l D cI cB cT ad) m_P_handOn (d + 2) 0 [some (.ref 2), some (.int (nI s)), some (.int (nI t)), some (.int m), some (.int g)] [] u none (cHandOn u s t m g)
  refine k_iload_n d_P_handOn_0 rfl ?_
  refine k_iload_n d_P_handOn_1 rfl ?_
  refine k_icmp_eq d_P_handOn_2 (fun h2 => ?_) (fun h2 => ?_)
  · have hst := (nI_eq (a := s) (b := t) (by omega) (by omega)).symm
    exact k_vret d_P_handOn_13 rfl rfl (by first | rfl | (simp [cHandOn, hst] <;> done) | (simp [cHandOn, hst, *] <;> done))
  · have hst := (nI_eq (a := s) (b := t) (by omega) (by omega)).symm
    refine k_aload_n d_P_handOn_5 rfl ?_
    refine k_iload_n d_P_handOn_6 rfl ?_
    refine k_virt1s d_P_handOn_7 l_P_24 g_P_holds (c_P_holds hs) rcvP (Nat.le_of_ble_eq_true rfl) ?_
    refine k_if_neB d_P_handOn_10 (fun h10 => ?_) (fun h10 => ?_)
    · refine k_aload_n d_P_handOn_14 rfl ?_
      refine k_iload_n d_P_handOn_15 rfl ?_
      refine k_virt1s d_P_handOn_16 l_P_24 g_P_holds (c_P_holds ht) rcvP (Nat.le_of_ble_eq_true rfl) ?_
      refine k_if_eqB d_P_handOn_19 (fun h19 => ?_) (fun h19 => ?_)
      · have hst := (nI_eq (a := s) (b := t) (by omega) (by omega)).symm
        exact (c_P_handOn_2 hs ht).to rfl (by simp [cHandOn, cClean, *])
      · refine k_aload_n d_P_handOn_22 rfl ?_
        refine k_iload_n d_P_handOn_23 rfl ?_
        refine k_iconst (v := 0) d_P_handOn_24 (by decide) ?_
        refine k_virt2s d_P_handOn_25 l_P_36 g_P_lowerDescendants (c_P_lowerDescendants hp hd) rcvP (Nat.le_of_ble_eq_true rfl) ?_
        refine k_pop d_P_handOn_28 rfl ?_
        refine k_aload_n d_P_handOn_29 rfl ?_
        refine k_iload_n d_P_handOn_30 rfl ?_
        refine k_iconst (v := 0) d_P_handOn_31 (by decide) ?_
        refine k_virt2s d_P_handOn_32 l_P_32 g_P_lower (c_P_lower ht) rcvP (Nat.le_of_ble_eq_true rfl) ?_
        refine k_pop d_P_handOn_35 rfl ?_
        have hst := (nI_eq (a := s) (b := t) (by omega) (by omega)).symm
        exact (c_P_handOn_2 hs ht).to rfl (by simp [cHandOn, cClean, *])
    · have hst := (nI_eq (a := s) (b := t) (by omega) (by omega)).symm
      exact k_vret d_P_handOn_13 rfl rfl (by first | rfl | (simp [cHandOn, hst] <;> done) | (simp [cHandOn, hst, *] <;> done))

end KCP
end
section
section KCI
theorem cIsThread_in {u : kSt} {t : Int32} (h : cIsThread u t = true) : vp_in t 8 := by
  unfold cIsThread at h
  split at h
  · cases h
  · split at h
    · cases h
    · exact vin (by assumption) (by assumption)
theorem cIsRun_th {u : kSt} {t : Int32} (h : cIsRun u t = true) : cIsThread u t = true := by
  unfold cIsRun at h
  split at h
  · assumption
  · cases h
theorem cIsRun_in {u : kSt} {t : Int32} (h : cIsRun u t = true) : vp_in t 8 := cIsThread_in (cIsRun_th h)
theorem cMaySend_in {u : kSt} {t o n : Int32} (h : cMaySend u t o n = true) : cIsRun u t = true ∧ ¬ o = t ∧ cIsThread u o = true ∧ cIsLimit n = true := by
  unfold cMaySend at h
  split at h
  · split at h
    · cases h
    · split at h
      · split at h
        · exact ⟨by assumption, by assumption, by assumption, by assumption⟩
        · cases h
      · cases h
  · cases h
theorem cIsPage_in {n : Int32} (h : cIsPage n = true) : vp_in n 16 := by
  unfold cIsPage at h
  split at h
  · cases h
  · split at h
    · cases h
    · exact vin (by assumption) (by assumption)
theorem cIsSpace_in {n : Int32} (h : cIsSpace n = true) : vp_in n 6 := by
  unfold cIsSpace at h
  split at h
  · cases h
  · split at h
    · cases h
    · exact vin (by assumption) (by assumption)
theorem cIsPageN_in {n : Int32} (h : cIsPageN n = true) : n = -1 ∨ vp_in n 16 := by
  unfold cIsPageN at h
  split at h
  · exact Or.inl (by assumption)
  · split at h
    · exact Or.inr (cIsPage_in (by assumption))
    · cases h
theorem sl_eq {a b : Int32} (h1 : vp_in a 6) (h2 : vp_in b 16) : a * 16 + b = nI (sl a b) ∧ sl a b < 96 := by
  obtain ⟨i, hi, rfl⟩ := vp_in_of h1 (by decide)
  obtain ⟨j, hj, rfl⟩ := vp_in_of h2 (by decide)
  have e : nI i * 16 + nI j = nI (i * 16 + j) := by
    rw [show (16 : Int32) = nI 16 from rfl, pk_mul, nI_add]
  unfold sl
  rw [e, ix_nI (by omega)]
  exact ⟨rfl, by omega⟩
theorem cFree_in {u : kSt} : ∀ (m n : Nat), n + m = 8 → ¬ cFree u n m = -1 → vp_in (cFree u n m) 8
  | 0, n, _, h => absurd rfl h
  | m + 1, n, hn, h => by
    unfold cFree at h ⊢
    split
    · exact vin_n (by omega)
    · rw [if_neg (by assumption)] at h
      exact cFree_in m (n + 1) (by omega) h
/-- what a place of the class's cells may hold, whatever the threads do -/
def cOk (a b : Nat) (v : Int32) : Prop :=
  (8 ≤ a → a < 16 → (b = 0 → v = nI (a - 8)) ∧ (b = 3 → vp_in v 6) ∧ (b = 4 → v = -1 ∨ vp_in v 8) ∧ (b = 5 → v = -1 ∨ vp_in v 16) ∧ (b = 8 → v = -1 ∨ vp_in v 16) ∧ (b = 16 → vp_in v 16))
  ∧ (a = 5 → b < 96 → vp_in v 16) ∧ (a = 6 → b < 96 → vp_in v 13) ∧ (a = 7 → b < 96 → v = -1 ∨ vp_in v 96)
def cInv (u : kSt) : Prop := ∀ a b, cOk a b (u a b)
theorem cInv.up {u : kSt} (h : cInv u) {k j : Nat} {v : Int32} (hv : cOk k j v) : cInv (kup u k j v) := by
  intro a b
  show cOk a b (if a = k ∧ b = j then v else u a b)
  split
  · rename_i hab
    obtain ⟨rfl, rfl⟩ := hab
    exact hv
  · exact h a b
theorem cInv.num {u : kSt} (h : cInv u) {i : Nat} (hi : i < 8) : u (8 + i) 0 = nI i := by
  have e := ((h (8 + i) 0).1 (by omega) (by omega)).1 rfl
  rw [show 8 + i - 8 = i by omega] at e
  exact e
theorem cInv.space {u : kSt} (h : cInv u) {i : Nat} (hi : i < 8) : vp_in (u (8 + i) 3) 6 := ((h (8 + i) 3).1 (by omega) (by omega)).2.1 rfl
theorem cInv.pager {u : kSt} (h : cInv u) {i : Nat} (hi : i < 8) : u (8 + i) 4 = -1 ∨ vp_in (u (8 + i) 4) 8 := ((h (8 + i) 4).1 (by omega) (by omega)).2.2.1 rfl
theorem cInv.offer {u : kSt} (h : cInv u) {i : Nat} (hi : i < 8) : u (8 + i) 5 = -1 ∨ vp_in (u (8 + i) 5) 16 := ((h (8 + i) 5).1 (by omega) (by omega)).2.2.2.1 rfl
theorem cInv.window {u : kSt} (h : cInv u) {i : Nat} (hi : i < 8) : u (8 + i) 8 = -1 ∨ vp_in (u (8 + i) 8) 16 := ((h (8 + i) 8).1 (by omega) (by omega)).2.2.2.2.1 rfl
theorem cInv.wanted {u : kSt} (h : cInv u) {i : Nat} (hi : i < 8) : vp_in (u (8 + i) 16) 16 := ((h (8 + i) 16).1 (by omega) (by omega)).2.2.2.2.2 rfl
theorem cInv.frame {u : kSt} (h : cInv u) {k : Nat} (hk : k < 96) : vp_in (u 5 k) 16 := (h 5 k).2.1 rfl hk
theorem cInv.depth {u : kSt} (h : cInv u) {k : Nat} (hk : k < 96) : vp_in (u 6 k) 13 := (h 6 k).2.2.1 rfl hk
theorem cInv.parent {u : kSt} (h : cInv u) {k : Nat} (hk : k < 96) : u 7 k = -1 ∨ vp_in (u 7 k) 96 := (h 7 k).2.2.2 rfl hk
theorem cInv.par {u : kSt} (h : cInv u) : cPar u := by
  intro j hj
  rcases h.parent hj with e | e
  · exact Or.inl e
  · obtain ⟨p, hp, e2⟩ := vp_in_of e (by decide)
    exact Or.inr ⟨p, hp, e2⟩
theorem cInv.dep {u : kSt} (h : cInv u) : cDep u := by
  intro j hj
  obtain ⟨p, hp, e2⟩ := vp_in_of (h.depth hj) (by decide)
  exact ⟨p, by omega, e2⟩
theorem or_in {v : Int32} {n : Nat} (h : v = -1 ∨ vp_in v n) (hn : ¬ v = -1) : vp_in v n := h.resolve_left hn
/-- a place that may hold anything -/
theorem cOk_any {a b : Nat} {v : Int32} (h : (a < 8 ∨ 16 ≤ a) ∨ (b ≠ 0 ∧ b ≠ 3 ∧ b ≠ 4 ∧ b ≠ 5 ∧ b ≠ 8 ∧ b ≠ 16)) (h5 : a ≠ 5 ∧ a ≠ 6 ∧ a ≠ 7) : cOk a b v := by
  refine ⟨fun h1 h2 => ?_, fun e => absurd e h5.1, fun e => absurd e h5.2.1, fun e => absurd e h5.2.2⟩
  rcases h with h | h
  · omega
  · exact ⟨fun e => absurd e h.1, fun e => absurd e h.2.1, fun e => absurd e h.2.2.1, fun e => absurd e h.2.2.2.1, fun e => absurd e h.2.2.2.2.1, fun e => absurd e h.2.2.2.2.2⟩
/-- a thread's place that may hold anything -/
theorem cOk_t {i b : Nat} {v : Int32} (h : b ≠ 0 ∧ b ≠ 3 ∧ b ≠ 4 ∧ b ≠ 5 ∧ b ≠ 8 ∧ b ≠ 16) : cOk (8 + i) b v := cOk_any (Or.inr h) ⟨by omega, by omega, by omega⟩
theorem cOk_r {i b : Nat} {v : Int32} : cOk (16 + i) b v := cOk_any (Or.inl (Or.inr (by omega))) ⟨by omega, by omega, by omega⟩
theorem cOk_0 {b : Nat} {v : Int32} : cOk 0 b v := cOk_any (Or.inl (Or.inl (by omega))) ⟨by omega, by omega, by omega⟩
theorem cOk_3 {b : Nat} {v : Int32} : cOk 3 b v := cOk_any (Or.inl (Or.inl (by omega))) ⟨by omega, by omega, by omega⟩
theorem cOk_4 {b : Nat} {v : Int32} : cOk 4 b v := cOk_any (Or.inl (Or.inl (by omega))) ⟨by omega, by omega, by omega⟩
theorem cOk_5 {b : Nat} {v : Int32} (h : b < 96 → vp_in v 16) : cOk 5 b v := ⟨fun h1 => by omega, fun _ => h, fun e => by omega, fun e => by omega⟩
theorem cOk_6 {b : Nat} {v : Int32} (h : b < 96 → vp_in v 13) : cOk 6 b v := ⟨fun h1 => by omega, fun e => by omega, fun _ => h, fun e => by omega⟩
theorem cOk_7 {b : Nat} {v : Int32} (h : b < 96 → v = -1 ∨ vp_in v 96) : cOk 7 b v := ⟨fun h1 => by omega, fun e => by omega, fun e => by omega, fun _ => h⟩
theorem cInv.run {u : kSt} (h : cInv u) {i : Nat} {o : Int32} : cInv (cRun u i o) := (h.up (cOk_t (by decide))).up (cOk_t (by decide))
theorem cInv.wait {u : kSt} (h : cInv u) {i : Nat} {a b c : Int32} : cInv (cWait u i a b c) := ((h.up (cOk_t (by decide))).up (cOk_t (by decide))).up (cOk_t (by decide))
theorem cInv.take {u : kSt} (h : cInv u) {i : Nat} {s a b c e : Int32} : cInv (cTake u i s a b c e) := (((((h.up cOk_r).up cOk_r).up cOk_r).up cOk_r).up (cOk_t (by decide))).up (cOk_t (by decide))
theorem cInv.join {u : kSt} (h : cInv u) {i : Nat} {a b c : Int32} : cInv (cJoin u i a b c) := ((h.up (cOk_t (by decide))).up cOk_0).wait
theorem cInv.passFault {u : kSt} (h : cInv u) {f g : Nat} : cInv (cPassFault u f g) := h.take.wait.run
theorem cInv.fault {u : kSt} (h : cInv u) {f g : Nat} : cInv (cFault u f g) := by
  unfold cFault
  split
  · exact h.join.passFault
  · exact h.join
theorem cInv.doAccess {u : kSt} (h : cInv u) {i f : Nat} : cInv (cDoAccess u i f) := by
  unfold cDoAccess
  split
  · exact (h.up cOk_3).run
  · exact (h.up (cOk_t (by decide))).run
theorem cInv.try {u : kSt} (h : cInv u) {i : Nat} : cInv (cTry u i) := by
  unfold cTry
  split
  · split
    · exact h.up (cOk_t (by decide))
    · exact h.fault
  · exact h.doAccess
theorem cInv.lower {u : kSt} (h : cInv u) {k : Nat} {m : Int32} : cInv (cLower u k m) := by
  unfold cLower
  split
  · exact h.up cOk_4
  · exact h
theorem cInv.low {u : kSt} (h : cInv u) {z m : Int32} : ∀ n, cInv (cLow u z m n)
  | 0 => h
  | n + 1 => by
    unfold cLow
    split
    · exact (cInv.low h n).lower
    · exact cInv.low h n
theorem cInv.clean {u : kSt} (h : cInv u) {t : Nat} : cInv (cClean u t) := by
  unfold cClean
  split
  · exact (h.low 96).lower
  · exact h
theorem cInv.adopt {u : kSt} (h : cInv u) {z : Int32} {t : Nat} (ht : t < 96) : ∀ n, cInv (cAdopt u z (nI t) n)
  | 0 => h
  | n + 1 => by
    unfold cAdopt
    split
    · exact (cInv.adopt h ht n).up (cOk_7 (fun _ => Or.inr (vin_n ht)))
    · exact cInv.adopt h ht n
theorem cInv.move {u : kSt} (h : cInv u) {s t : Nat} (hs : s < 96) (ht : t < 96) : cInv (cMove u s t) := by
  unfold cMove
  exact (cInv.adopt ((((h.up cOk_4).up (cOk_5 (fun _ => h.frame hs))).up (cOk_6 (fun _ => h.depth hs))).up (cOk_7 (fun _ => h.parent hs))) ht 96).up cOk_4
theorem cInv.derive {u : kSt} (h : cInv u) {s t : Nat} {m : Int32} (hs : s < 96) (hd : ¬ 12 ≤ u 6 s) : cInv (cDerive u s t m) := by
  unfold cDerive
  refine (((h.up cOk_4).up (cOk_5 (fun _ => h.frame hs))).up (cOk_6 (fun _ => ?_))).up (cOk_7 (fun _ => Or.inr (vin_n hs)))
  obtain ⟨e, he, e2⟩ := vp_in_of (h.depth hs) (by decide)
  rw [e2] at hd ⊢
  have : e < 12 := by
    rcases Nat.lt_or_ge e 12 with h | h
    · exact h
    · exact absurd (nI_le (a := 12) (b := e) h (by omega)) hd
  rw [nI_1]
  exact vin_n (by omega)
theorem cInv.hand2 {u : kSt} (h : cInv u) {s t : Nat} {m g : Int32} (hs : s < 96) (ht : t < 96) : cInv (cHand2 u s t m g) := by
  unfold cHand2
  split
  · split
    · exact h.move hs ht
    · split
      · exact h
      · exact h.derive hs (by assumption)
  · exact h
theorem cInv.handOn {u : kSt} (h : cInv u) {s t : Nat} {m g : Int32} (hs : s < 96) (ht : t < 96) : cInv (cHandOn u s t m g) := by
  unfold cHandOn
  split
  · exact h
  · split
    · exact h.clean.hand2 hs ht
    · exact h
theorem cInv.page {u : kSt} (h : cInv u) {g : Nat} (hg : g < 8) : cPage u g = -1 ∨ vp_in (cPage u g) 16 := by
  unfold cPage
  split
  · exact Or.inr (h.wanted hg)
  · exact h.window hg
theorem cInv.offer1 {u : kSt} (h : cInv u) {f g : Nat} (hf : f < 8) (hg : g < 8) : cInv (cOffer1 u f g) := by
  unfold cOffer1
  split
  · exact h
  · split
    · exact h
    · exact h.handOn (sl_eq (h.space hf) (or_in (h.offer hf) (by assumption))).2 (sl_eq (h.space hg) (or_in (h.page hg) (by assumption))).2
theorem cOk_off {i : Nat} : cOk (8 + i) 5 (-1) := by
  refine ⟨fun _ _ => ⟨fun e => by omega, fun e => by omega, fun e => by omega, fun _ => Or.inl rfl, fun e => by omega, fun e => by omega⟩, fun e => by omega, fun e => by omega, fun e => by omega⟩
theorem cInv.offerS {u : kSt} (h : cInv u) {f g : Nat} (hf : f < 8) (hg : g < 8) : cInv (cOffer u f g) := (h.offer1 hf hg).up cOk_off
theorem cInv.pass1 {u : kSt} (h : cInv u) {f g : Nat} : cInv (cPass1 u f g) := by
  unfold cPass1
  split
  · exact h
  · exact h.take
theorem cInv.pass2 {u : kSt} (h : cInv u) {f g : Nat} {c : Int32} : cInv (cPass2 u f g c) := by
  unfold cPass2
  split
  · exact h.run
  · exact h.wait
theorem cInv.pass3 {u : kSt} (h : cInv u) {g : Nat} {b : Bool} : cInv (cPass3 u g b) := by
  unfold cPass3
  split
  · exact h.try
  · exact h.run
theorem cInv.pass {u : kSt} (h : cInv u) {f g : Nat} {c : Int32} (hf : f < 8) (hg : g < 8) : cInv (cPass u f g c) := (h.pass1.offerS hf hg).pass2.pass3
end KCI
end
section
section KCK
set_option maxRecDepth 4000 in
theorem c_K_isSpace {l : Launch} {D : va_G} {cI cB cT : ClassId} {ad : Nat → Nat} {d : Nat} {u : kSt} {n : Int32} : KSp (kWl lyC l D cI cB cT ad) y_K_isSpace m_K_isSpace d [.int n] u (some (.int (bI (cIsSpace n)))) u := by
  refine KSp.of (by decide) rfl (Nat.le_of_ble_eq_true rfl) rfl ?_
  show KAt (kWl lyC l D cI cB cT ad) m_K_isSpace d 0 [some (.int n)] [] u (some (.int (bI (cIsSpace n)))) u
  refine k_iload_n d_K_isSpace_0 rfl ?_
  refine k_if_lt d_K_isSpace_1 (fun h1 => ?_) (fun h1 => ?_)
  · refine k_iconst (v := 0) d_K_isSpace_14 (by decide) ?_
    exact k_zret d_K_isSpace_15 rfl (by first | rfl | exact nb_bI _) (by first | rfl | (simp [cIsSpace, bI] <;> done) | (simp [cIsSpace, bI, *] <;> done)) (by first | rfl | (simp [cIsSpace, bI] <;> done) | (simp [cIsSpace, bI, *] <;> done))
  · refine k_iload_n d_K_isSpace_4 rfl ?_
    refine k_bipush (v := 6) d_K_isSpace_5 (by decide) ?_
    refine k_icmp_ge d_K_isSpace_7 (fun h7 => ?_) (fun h7 => ?_)
    · refine k_iconst (v := 0) d_K_isSpace_14 (by decide) ?_
      exact k_zret d_K_isSpace_15 rfl (by first | rfl | exact nb_bI _) (by first | rfl | (simp [cIsSpace, bI] <;> done) | (simp [cIsSpace, bI, *] <;> done)) (by first | rfl | (simp [cIsSpace, bI] <;> done) | (simp [cIsSpace, bI, *] <;> done))
    · refine k_iconst (v := 1) d_K_isSpace_10 (by decide) ?_
      refine k_goto d_K_isSpace_11 ?_
      exact k_zret d_K_isSpace_15 rfl (by first | rfl | exact nb_bI _) (by first | rfl | (simp [cIsSpace, bI] <;> done) | (simp [cIsSpace, bI, *] <;> done)) (by first | rfl | (simp [cIsSpace, bI] <;> done) | (simp [cIsSpace, bI, *] <;> done))

set_option maxRecDepth 4000 in
theorem c_K_isPage {l : Launch} {D : va_G} {cI cB cT : ClassId} {ad : Nat → Nat} {d : Nat} {u : kSt} {n : Int32} : KSp (kWl lyC l D cI cB cT ad) y_K_isPage m_K_isPage d [.int n] u (some (.int (bI (cIsPage n)))) u := by
  refine KSp.of (by decide) rfl (Nat.le_of_ble_eq_true rfl) rfl ?_
  show KAt (kWl lyC l D cI cB cT ad) m_K_isPage d 0 [some (.int n)] [] u (some (.int (bI (cIsPage n)))) u
  refine k_iload_n d_K_isPage_0 rfl ?_
  refine k_if_lt d_K_isPage_1 (fun h1 => ?_) (fun h1 => ?_)
  · refine k_iconst (v := 0) d_K_isPage_14 (by decide) ?_
    exact k_zret d_K_isPage_15 rfl (by first | rfl | exact nb_bI _) (by first | rfl | (simp [cIsPage, bI] <;> done) | (simp [cIsPage, bI, *] <;> done)) (by first | rfl | (simp [cIsPage, bI] <;> done) | (simp [cIsPage, bI, *] <;> done))
  · refine k_iload_n d_K_isPage_4 rfl ?_
    refine k_bipush (v := 16) d_K_isPage_5 (by decide) ?_
    refine k_icmp_ge d_K_isPage_7 (fun h7 => ?_) (fun h7 => ?_)
    · refine k_iconst (v := 0) d_K_isPage_14 (by decide) ?_
      exact k_zret d_K_isPage_15 rfl (by first | rfl | exact nb_bI _) (by first | rfl | (simp [cIsPage, bI] <;> done) | (simp [cIsPage, bI, *] <;> done)) (by first | rfl | (simp [cIsPage, bI] <;> done) | (simp [cIsPage, bI, *] <;> done))
    · refine k_iconst (v := 1) d_K_isPage_10 (by decide) ?_
      refine k_goto d_K_isPage_11 ?_
      exact k_zret d_K_isPage_15 rfl (by first | rfl | exact nb_bI _) (by first | rfl | (simp [cIsPage, bI] <;> done) | (simp [cIsPage, bI, *] <;> done)) (by first | rfl | (simp [cIsPage, bI] <;> done) | (simp [cIsPage, bI, *] <;> done))

set_option maxRecDepth 4000 in
theorem c_K_isLevel {l : Launch} {D : va_G} {cI cB cT : ClassId} {ad : Nat → Nat} {d : Nat} {u : kSt} {n : Int32} : KSp (kWl lyC l D cI cB cT ad) y_K_isLevel m_K_isLevel d [.int n] u (some (.int (bI (cIsLevel n)))) u := by
  refine KSp.of (by decide) rfl (Nat.le_of_ble_eq_true rfl) rfl ?_
  show KAt (kWl lyC l D cI cB cT ad) m_K_isLevel d 0 [some (.int n)] [] u (some (.int (bI (cIsLevel n)))) u
  refine k_iload_n d_K_isLevel_0 rfl ?_
  refine k_iconst (v := 1) d_K_isLevel_1 (by decide) ?_
  refine k_icmp_eq d_K_isLevel_2 (fun h2 => ?_) (fun h2 => ?_)
  · refine k_iconst (v := 1) d_K_isLevel_10 (by decide) ?_
    refine k_goto d_K_isLevel_11 ?_
    exact k_zret d_K_isLevel_15 rfl (by first | rfl | exact nb_bI _) (by first | rfl | (simp [cIsLevel, bI] <;> done) | (simp [cIsLevel, bI, *] <;> done)) (by first | rfl | (simp [cIsLevel, bI] <;> done) | (simp [cIsLevel, bI, *] <;> done))
  · refine k_iload_n d_K_isLevel_5 rfl ?_
    refine k_iconst (v := 2) d_K_isLevel_6 (by decide) ?_
    refine k_icmp_ne d_K_isLevel_7 (fun h7 => ?_) (fun h7 => ?_)
    · refine k_iconst (v := 0) d_K_isLevel_14 (by decide) ?_
      exact k_zret d_K_isLevel_15 rfl (by first | rfl | exact nb_bI _) (by first | rfl | (simp [cIsLevel, bI] <;> done) | (simp [cIsLevel, bI, *] <;> done)) (by first | rfl | (simp [cIsLevel, bI] <;> done) | (simp [cIsLevel, bI, *] <;> done))
    · refine k_iconst (v := 1) d_K_isLevel_10 (by decide) ?_
      refine k_goto d_K_isLevel_11 ?_
      exact k_zret d_K_isLevel_15 rfl (by first | rfl | exact nb_bI _) (by first | rfl | (simp [cIsLevel, bI] <;> done) | (simp [cIsLevel, bI, *] <;> done)) (by first | rfl | (simp [cIsLevel, bI] <;> done) | (simp [cIsLevel, bI, *] <;> done))

set_option maxRecDepth 4000 in
theorem c_K_isLimit {l : Launch} {D : va_G} {cI cB cT : ClassId} {ad : Nat → Nat} {d : Nat} {u : kSt} {n : Int32} : KSp (kWl lyC l D cI cB cT ad) y_K_isLimit m_K_isLimit d [.int n] u (some (.int (bI (cIsLimit n)))) u := by
  refine KSp.of (by decide) rfl (Nat.le_of_ble_eq_true rfl) rfl ?_
  show KAt (kWl lyC l D cI cB cT ad) m_K_isLimit d 0 [some (.int n)] [] u (some (.int (bI (cIsLimit n)))) u
  refine k_iload_n d_K_isLimit_0 rfl ?_
  refine k_iconst (v := (-1)) d_K_isLimit_1 (by decide) ?_
  refine k_icmp_lt d_K_isLimit_2 (fun h2 => ?_) (fun h2 => ?_)
  · refine k_iconst (v := 0) d_K_isLimit_15 (by decide) ?_
    exact k_zret d_K_isLimit_16 rfl (by first | rfl | exact nb_bI _) (by first | rfl | (simp [cIsLimit, bI] <;> done) | (simp [cIsLimit, bI, *] <;> done)) (by first | rfl | (simp [cIsLimit, bI] <;> done) | (simp [cIsLimit, bI, *] <;> done))
  · refine k_iload_n d_K_isLimit_5 rfl ?_
    refine k_bipush (v := 100) d_K_isLimit_6 (by decide) ?_
    refine k_icmp_gt d_K_isLimit_8 (fun h8 => ?_) (fun h8 => ?_)
    · refine k_iconst (v := 0) d_K_isLimit_15 (by decide) ?_
      exact k_zret d_K_isLimit_16 rfl (by first | rfl | exact nb_bI _) (by first | rfl | (simp [cIsLimit, bI] <;> done) | (simp [cIsLimit, bI, *] <;> done)) (by first | rfl | (simp [cIsLimit, bI] <;> done) | (simp [cIsLimit, bI, *] <;> done))
    · refine k_iconst (v := 1) d_K_isLimit_11 (by decide) ?_
      refine k_goto d_K_isLimit_12 ?_
      exact k_zret d_K_isLimit_16 rfl (by first | rfl | exact nb_bI _) (by first | rfl | (simp [cIsLimit, bI] <;> done) | (simp [cIsLimit, bI, *] <;> done)) (by first | rfl | (simp [cIsLimit, bI] <;> done) | (simp [cIsLimit, bI, *] <;> done))

set_option maxRecDepth 4000 in
theorem c_K_isPageOrNone {l : Launch} {D : va_G} {cI cB cT : ClassId} {ad : Nat → Nat} {d : Nat} {u : kSt} {n : Int32} : KSp (kWl lyC l D cI cB cT ad) y_K_isPageOrNone m_K_isPageOrNone (d + 1) [.int n] u (some (.int (bI (cIsPageN n)))) u := by
  refine KSp.of (by decide) rfl (Nat.le_of_ble_eq_true rfl) rfl ?_
  show KAt (kWl lyC l D cI cB cT ad) m_K_isPageOrNone (d + 1) 0 [some (.int n)] [] u (some (.int (bI (cIsPageN n)))) u
  refine k_iload_n d_K_isPageOrNone_0 rfl ?_
  refine k_iconst (v := (-1)) d_K_isPageOrNone_1 (by decide) ?_
  refine k_icmp_eq d_K_isPageOrNone_2 (fun h2 => ?_) (fun h2 => ?_)
  · refine k_iconst (v := 1) d_K_isPageOrNone_12 (by decide) ?_
    refine k_goto d_K_isPageOrNone_13 ?_
    exact k_zret d_K_isPageOrNone_17 rfl (by first | rfl | exact nb_bI _) (by first | rfl | (simp [cIsPageN, bI] <;> done) | (simp [cIsPageN, bI, *] <;> done)) (by first | rfl | (simp [cIsPageN, bI] <;> done) | (simp [cIsPageN, bI, *] <;> done))
  · refine k_iload_n d_K_isPageOrNone_5 rfl ?_
    refine k_stat1s d_K_isPageOrNone_6 l_K_120 g_K_isPage c_K_isPage (Nat.le_of_ble_eq_true rfl) ?_
    refine k_if_eqB d_K_isPageOrNone_9 (fun h9 => ?_) (fun h9 => ?_)
    · refine k_iconst (v := 0) d_K_isPageOrNone_16 (by decide) ?_
      exact k_zret d_K_isPageOrNone_17 rfl (by first | rfl | exact nb_bI _) (by first | rfl | (simp [cIsPageN, bI] <;> done) | (simp [cIsPageN, bI, *] <;> done)) (by first | rfl | (simp [cIsPageN, bI] <;> done) | (simp [cIsPageN, bI, *] <;> done))
    · refine k_iconst (v := 1) d_K_isPageOrNone_12 (by decide) ?_
      refine k_goto d_K_isPageOrNone_13 ?_
      exact k_zret d_K_isPageOrNone_17 rfl (by first | rfl | exact nb_bI _) (by first | rfl | (simp [cIsPageN, bI] <;> done) | (simp [cIsPageN, bI, *] <;> done)) (by first | rfl | (simp [cIsPageN, bI] <;> done) | (simp [cIsPageN, bI, *] <;> done))

set_option maxRecDepth 4000 in
theorem c_K_slotOf {l : Launch} {D : va_G} {cI cB cT : ClassId} {ad : Nat → Nat} {d : Nat} {u : kSt} {a b : Int32} : KSp (kWl lyC l D cI cB cT ad) y_K_slotOf m_K_slotOf d [.int a, .int b] u (some (.int (a * 16 + b))) u := by
  refine KSp.of (by decide) rfl (Nat.le_of_ble_eq_true rfl) rfl ?_
  show KAt (kWl lyC l D cI cB cT ad) m_K_slotOf d 0 [some (.int a), some (.int b)] [] u (some (.int (a * 16 + b))) u
  refine k_iload_n d_K_slotOf_0 rfl ?_
  refine k_bipush (v := 16) d_K_slotOf_1 (by decide) ?_
  refine k_imul d_K_slotOf_3 ?_
  refine k_iload_n d_K_slotOf_4 rfl ?_
  refine k_iadd d_K_slotOf_5 ?_
  exact k_iret d_K_slotOf_6 rfl (by first | rfl | (simp [bI] <;> done) | (simp [bI, *] <;> done)) (by first | rfl | (simp [bI] <;> done) | (simp [bI, *] <;> done))

set_option maxRecDepth 4000 in
theorem c_K_deadline {l : Launch} {D : va_G} {cI cB cT : ClassId} {ad : Nat → Nat} {d : Nat} {u : kSt} {n : Int32} : KSp (kWl lyC l D cI cB cT ad) y_K_deadline m_K_deadline d [.ref 0, .int n] u (some (.int (cDeadline u n))) u := by
  refine KSp.of (by decide) rfl (Nat.le_of_ble_eq_true rfl) rfl ?_
  show KAt (kWl lyC l D cI cB cT ad) m_K_deadline d 0 [some (.ref 0), some (.int n)] [] u (some (.int (cDeadline u n))) u
  refine k_iload_n d_K_deadline_0 rfl ?_
  refine k_iconst (v := (-1)) d_K_deadline_1 (by decide) ?_
  refine k_icmp_ne d_K_deadline_2 (fun h2 => ?_) (fun h2 => ?_)
  · refine k_aload_n d_K_deadline_9 rfl ?_
    refine k_getf d_K_deadline_10 f_K_26 (by decide) rfl (by decide) (by decide) rfl ?_
    refine k_iload_n d_K_deadline_13 rfl ?_
    refine k_iadd d_K_deadline_14 ?_
    exact k_iret d_K_deadline_15 rfl (by first | rfl | (simp [cDeadline] <;> done) | (simp [cDeadline, *] <;> done)) (by first | rfl | (simp [cDeadline] <;> done) | (simp [cDeadline, *] <;> done))
  · refine k_iconst (v := (-1)) d_K_deadline_5 (by decide) ?_
    refine k_goto d_K_deadline_6 ?_
    exact k_iret d_K_deadline_15 rfl (by first | rfl | (simp [cDeadline] <;> done) | (simp [cDeadline, *] <;> done)) (by first | rfl | (simp [cDeadline] <;> done) | (simp [cDeadline, *] <;> done))

set_option maxRecDepth 4000 in
theorem c_K_isThread {l : Launch} {D : va_G} {cI cB cT : ClassId} {ad : Nat → Nat} {d : Nat} {u : kSt} {t : Int32} : KSp (kWl lyC l D cI cB cT ad) y_K_isThread m_K_isThread d [.ref 0, .int t] u (some (.int (bI (cIsThread u t)))) u := by
  refine KSp.of (by decide) rfl (Nat.le_of_ble_eq_true rfl) rfl ?_
  show KAt (kWl lyC l D cI cB cT ad) m_K_isThread d 0 [some (.ref 0), some (.int t)] [] u (some (.int (bI (cIsThread u t)))) u
  refine k_iload_n d_K_isThread_0 rfl ?_
  refine k_if_lt d_K_isThread_1 (fun h1 => ?_) (fun h1 => ?_)
  · refine k_iconst (v := 0) d_K_isThread_27 (by decide) ?_
    exact k_zret d_K_isThread_28 rfl (by first | rfl | exact nb_bI _) (by first | rfl | (simp [cIsThread, bI] <;> done) | (simp [cIsThread, bI, *] <;> done)) (by first | rfl | (simp [cIsThread, bI] <;> done) | (simp [cIsThread, bI, *] <;> done))
  · refine k_iload_n d_K_isThread_4 rfl ?_
    refine k_bipush (v := 8) d_K_isThread_5 (by decide) ?_
    refine k_icmp_ge d_K_isThread_7 (fun h7 => ?_) (fun h7 => ?_)
    · refine k_iconst (v := 0) d_K_isThread_27 (by decide) ?_
      exact k_zret d_K_isThread_28 rfl (by first | rfl | exact nb_bI _) (by first | rfl | (simp [cIsThread, bI] <;> done) | (simp [cIsThread, bI, *] <;> done)) (by first | rfl | (simp [cIsThread, bI] <;> done) | (simp [cIsThread, bI, *] <;> done))
    · refine k_aload_n d_K_isThread_10 rfl ?_
      refine k_getr (t := 1) d_K_isThread_11 f_K_11 (by decide) rfl (by decide) (by decide) rfl ?_
      refine k_iload_n d_K_isThread_14 rfl ?_
      refine cA_ald d_K_isThread_15 (by first | assumption | (unfold vp_in; decide) | exact vin (by assumption) (by assumption) | exact vin_n (by assumption) | exact vin_n (by omega)) (fun hi15 => ?_)
      refine cT_get d_K_isThread_16 f_K_51 (by first | assumption | omega) (by decide) (by decide) ?_
      refine k_iconst (v := (-1)) d_K_isThread_19 (by decide) ?_
      refine k_icmp_eq d_K_isThread_20 (fun h20 => ?_) (fun h20 => ?_)
      · refine k_iconst (v := 0) d_K_isThread_27 (by decide) ?_
        exact k_zret d_K_isThread_28 rfl (by first | rfl | exact nb_bI _) (by first | rfl | (simp [cIsThread, bI] <;> done) | (simp [cIsThread, bI, *] <;> done)) (by first | rfl | (simp [cIsThread, bI] <;> done) | (simp [cIsThread, bI, *] <;> done))
      · refine k_iconst (v := 1) d_K_isThread_23 (by decide) ?_
        refine k_goto d_K_isThread_24 ?_
        exact k_zret d_K_isThread_28 rfl (by first | rfl | exact nb_bI _) (by first | rfl | (simp [cIsThread, bI] <;> done) | (simp [cIsThread, bI, *] <;> done)) (by first | rfl | (simp [cIsThread, bI] <;> done) | (simp [cIsThread, bI, *] <;> done))

set_option maxRecDepth 4000 in
theorem c_K_isRunning {l : Launch} {D : va_G} {cI cB cT : ClassId} {ad : Nat → Nat} {d : Nat} {u : kSt} {t : Int32} : KSp (kWl lyC l D cI cB cT ad) y_K_isRunning m_K_isRunning (d + 1) [.ref 0, .int t] u (some (.int (bI (cIsRun u t)))) u := by
  refine KSp.of (by decide) rfl (Nat.le_of_ble_eq_true rfl) rfl ?_
  show KAt (kWl lyC l D cI cB cT ad) m_K_isRunning (d + 1) 0 [some (.ref 0), some (.int t)] [] u (some (.int (bI (cIsRun u t)))) u
  refine k_aload_n d_K_isRunning_0 rfl ?_
  refine k_iload_n d_K_isRunning_1 rfl ?_
  refine k_virt1s d_K_isRunning_2 l_K_44 g_K_isThread c_K_isThread rcvK (Nat.le_of_ble_eq_true rfl) ?_
  refine k_if_eqB d_K_isRunning_5 (fun h5 => ?_) (fun h5 => ?_)
  · refine k_iconst (v := 0) d_K_isRunning_24 (by decide) ?_
    exact k_zret d_K_isRunning_25 rfl (by first | rfl | exact nb_bI _) (by first | rfl | (simp [cIsRun, bI] <;> done) | (simp [cIsRun, bI, *] <;> done)) (by first | rfl | (simp [cIsRun, bI] <;> done) | (simp [cIsRun, bI, *] <;> done))
  · refine k_aload_n d_K_isRunning_8 rfl ?_
    refine k_getr (t := 1) d_K_isRunning_9 f_K_11 (by decide) rfl (by decide) (by decide) rfl ?_
    refine k_iload_n d_K_isRunning_12 rfl ?_
    refine cA_ald d_K_isRunning_13 (cIsThread_in h5) (fun hi13 => ?_)
    refine cT_get d_K_isRunning_14 f_K_51 (by first | assumption | omega) (by decide) (by decide) ?_
    refine k_if_ne d_K_isRunning_17 (fun h17 => ?_) (fun h17 => ?_)
    · refine k_iconst (v := 0) d_K_isRunning_24 (by decide) ?_
      exact k_zret d_K_isRunning_25 rfl (by first | rfl | exact nb_bI _) (by first | rfl | (simp [cIsRun, bI] <;> done) | (simp [cIsRun, bI, *] <;> done)) (by first | rfl | (simp [cIsRun, bI] <;> done) | (simp [cIsRun, bI, *] <;> done))
    · refine k_iconst (v := 1) d_K_isRunning_20 (by decide) ?_
      refine k_goto d_K_isRunning_21 ?_
      exact k_zret d_K_isRunning_25 rfl (by first | rfl | exact nb_bI _) (by first | rfl | (simp [cIsRun, bI] <;> done) | (simp [cIsRun, bI, *] <;> done)) (by first | rfl | (simp [cIsRun, bI] <;> done) | (simp [cIsRun, bI, *] <;> done))

set_option maxRecDepth 4000 in
theorem c_K_maySend {l : Launch} {D : va_G} {cI cB cT : ClassId} {ad : Nat → Nat} {d : Nat} {u : kSt} {t o n : Int32} : KSp (kWl lyC l D cI cB cT ad) y_K_maySend m_K_maySend (d + 2) [.ref 0, .int t, .int o, .int n] u (some (.int (bI (cMaySend u t o n)))) u := by
  refine KSp.of (by decide) rfl (Nat.le_of_ble_eq_true rfl) rfl ?_
  show KAt (kWl lyC l D cI cB cT ad) m_K_maySend (d + 2) 0 [some (.ref 0), some (.int t), some (.int o), some (.int n)] [] u (some (.int (bI (cMaySend u t o n)))) u
  refine k_aload_n d_K_maySend_0 rfl ?_
  refine k_iload_n d_K_maySend_1 rfl ?_
  refine k_virt1s d_K_maySend_2 l_K_57 g_K_isRunning c_K_isRunning rcvK (Nat.le_of_ble_eq_true rfl) ?_
  refine k_if_eqB d_K_maySend_5 (fun h5 => ?_) (fun h5 => ?_)
  · refine k_iconst (v := 0) d_K_maySend_32 (by decide) ?_
    exact k_zret d_K_maySend_33 rfl (by first | rfl | exact nb_bI _) (by first | rfl | (simp [cMaySend, bI] <;> done) | (simp [cMaySend, bI, *] <;> done)) (by first | rfl | (simp [cMaySend, bI] <;> done) | (simp [cMaySend, bI, *] <;> done))
  · refine k_iload_n d_K_maySend_8 rfl ?_
    refine k_iload_n d_K_maySend_9 rfl ?_
    refine k_icmp_eq d_K_maySend_10 (fun h10 => ?_) (fun h10 => ?_)
    · refine k_iconst (v := 0) d_K_maySend_32 (by decide) ?_
      exact k_zret d_K_maySend_33 rfl (by first | rfl | exact nb_bI _) (by first | rfl | (simp [cMaySend, bI] <;> done) | (simp [cMaySend, bI, *] <;> done)) (by first | rfl | (simp [cMaySend, bI] <;> done) | (simp [cMaySend, bI, *] <;> done))
    · refine k_aload_n d_K_maySend_13 rfl ?_
      refine k_iload_n d_K_maySend_14 rfl ?_
      refine k_virt1s d_K_maySend_15 l_K_44 g_K_isThread c_K_isThread rcvK (Nat.le_of_ble_eq_true rfl) ?_
      refine k_if_eqB d_K_maySend_18 (fun h18 => ?_) (fun h18 => ?_)
      · refine k_iconst (v := 0) d_K_maySend_32 (by decide) ?_
        exact k_zret d_K_maySend_33 rfl (by first | rfl | exact nb_bI _) (by first | rfl | (simp [cMaySend, bI] <;> done) | (simp [cMaySend, bI, *] <;> done)) (by first | rfl | (simp [cMaySend, bI] <;> done) | (simp [cMaySend, bI, *] <;> done))
      · refine k_iload_n d_K_maySend_21 rfl ?_
        refine k_stat1s d_K_maySend_22 l_K_97 g_K_isLimit c_K_isLimit (Nat.le_of_ble_eq_true rfl) ?_
        refine k_if_eqB d_K_maySend_25 (fun h25 => ?_) (fun h25 => ?_)
        · refine k_iconst (v := 0) d_K_maySend_32 (by decide) ?_
          exact k_zret d_K_maySend_33 rfl (by first | rfl | exact nb_bI _) (by first | rfl | (simp [cMaySend, bI] <;> done) | (simp [cMaySend, bI, *] <;> done)) (by first | rfl | (simp [cMaySend, bI] <;> done) | (simp [cMaySend, bI, *] <;> done))
        · refine k_iconst (v := 1) d_K_maySend_28 (by decide) ?_
          refine k_goto d_K_maySend_29 ?_
          exact k_zret d_K_maySend_33 rfl (by first | rfl | exact nb_bI _) (by first | rfl | (simp [cMaySend, bI] <;> done) | (simp [cMaySend, bI, *] <;> done)) (by first | rfl | (simp [cMaySend, bI] <;> done) | (simp [cMaySend, bI, *] <;> done))

set_option maxRecDepth 4000 in
theorem c_K_state {l : Launch} {D : va_G} {cI cB cT : ClassId} {ad : Nat → Nat} {d : Nat} {u : kSt} {t : Int32} : KSp (kWl lyC l D cI cB cT ad) y_K_state m_K_state (d + 1) [.ref 0, .int t] u (some (.int (cState u t))) u := by
  refine KSp.of (by decide) rfl (Nat.le_of_ble_eq_true rfl) rfl ?_
  show KAt (kWl lyC l D cI cB cT ad) m_K_state (d + 1) 0 [some (.ref 0), some (.int t)] [] u (some (.int (cState u t))) u
  refine k_aload_n d_K_state_0 rfl ?_
  refine k_iload_n d_K_state_1 rfl ?_
  refine k_virt1s d_K_state_2 l_K_44 g_K_isThread c_K_isThread rcvK (Nat.le_of_ble_eq_true rfl) ?_
  refine k_if_eqB d_K_state_5 (fun h5 => ?_) (fun h5 => ?_)
  · refine k_iconst (v := (-1)) d_K_state_20 (by decide) ?_
    exact k_iret d_K_state_21 rfl (by first | rfl | (simp [cState] <;> done) | (simp [cState, *] <;> done)) (by first | rfl | (simp [cState] <;> done) | (simp [cState, *] <;> done))
  · refine k_aload_n d_K_state_8 rfl ?_
    refine k_getr (t := 1) d_K_state_9 f_K_11 (by decide) rfl (by decide) (by decide) rfl ?_
    refine k_iload_n d_K_state_12 rfl ?_
    refine cA_ald d_K_state_13 (cIsThread_in h5) (fun hi13 => ?_)
    refine cT_get d_K_state_14 f_K_51 (by first | assumption | omega) (by decide) (by decide) ?_
    refine k_goto d_K_state_17 ?_
    exact k_iret d_K_state_21 rfl (by first | rfl | (simp [cState] <;> done) | (simp [cState, *] <;> done)) (by first | rfl | (simp [cState] <;> done) | (simp [cState, *] <;> done))

set_option maxRecDepth 4000 in
theorem c_K_outcome {l : Launch} {D : va_G} {cI cB cT : ClassId} {ad : Nat → Nat} {d : Nat} {u : kSt} {t : Int32} : KSp (kWl lyC l D cI cB cT ad) y_K_outcome m_K_outcome (d + 1) [.ref 0, .int t] u (some (.int (cOutcome u t))) u := by
  refine KSp.of (by decide) rfl (Nat.le_of_ble_eq_true rfl) rfl ?_
  show KAt (kWl lyC l D cI cB cT ad) m_K_outcome (d + 1) 0 [some (.ref 0), some (.int t)] [] u (some (.int (cOutcome u t))) u
  refine k_aload_n d_K_outcome_0 rfl ?_
  refine k_iload_n d_K_outcome_1 rfl ?_
  refine k_virt1s d_K_outcome_2 l_K_44 g_K_isThread c_K_isThread rcvK (Nat.le_of_ble_eq_true rfl) ?_
  refine k_if_eqB d_K_outcome_5 (fun h5 => ?_) (fun h5 => ?_)
  · refine k_iconst (v := (-1)) d_K_outcome_20 (by decide) ?_
    exact k_iret d_K_outcome_21 rfl (by first | rfl | (simp [cOutcome] <;> done) | (simp [cOutcome, *] <;> done)) (by first | rfl | (simp [cOutcome] <;> done) | (simp [cOutcome, *] <;> done))
  · refine k_aload_n d_K_outcome_8 rfl ?_
    refine k_getr (t := 1) d_K_outcome_9 f_K_11 (by decide) rfl (by decide) (by decide) rfl ?_
    refine k_iload_n d_K_outcome_12 rfl ?_
    refine cA_ald d_K_outcome_13 (cIsThread_in h5) (fun hi13 => ?_)
    refine cT_get d_K_outcome_14 f_K_164 (by first | assumption | omega) (by decide) (by decide) ?_
    refine k_goto d_K_outcome_17 ?_
    exact k_iret d_K_outcome_21 rfl (by first | rfl | (simp [cOutcome] <;> done) | (simp [cOutcome, *] <;> done)) (by first | rfl | (simp [cOutcome] <;> done) | (simp [cOutcome, *] <;> done))

set_option maxRecDepth 4000 in
theorem c_K_value {l : Launch} {D : va_G} {cI cB cT : ClassId} {ad : Nat → Nat} {d : Nat} {u : kSt} {t : Int32} : KSp (kWl lyC l D cI cB cT ad) y_K_value m_K_value (d + 1) [.ref 0, .int t] u (some (.int (cValue u t))) u := by
  refine KSp.of (by decide) rfl (Nat.le_of_ble_eq_true rfl) rfl ?_
  show KAt (kWl lyC l D cI cB cT ad) m_K_value (d + 1) 0 [some (.ref 0), some (.int t)] [] u (some (.int (cValue u t))) u
  refine k_aload_n d_K_value_0 rfl ?_
  refine k_iload_n d_K_value_1 rfl ?_
  refine k_virt1s d_K_value_2 l_K_44 g_K_isThread c_K_isThread rcvK (Nat.le_of_ble_eq_true rfl) ?_
  refine k_if_eqB d_K_value_5 (fun h5 => ?_) (fun h5 => ?_)
  · refine k_iconst (v := 0) d_K_value_20 (by decide) ?_
    exact k_iret d_K_value_21 rfl (by first | rfl | (simp [cValue] <;> done) | (simp [cValue, *] <;> done)) (by first | rfl | (simp [cValue] <;> done) | (simp [cValue, *] <;> done))
  · refine k_aload_n d_K_value_8 rfl ?_
    refine k_getr (t := 1) d_K_value_9 f_K_11 (by decide) rfl (by decide) (by decide) rfl ?_
    refine k_iload_n d_K_value_12 rfl ?_
    refine cA_ald d_K_value_13 (cIsThread_in h5) (fun hi13 => ?_)
    refine cT_get d_K_value_14 f_K_167 (by first | assumption | omega) (by decide) (by decide) ?_
    refine k_goto d_K_value_17 ?_
    exact k_iret d_K_value_21 rfl (by first | rfl | (simp [cValue] <;> done) | (simp [cValue, *] <;> done)) (by first | rfl | (simp [cValue] <;> done) | (simp [cValue, *] <;> done))

set_option maxRecDepth 4000 in
theorem c_K_sender {l : Launch} {D : va_G} {cI cB cT : ClassId} {ad : Nat → Nat} {d : Nat} {u : kSt} {t : Int32} : KSp (kWl lyC l D cI cB cT ad) y_K_sender m_K_sender (d + 1) [.ref 0, .int t] u (some (.int (cSender u t))) u := by
  refine KSp.of (by decide) rfl (Nat.le_of_ble_eq_true rfl) rfl ?_
  show KAt (kWl lyC l D cI cB cT ad) m_K_sender (d + 1) 0 [some (.ref 0), some (.int t)] [] u (some (.int (cSender u t))) u
  refine k_aload_n d_K_sender_0 rfl ?_
  refine k_iload_n d_K_sender_1 rfl ?_
  refine k_virt1s d_K_sender_2 l_K_44 g_K_isThread c_K_isThread rcvK (Nat.le_of_ble_eq_true rfl) ?_
  refine k_if_eqB d_K_sender_5 (fun h5 => ?_) (fun h5 => ?_)
  · refine k_iconst (v := (-1)) d_K_sender_20 (by decide) ?_
    exact k_iret d_K_sender_21 rfl (by first | rfl | (simp [cSender] <;> done) | (simp [cSender, *] <;> done)) (by first | rfl | (simp [cSender] <;> done) | (simp [cSender, *] <;> done))
  · refine k_aload_n d_K_sender_8 rfl ?_
    refine k_getr (t := 1) d_K_sender_9 f_K_11 (by decide) rfl (by decide) (by decide) rfl ?_
    refine k_iload_n d_K_sender_12 rfl ?_
    refine cA_ald d_K_sender_13 (cIsThread_in h5) (fun hi13 => ?_)
    refine cT_get d_K_sender_14 f_K_170 (by first | assumption | omega) (by decide) (by decide) ?_
    refine k_goto d_K_sender_17 ?_
    exact k_iret d_K_sender_21 rfl (by first | rfl | (simp [cSender] <;> done) | (simp [cSender, *] <;> done)) (by first | rfl | (simp [cSender] <;> done) | (simp [cSender, *] <;> done))

set_option maxRecDepth 4000 in
theorem c_K_register {l : Launch} {D : va_G} {cI cB cT : ClassId} {ad : Nat → Nat} {d : Nat} {u : kSt} {t k : Int32} : KSp (kWl lyC l D cI cB cT ad) y_K_register m_K_register (d + 1) [.ref 0, .int t, .int k] u (some (.int (cRegister u t k))) u := by
  refine KSp.of (by decide) rfl (Nat.le_of_ble_eq_true rfl) rfl ?_
  show KAt (kWl lyC l D cI cB cT ad) m_K_register (d + 1) 0 [some (.ref 0), some (.int t), some (.int k)] [] u (some (.int (cRegister u t k))) u
  refine k_aload_n d_K_register_0 rfl ?_
  refine k_iload_n d_K_register_1 rfl ?_
  refine k_virt1s d_K_register_2 l_K_44 g_K_isThread c_K_isThread rcvK (Nat.le_of_ble_eq_true rfl) ?_
  refine k_if_eqB d_K_register_5 (fun h5 => ?_) (fun h5 => ?_)
  · refine k_iconst (v := 0) d_K_register_17 (by decide) ?_
    exact k_iret d_K_register_18 rfl (by first | rfl | (simp [cRegister] <;> done) | (simp [cRegister, *] <;> done)) (by first | rfl | (simp [cRegister] <;> done) | (simp [cRegister, *] <;> done))
  · refine k_iload_n d_K_register_8 rfl ?_
    refine k_if_lt d_K_register_9 (fun h9 => ?_) (fun h9 => ?_)
    · refine k_iconst (v := 0) d_K_register_17 (by decide) ?_
      exact k_iret d_K_register_18 rfl (by first | rfl | (simp [cRegister] <;> done) | (simp [cRegister, *] <;> done)) (by first | rfl | (simp [cRegister] <;> done) | (simp [cRegister, *] <;> done))
    · refine k_iload_n d_K_register_12 rfl ?_
      refine k_iconst (v := 4) d_K_register_13 (by decide) ?_
      refine k_icmp_le d_K_register_14 (fun h14 => ?_) (fun h14 => ?_)
      · refine k_iload_n d_K_register_19 rfl ?_
        refine k_iconst (v := 4) d_K_register_20 (by decide) ?_
        refine k_icmp_ne d_K_register_21 (fun h21 => ?_) (fun h21 => ?_)
        · refine k_aload_n d_K_register_36 rfl ?_
          refine k_getr (t := 1) d_K_register_37 f_K_11 (by decide) rfl (by decide) (by decide) rfl ?_
          refine k_iload_n d_K_register_40 rfl ?_
          refine cA_ald d_K_register_41 (cIsThread_in h5) (fun hi41 => ?_)
          refine cT_reg d_K_register_42 f_K_60 (by first | assumption | omega) ?_
          refine k_iload_n d_K_register_45 rfl ?_
          refine cR_ald d_K_register_46 (by first | assumption | omega) (vin (m := 4) h9 (fun e => h21 (Int32.le_antisymm h14 e))) ?_
          exact k_iret d_K_register_47 rfl (by first | rfl | (simp [cRegister] <;> done) | (simp [cRegister, *] <;> done)) (by first | rfl | (simp [cRegister] <;> done) | (simp [cRegister, *] <;> done))
        · refine k_aload_n d_K_register_24 rfl ?_
          refine k_getr (t := 1) d_K_register_25 f_K_11 (by decide) rfl (by decide) (by decide) rfl ?_
          refine k_iload_n d_K_register_28 rfl ?_
          refine cA_ald d_K_register_29 (cIsThread_in h5) (fun hi29 => ?_)
          refine cT_get d_K_register_30 f_K_161 (by first | assumption | omega) (by decide) (by decide) ?_
          refine k_goto d_K_register_33 ?_
          exact k_iret d_K_register_47 rfl (by first | rfl | (simp [cRegister] <;> done) | (simp [cRegister, *] <;> done)) (by first | rfl | (simp [cRegister] <;> done) | (simp [cRegister, *] <;> done))
      · refine k_iconst (v := 0) d_K_register_17 (by decide) ?_
        exact k_iret d_K_register_18 rfl (by first | rfl | (simp [cRegister] <;> done) | (simp [cRegister, *] <;> done)) (by first | rfl | (simp [cRegister] <;> done) | (simp [cRegister, *] <;> done))

set_option maxRecDepth 4000 in
theorem c_K_word {l : Launch} {D : va_G} {cI cB cT : ClassId} {ad : Nat → Nat} {d : Nat} {u : kSt} {n : Int32} : KSp (kWl lyC l D cI cB cT ad) y_K_word m_K_word d [.ref 0, .int n] u (some (.int (cWord u n))) u := by
  refine KSp.of (by decide) rfl (Nat.le_of_ble_eq_true rfl) rfl ?_
  show KAt (kWl lyC l D cI cB cT ad) m_K_word d 0 [some (.ref 0), some (.int n)] [] u (some (.int (cWord u n))) u
  refine k_iload_n d_K_word_0 rfl ?_
  refine k_if_lt d_K_word_1 (fun h1 => ?_) (fun h1 => ?_)
  · refine k_iconst (v := 0) d_K_word_19 (by decide) ?_
    exact k_iret d_K_word_20 rfl (by first | rfl | (simp [cWord] <;> done) | (simp [cWord, *] <;> done)) (by first | rfl | (simp [cWord] <;> done) | (simp [cWord, *] <;> done))
  · refine k_iload_n d_K_word_4 rfl ?_
    refine k_bipush (v := 16) d_K_word_5 (by decide) ?_
    refine k_icmp_ge d_K_word_7 (fun h7 => ?_) (fun h7 => ?_)
    · refine k_iconst (v := 0) d_K_word_19 (by decide) ?_
      exact k_iret d_K_word_20 rfl (by first | rfl | (simp [cWord] <;> done) | (simp [cWord, *] <;> done)) (by first | rfl | (simp [cWord] <;> done) | (simp [cWord, *] <;> done))
    · refine k_aload_n d_K_word_10 rfl ?_
      refine k_getr (t := 3) d_K_word_11 f_K_22 (by decide) rfl (by decide) (by decide) rfl ?_
      refine k_iload_n d_K_word_14 rfl ?_
      refine k_iald d_K_word_15 (by decide) rfl (by first | assumption | (unfold vp_in; decide) | exact vin (by assumption) (by assumption) | exact vin_n (by assumption) | exact vin_n (by omega)) ?_
      refine k_goto d_K_word_16 ?_
      exact k_iret d_K_word_20 rfl (by first | rfl | (simp [cWord] <;> done) | (simp [cWord, *] <;> done)) (by first | rfl | (simp [cWord] <;> done) | (simp [cWord, *] <;> done))

set_option maxRecDepth 4000 in
theorem c_K_load {l : Launch} {D : va_G} {cI cB cT : ClassId} {ad : Nat → Nat} {d : Nat} {u : kSt} {t k v : Int32} : KSp (kWl lyC l D cI cB cT ad) y_K_load m_K_load (d + 2) [.ref 0, .int t, .int k, .int v] u (some (.int (cLoad u t k v).1)) (cLoad u t k v).2 := by
  refine KSp.of (by decide) rfl (Nat.le_of_ble_eq_true rfl) rfl ?_
  show KAt (kWl lyC l D cI cB cT ad) m_K_load (d + 2) 0 [some (.ref 0), some (.int t), some (.int k), some (.int v)] [] u (some (.int (cLoad u t k v).1)) (cLoad u t k v).2
  refine k_aload_n d_K_load_0 rfl ?_
  refine k_iload_n d_K_load_1 rfl ?_
  refine k_virt1s d_K_load_2 l_K_57 g_K_isRunning c_K_isRunning rcvK (Nat.le_of_ble_eq_true rfl) ?_
  refine k_if_eqB d_K_load_5 (fun h5 => ?_) (fun h5 => ?_)
  · refine k_iconst (v := 0) d_K_load_17 (by decide) ?_
    exact k_zret d_K_load_18 rfl (by first | rfl | exact nb_bI _) (by first | rfl | (simp [cLoad] <;> done) | (simp [cLoad, *] <;> done)) (by first | rfl | (simp [cLoad] <;> done) | (simp [cLoad, *] <;> done))
  · refine k_iload_n d_K_load_8 rfl ?_
    refine k_if_lt d_K_load_9 (fun h9 => ?_) (fun h9 => ?_)
    · refine k_iconst (v := 0) d_K_load_17 (by decide) ?_
      exact k_zret d_K_load_18 rfl (by first | rfl | exact nb_bI _) (by first | rfl | (simp [cLoad] <;> done) | (simp [cLoad, *] <;> done)) (by first | rfl | (simp [cLoad] <;> done) | (simp [cLoad, *] <;> done))
    · refine k_iload_n d_K_load_12 rfl ?_
      refine k_iconst (v := 4) d_K_load_13 (by decide) ?_
      refine k_icmp_lt d_K_load_14 (fun h14 => ?_) (fun h14 => ?_)
      · refine k_aload_n d_K_load_19 rfl ?_
        refine k_getr (t := 1) d_K_load_20 f_K_11 (by decide) rfl (by decide) (by decide) rfl ?_
        refine k_iload_n d_K_load_23 rfl ?_
        refine cA_ald d_K_load_24 (cIsRun_in h5) (fun hi24 => ?_)
        refine cT_reg d_K_load_25 f_K_60 (by first | assumption | omega) ?_
        refine k_iload_n d_K_load_28 rfl ?_
        refine k_iload_n d_K_load_29 rfl ?_
        refine cR_ast d_K_load_30 (by first | assumption | omega) (vin (m := 4) h9 (Int32.not_le.mpr h14)) ?_
        refine k_iconst (v := 1) d_K_load_31 (by decide) ?_
        exact k_zret d_K_load_32 rfl (by first | rfl | exact nb_bI _) (by first | rfl | (simp [cLoad] <;> done) | (simp [cLoad, *] <;> done)) (by first | rfl | (simp [cLoad] <;> done) | (simp [cLoad, *] <;> done))
      · refine k_iconst (v := 0) d_K_load_17 (by decide) ?_
        exact k_zret d_K_load_18 rfl (by first | rfl | exact nb_bI _) (by first | rfl | (simp [cLoad] <;> done) | (simp [cLoad, *] <;> done)) (by first | rfl | (simp [cLoad] <;> done) | (simp [cLoad, *] <;> done))

set_option maxRecDepth 4000 in
theorem c_K_offer {l : Launch} {D : va_G} {cI cB cT : ClassId} {ad : Nat → Nat} {d : Nat} {u : kSt} {t p m g : Int32} (hg : g = 0 ∨ g = 1) : KSp (kWl lyC l D cI cB cT ad) y_K_offer m_K_offer (d + 2) [.ref 0, .int t, .int p, .int m, .int g] u (some (.int (cOfferCall u t p m g).1)) (cOfferCall u t p m g).2 := by
  refine KSp.of (by decide) rfl (Nat.le_of_ble_eq_true rfl) rfl ?_
  show KAt (kWl lyC l D cI cB cT ad) m_K_offer (d + 2) 0 [some (.ref 0), some (.int t), some (.int p), some (.int m), some (.int g), none] [] u (some (.int (cOfferCall u t p m g).1)) (cOfferCall u t p m g).2
  refine k_aload_n d_K_offer_0 rfl ?_
  refine k_iload_n d_K_offer_1 rfl ?_
  refine k_virt1s d_K_offer_2 l_K_57 g_K_isRunning c_K_isRunning rcvK (Nat.le_of_ble_eq_true rfl) ?_
  refine k_if_eqB d_K_offer_5 (fun h5 => ?_) (fun h5 => ?_)
  · refine k_iconst (v := 0) d_K_offer_27 (by decide) ?_
    exact k_zret d_K_offer_28 rfl (by first | rfl | exact nb_bI _) (by simp [cOfferCall, *]) (by simp [cOfferCall, *])
  · refine k_iload_n d_K_offer_8 rfl ?_
    refine k_stat1s d_K_offer_9 l_K_63 g_K_isPageOrNone c_K_isPageOrNone (Nat.le_of_ble_eq_true rfl) ?_
    refine k_if_eqB d_K_offer_12 (fun h12 => ?_) (fun h12 => ?_)
    · refine k_iconst (v := 0) d_K_offer_27 (by decide) ?_
      exact k_zret d_K_offer_28 rfl (by first | rfl | exact nb_bI _) (by simp [cOfferCall, *]) (by simp [cOfferCall, *])
    · refine k_iload_n d_K_offer_15 rfl ?_
      refine k_iconst (v := (-1)) d_K_offer_16 (by decide) ?_
      refine k_icmp_eq d_K_offer_17 (fun h17 => ?_) (fun h17 => ?_)
      · refine k_aload_n d_K_offer_29 rfl ?_
        refine k_getr (t := 1) d_K_offer_30 f_K_11 (by decide) rfl (by decide) (by decide) rfl ?_
        refine k_iload_n d_K_offer_33 rfl ?_
        refine cA_ald d_K_offer_34 (cIsRun_in h5) (fun hi34 => ?_)
        refine k_astore d_K_offer_35 (by decide) ?_
        refine k_aload d_K_offer_37 rfl ?_
        refine k_iload_n d_K_offer_39 rfl ?_
        refine cT_put d_K_offer_40 p_K_69 (by first | assumption | omega) (by decide) (by decide) rfl rfl ?_
        refine k_aload d_K_offer_43 rfl ?_
        refine k_iload_n d_K_offer_45 rfl ?_
        refine cT_put d_K_offer_46 p_K_72 (by first | assumption | omega) (by decide) (by decide) rfl rfl ?_
        refine k_aload d_K_offer_49 rfl ?_
        refine k_iload d_K_offer_51 rfl ?_
        refine cT_put d_K_offer_53 p_K_75 (by first | assumption | omega) (by decide) (by decide) (by rcases hg with rfl | rfl <;> rfl) (by rcases hg with rfl | rfl <;> rfl) ?_
        refine k_iconst (v := 1) d_K_offer_56 (by decide) ?_
        exact k_zret d_K_offer_57 rfl (by first | rfl | exact nb_bI _) (by rw [cOfferCall, if_pos h5, if_pos h12]; simp [*]) (by rw [cOfferCall, if_pos h5, if_pos h12]; simp [*])
      · refine k_iload_n d_K_offer_20 rfl ?_
        refine k_stat1s d_K_offer_21 l_K_66 g_K_isLevel c_K_isLevel (Nat.le_of_ble_eq_true rfl) ?_
        refine k_if_neB d_K_offer_24 (fun h24 => ?_) (fun h24 => ?_)
        · refine k_aload_n d_K_offer_29 rfl ?_
          refine k_getr (t := 1) d_K_offer_30 f_K_11 (by decide) rfl (by decide) (by decide) rfl ?_
          refine k_iload_n d_K_offer_33 rfl ?_
          refine cA_ald d_K_offer_34 (cIsRun_in h5) (fun hi34 => ?_)
          refine k_astore d_K_offer_35 (by decide) ?_
          refine k_aload d_K_offer_37 rfl ?_
          refine k_iload_n d_K_offer_39 rfl ?_
          refine cT_put d_K_offer_40 p_K_69 (by first | assumption | omega) (by decide) (by decide) rfl rfl ?_
          refine k_aload d_K_offer_43 rfl ?_
          refine k_iload_n d_K_offer_45 rfl ?_
          refine cT_put d_K_offer_46 p_K_72 (by first | assumption | omega) (by decide) (by decide) rfl rfl ?_
          refine k_aload d_K_offer_49 rfl ?_
          refine k_iload d_K_offer_51 rfl ?_
          refine cT_put d_K_offer_53 p_K_75 (by first | assumption | omega) (by decide) (by decide) (by rcases hg with rfl | rfl <;> rfl) (by rcases hg with rfl | rfl <;> rfl) ?_
          refine k_iconst (v := 1) d_K_offer_56 (by decide) ?_
          exact k_zret d_K_offer_57 rfl (by first | rfl | exact nb_bI _) (by rw [cOfferCall, if_pos h5, if_pos h12]; simp [*]) (by rw [cOfferCall, if_pos h5, if_pos h12]; simp [*])
        · refine k_iconst (v := 0) d_K_offer_27 (by decide) ?_
          exact k_zret d_K_offer_28 rfl (by first | rfl | exact nb_bI _) (by simp [cOfferCall, *]) (by simp [cOfferCall, *])

set_option maxRecDepth 4000 in
theorem c_K_window {l : Launch} {D : va_G} {cI cB cT : ClassId} {ad : Nat → Nat} {d : Nat} {u : kSt} {t p : Int32} : KSp (kWl lyC l D cI cB cT ad) y_K_window m_K_window (d + 2) [.ref 0, .int t, .int p] u (some (.int (cWindow u t p).1)) (cWindow u t p).2 := by
  refine KSp.of (by decide) rfl (Nat.le_of_ble_eq_true rfl) rfl ?_
  show KAt (kWl lyC l D cI cB cT ad) m_K_window (d + 2) 0 [some (.ref 0), some (.int t), some (.int p)] [] u (some (.int (cWindow u t p).1)) (cWindow u t p).2
  refine k_aload_n d_K_window_0 rfl ?_
  refine k_iload_n d_K_window_1 rfl ?_
  refine k_virt1s d_K_window_2 l_K_57 g_K_isRunning c_K_isRunning rcvK (Nat.le_of_ble_eq_true rfl) ?_
  refine k_if_eqB d_K_window_5 (fun h5 => ?_) (fun h5 => ?_)
  · refine k_iconst (v := 0) d_K_window_15 (by decide) ?_
    exact k_zret d_K_window_16 rfl (by first | rfl | exact nb_bI _) (by first | rfl | (simp [cWindow] <;> done) | (simp [cWindow, *] <;> done)) (by first | rfl | (simp [cWindow] <;> done) | (simp [cWindow, *] <;> done))
  · refine k_iload_n d_K_window_8 rfl ?_
    refine k_stat1s d_K_window_9 l_K_63 g_K_isPageOrNone c_K_isPageOrNone (Nat.le_of_ble_eq_true rfl) ?_
    refine k_if_neB d_K_window_12 (fun h12 => ?_) (fun h12 => ?_)
    · refine k_aload_n d_K_window_17 rfl ?_
      refine k_getr (t := 1) d_K_window_18 f_K_11 (by decide) rfl (by decide) (by decide) rfl ?_
      refine k_iload_n d_K_window_21 rfl ?_
      refine cA_ald d_K_window_22 (cIsRun_in h5) (fun hi22 => ?_)
      refine k_iload_n d_K_window_23 rfl ?_
      refine cT_put d_K_window_24 p_K_79 (by first | assumption | omega) (by decide) (by decide) rfl rfl ?_
      refine k_iconst (v := 1) d_K_window_27 (by decide) ?_
      exact k_zret d_K_window_28 rfl (by first | rfl | exact nb_bI _) (by first | rfl | (simp [cWindow] <;> done) | (simp [cWindow, *] <;> done)) (by first | rfl | (simp [cWindow] <;> done) | (simp [cWindow, *] <;> done))
    · refine k_iconst (v := 0) d_K_window_15 (by decide) ?_
      exact k_zret d_K_window_16 rfl (by first | rfl | exact nb_bI _) (by first | rfl | (simp [cWindow] <;> done) | (simp [cWindow, *] <;> done)) (by first | rfl | (simp [cWindow] <;> done) | (simp [cWindow, *] <;> done))

set_option maxRecDepth 4000 in
theorem c_K_mapping {l : Launch} {D : va_G} {cI cB cT : ClassId} {ad : Nat → Nat} {d : Nat} {u : kSt} {a p : Int32} : KSp (kWl lyC l D cI cB cT ad) y_K_mapping m_K_mapping (d + 2) [.ref 0, .int a, .int p] u (some (.int (cMapping u a p))) u := by
  refine KSp.of (by decide) rfl (Nat.le_of_ble_eq_true rfl) rfl ?_
  show KAt (kWl lyC l D cI cB cT ad) m_K_mapping (d + 2) 0 [some (.ref 0), some (.int a), some (.int p)] [] u (some (.int (cMapping u a p))) u
  refine k_iload_n d_K_mapping_0 rfl ?_
  refine k_stat1s d_K_mapping_1 l_K_40 g_K_isSpace c_K_isSpace (Nat.le_of_ble_eq_true rfl) ?_
  refine k_if_eqB d_K_mapping_4 (fun h4 => ?_) (fun h4 => ?_)
  · refine k_iconst (v := (-1)) d_K_mapping_14 (by decide) ?_
    exact k_iret d_K_mapping_15 rfl (by first | rfl | (simp [cMapping] <;> done) | (simp [cMapping, *] <;> done)) (by first | rfl | (simp [cMapping] <;> done) | (simp [cMapping, *] <;> done))
  · refine k_iload_n d_K_mapping_7 rfl ?_
    refine k_stat1s d_K_mapping_8 l_K_120 g_K_isPage c_K_isPage (Nat.le_of_ble_eq_true rfl) ?_
    refine k_if_neB d_K_mapping_11 (fun h11 => ?_) (fun h11 => ?_)
    · refine k_aload_n d_K_mapping_16 rfl ?_
      refine k_getr (t := 2) d_K_mapping_17 f_K_18 (by decide) rfl (by decide) (by decide) rfl ?_
      refine k_iload_n d_K_mapping_20 rfl ?_
      refine k_iload_n d_K_mapping_21 rfl ?_
      refine k_stat2s d_K_mapping_22 l_K_139 g_K_slotOf c_K_slotOf (Nat.le_of_ble_eq_true rfl) ?_
      rw [(sl_eq (cIsSpace_in h4) (cIsPage_in h11)).1]
      refine k_virt1s d_K_mapping_25 l_K_173 g_P_describe (c_P_describe (sl_eq (cIsSpace_in h4) (cIsPage_in h11)).2) rcvP (Nat.le_of_ble_eq_true rfl) ?_
      exact k_iret d_K_mapping_28 rfl (by first | rfl | (simp [cMapping] <;> done) | (simp [cMapping, *] <;> done)) (by first | rfl | (simp [cMapping] <;> done) | (simp [cMapping, *] <;> done))
    · refine k_iconst (v := (-1)) d_K_mapping_14 (by decide) ?_
      exact k_iret d_K_mapping_15 rfl (by first | rfl | (simp [cMapping] <;> done) | (simp [cMapping, *] <;> done)) (by first | rfl | (simp [cMapping] <;> done) | (simp [cMapping, *] <;> done))

set_option maxRecDepth 4000 in
theorem c_K_heirs {l : Launch} {D : va_G} {cI cB cT : ClassId} {ad : Nat → Nat} {d : Nat} {u : kSt} {a p : Int32} (hI : cInv u) : KSp (kWl lyC l D cI cB cT ad) y_K_heirs m_K_heirs (d + 2) [.ref 0, .int a, .int p] u (some (.int (cHeirs u a p))) u := by
  refine KSp.of (by decide) rfl (Nat.le_of_ble_eq_true rfl) rfl ?_
  show KAt (kWl lyC l D cI cB cT ad) m_K_heirs (d + 2) 0 [some (.ref 0), some (.int a), some (.int p)] [] u (some (.int (cHeirs u a p))) u
  refine k_iload_n d_K_heirs_0 rfl ?_
  refine k_stat1s d_K_heirs_1 l_K_40 g_K_isSpace c_K_isSpace (Nat.le_of_ble_eq_true rfl) ?_
  refine k_if_eqB d_K_heirs_4 (fun h4 => ?_) (fun h4 => ?_)
  · refine k_iconst (v := (-1)) d_K_heirs_29 (by decide) ?_
    exact k_iret d_K_heirs_30 rfl (by first | rfl | (simp [cHeirs] <;> done) | (simp [cHeirs, *] <;> done)) (by first | rfl | (simp [cHeirs] <;> done) | (simp [cHeirs, *] <;> done))
  · refine k_iload_n d_K_heirs_7 rfl ?_
    refine k_stat1s d_K_heirs_8 l_K_120 g_K_isPage c_K_isPage (Nat.le_of_ble_eq_true rfl) ?_
    refine k_if_eqB d_K_heirs_11 (fun h11 => ?_) (fun h11 => ?_)
    · refine k_iconst (v := (-1)) d_K_heirs_29 (by decide) ?_
      exact k_iret d_K_heirs_30 rfl (by first | rfl | (simp [cHeirs] <;> done) | (simp [cHeirs, *] <;> done)) (by first | rfl | (simp [cHeirs] <;> done) | (simp [cHeirs, *] <;> done))
    · refine k_aload_n d_K_heirs_14 rfl ?_
      refine k_getr (t := 2) d_K_heirs_15 f_K_18 (by decide) rfl (by decide) (by decide) rfl ?_
      refine k_iload_n d_K_heirs_18 rfl ?_
      refine k_iload_n d_K_heirs_19 rfl ?_
      refine k_stat2s d_K_heirs_20 l_K_139 g_K_slotOf c_K_slotOf (Nat.le_of_ble_eq_true rfl) ?_
      rw [(sl_eq (cIsSpace_in h4) (cIsPage_in h11)).1]
      refine k_virt1s d_K_heirs_23 l_K_143 g_P_holds (c_P_holds (sl_eq (cIsSpace_in h4) (cIsPage_in h11)).2) rcvP (Nat.le_of_ble_eq_true rfl) ?_
      refine k_if_neB d_K_heirs_26 (fun h26 => ?_) (fun h26 => ?_)
      · refine k_aload_n d_K_heirs_31 rfl ?_
        refine k_getr (t := 2) d_K_heirs_32 f_K_18 (by decide) rfl (by decide) (by decide) rfl ?_
        refine k_iload_n d_K_heirs_35 rfl ?_
        refine k_iload_n d_K_heirs_36 rfl ?_
        refine k_stat2s d_K_heirs_37 l_K_139 g_K_slotOf c_K_slotOf (Nat.le_of_ble_eq_true rfl) ?_
        rw [(sl_eq (cIsSpace_in h4) (cIsPage_in h11)).1]
        refine k_virt1s d_K_heirs_40 l_K_176 g_P_countDescendants (c_P_countDescendants hI.par hI.dep) rcvP (Nat.le_of_ble_eq_true rfl) ?_
        exact k_iret d_K_heirs_43 rfl (by first | rfl | (simp [cHeirs] <;> done) | (simp [cHeirs, *] <;> done)) (by first | rfl | (simp [cHeirs] <;> done) | (simp [cHeirs, *] <;> done))
      · refine k_iconst (v := (-1)) d_K_heirs_29 (by decide) ?_
        exact k_iret d_K_heirs_30 rfl (by first | rfl | (simp [cHeirs] <;> done) | (simp [cHeirs, *] <;> done)) (by first | rfl | (simp [cHeirs] <;> done) | (simp [cHeirs, *] <;> done))

theorem c_K_leastFreeNumber_loop {l : Launch} {D : va_G} {cI cB cT : ClassId} {ad : Nat → Nat} {d : Nat} {u : kSt} : ∀ (m k : Nat), k + m = 8 → KAt (kWl lyC l D cI cB cT ad) m_K_leastFreeNumber d 2 [some (.ref 0), some (.int (nI k))] [] u (some (.int (cFree u k m))) u := by
  intro m
  induction m with
  | zero =>
    intro k hk
    obtain rfl : k = 8 := by omega
    refine k_iload_n d_K_leastFreeNumber_2 rfl ?_
    refine k_bipush (v := 8) d_K_leastFreeNumber_3 (by decide) ?_
    refine k_icmp_ge d_K_leastFreeNumber_5 (fun h5 => ?_) (fun h5 => absurd h5 (fun z => z (by decide)))
    refine k_iconst (v := (-1)) d_K_leastFreeNumber_29 (by decide) ?_
    exact k_iret d_K_leastFreeNumber_30 rfl (by first | rfl | (simp [cFree] <;> done) | (simp [cFree, *] <;> done)) (by first | rfl | (simp [cFree] <;> done) | (simp [cFree, *] <;> done))
  | succ m ih =>
    intro k hk
    have h0 : ¬ (8 : Int32) ≤ nI k := nI_ge (a := k) (b := 8) (by omega) (by decide)
    refine k_iload_n d_K_leastFreeNumber_2 rfl ?_
    refine k_bipush (v := 8) d_K_leastFreeNumber_3 (by decide) ?_
    refine k_icmp_ge d_K_leastFreeNumber_5 (fun h5 => absurd h5 h0) (fun h5 => ?_)
    refine k_aload_n d_K_leastFreeNumber_8 rfl ?_
    refine k_getr (t := 1) d_K_leastFreeNumber_9 f_K_11 (by decide) rfl (by decide) (by decide) rfl ?_
    refine k_iload_n d_K_leastFreeNumber_12 rfl ?_
    refine cA_aldN d_K_leastFreeNumber_13 (by first | assumption | omega) ?_
    refine cT_get d_K_leastFreeNumber_14 f_K_51 (by first | assumption | omega) (by decide) (by decide) ?_
    refine k_iconst (v := (-1)) d_K_leastFreeNumber_17 (by decide) ?_
    refine k_icmp_ne d_K_leastFreeNumber_18 (fun h18 => ?_) (fun h18 => ?_)
    · refine k_incN d_K_leastFreeNumber_23 rfl (by decide) ?_
      refine k_goto d_K_leastFreeNumber_26 ?_
      exact (ih (k + 1) (by omega)).to (by simp [cFree, *]) rfl
    · refine k_iload_n d_K_leastFreeNumber_21 rfl ?_
      exact k_iret d_K_leastFreeNumber_22 rfl (by first | rfl | (simp [cFree] <;> done) | (simp [cFree, *] <;> done)) (by first | rfl | (simp [cFree] <;> done) | (simp [cFree, *] <;> done))

set_option maxRecDepth 4000 in
theorem c_K_leastFreeNumber {l : Launch} {D : va_G} {cI cB cT : ClassId} {ad : Nat → Nat} {d : Nat} {u : kSt}  : KSp (kWl lyC l D cI cB cT ad) y_K_leastFreeNumber m_K_leastFreeNumber d [.ref 0] u (some (.int (cFree u 0 8))) u := by
  refine KSp.of (by decide) rfl (Nat.le_of_ble_eq_true rfl) rfl ?_
  show KAt (kWl lyC l D cI cB cT ad) m_K_leastFreeNumber d 0 [some (.ref 0), none] [] u (some (.int (cFree u 0 8))) u
  refine k_iconst (v := 0) d_K_leastFreeNumber_0 (by decide) ?_
  refine k_istore_n d_K_leastFreeNumber_1 (by decide) ?_
  exact c_K_leastFreeNumber_loop 8 0 rfl

set_option maxRecDepth 4000 in
theorem c_K_spawn {l : Launch} {D : va_G} {cI cB cT : ClassId} {ad : Nat → Nat} {d : Nat} {u : kSt} {a b : Int32} : KSp (kWl lyC l D cI cB cT ad) y_K_spawn m_K_spawn (d + 1) [.ref 0, .int a, .int b] u (some (.int (cSpawn u a b).1)) (cSpawn u a b).2 := by
  refine KSp.of (by decide) rfl (Nat.le_of_ble_eq_true rfl) rfl ?_
  show KAt (kWl lyC l D cI cB cT ad) m_K_spawn (d + 1) 0 [some (.ref 0), some (.int a), some (.int b), none] [] u (some (.int (cSpawn u a b).1)) (cSpawn u a b).2
  refine k_iload_n d_K_spawn_0 rfl ?_
  refine k_stat1s d_K_spawn_1 l_K_40 g_K_isSpace c_K_isSpace (Nat.le_of_ble_eq_true rfl) ?_
  refine k_if_eqB d_K_spawn_4 (fun h4 => ?_) (fun h4 => ?_)
  · refine k_iconst (v := (-1)) d_K_spawn_20 (by decide) ?_
    exact k_iret d_K_spawn_21 rfl (by simp [cSpawn, *]) (by simp [cSpawn, *])
  · refine k_iload_n d_K_spawn_7 rfl ?_
    refine k_iconst (v := (-1)) d_K_spawn_8 (by decide) ?_
    refine k_icmp_eq d_K_spawn_9 (fun h9 => ?_) (fun h9 => ?_)
    · refine k_aload_n d_K_spawn_22 rfl ?_
      refine k_virt0s d_K_spawn_23 l_K_47 g_K_leastFreeNumber c_K_leastFreeNumber rcvK (Nat.le_of_ble_eq_true rfl) ?_
      refine k_istore_n d_K_spawn_26 (by decide) ?_
      refine k_iload_n d_K_spawn_27 rfl ?_
      refine k_iconst (v := (-1)) d_K_spawn_28 (by decide) ?_
      refine k_icmp_ne d_K_spawn_29 (fun h29 => ?_) (fun h29 => ?_)
      · refine k_aload_n d_K_spawn_34 rfl ?_
        refine k_getr (t := 1) d_K_spawn_35 f_K_11 (by decide) rfl (by decide) (by decide) rfl ?_
        refine k_iload_n d_K_spawn_38 rfl ?_
        refine cA_ald d_K_spawn_39 (cFree_in 8 0 rfl h29) (fun hi39 => ?_)
        refine k_iload_n d_K_spawn_40 rfl ?_
        refine k_iload_n d_K_spawn_41 rfl ?_
        refine k_virt2v d_K_spawn_42 l_K_36 g_H_begin (c_H_begin hi39) (rcvT (by first | assumption | omega)) (Nat.le_of_ble_eq_true rfl) ?_
        refine k_iload_n d_K_spawn_45 rfl ?_
        exact k_iret d_K_spawn_46 rfl (by simp [cSpawn, *]) (by simp [cSpawn, *])
      · refine k_iconst (v := (-1)) d_K_spawn_32 (by decide) ?_
        exact k_iret d_K_spawn_33 rfl (by simp [cSpawn, *]) (by simp [cSpawn, *])
    · refine k_aload_n d_K_spawn_12 rfl ?_
      refine k_iload_n d_K_spawn_13 rfl ?_
      refine k_virt1s d_K_spawn_14 l_K_44 g_K_isThread c_K_isThread rcvK (Nat.le_of_ble_eq_true rfl) ?_
      refine k_if_neB d_K_spawn_17 (fun h17 => ?_) (fun h17 => ?_)
      · refine k_aload_n d_K_spawn_22 rfl ?_
        refine k_virt0s d_K_spawn_23 l_K_47 g_K_leastFreeNumber c_K_leastFreeNumber rcvK (Nat.le_of_ble_eq_true rfl) ?_
        refine k_istore_n d_K_spawn_26 (by decide) ?_
        refine k_iload_n d_K_spawn_27 rfl ?_
        refine k_iconst (v := (-1)) d_K_spawn_28 (by decide) ?_
        refine k_icmp_ne d_K_spawn_29 (fun h29 => ?_) (fun h29 => ?_)
        · refine k_aload_n d_K_spawn_34 rfl ?_
          refine k_getr (t := 1) d_K_spawn_35 f_K_11 (by decide) rfl (by decide) (by decide) rfl ?_
          refine k_iload_n d_K_spawn_38 rfl ?_
          refine cA_ald d_K_spawn_39 (cFree_in 8 0 rfl h29) (fun hi39 => ?_)
          refine k_iload_n d_K_spawn_40 rfl ?_
          refine k_iload_n d_K_spawn_41 rfl ?_
          refine k_virt2v d_K_spawn_42 l_K_36 g_H_begin (c_H_begin hi39) (rcvT (by first | assumption | omega)) (Nat.le_of_ble_eq_true rfl) ?_
          refine k_iload_n d_K_spawn_45 rfl ?_
          exact k_iret d_K_spawn_46 rfl (by simp [cSpawn, *]) (by simp [cSpawn, *])
        · refine k_iconst (v := (-1)) d_K_spawn_32 (by decide) ?_
          exact k_iret d_K_spawn_33 rfl (by simp [cSpawn, *]) (by simp [cSpawn, *])
      · refine k_iconst (v := (-1)) d_K_spawn_20 (by decide) ?_
        exact k_iret d_K_spawn_21 rfl (by simp [cSpawn, *]) (by simp [cSpawn, *])

theorem c_K_delete_loop {l : Launch} {D : va_G} {cI cB cT : ClassId} {ad : Nat → Nat} {d : Nat} {u : kSt} {t : Int32} (N : Nat) (hN : N = 8) : ∀ (n k : Nat) (y : kSt), k + n = N → y = cOutAll u t k → KAt (kWl lyC l D cI cB cT ad) m_K_delete (d + 2) 35 [some (.ref 0), some (.int t), some (.ref 1), some (.int 8), some (.int (nI k)), none] [] y (some (.int 1)) (cOutAll u t N) := by
  intro n
  induction n with
  | zero =>
    intro k y hk hy
    subst hy
    obtain rfl : k = N := by omega
    have h0 : ¬ ¬ (8 : Int32) ≤ nI k := by rw [hN]; decide
    refine k_iload d_K_delete_35 rfl ?_
    refine k_iload_n d_K_delete_37 rfl ?_
    refine k_icmp_ge d_K_delete_38 (fun h38 => ?_) (fun h38 => absurd h38 h0)
    refine k_iconst (v := 1) d_K_delete_59 (by decide) ?_
    exact k_zret d_K_delete_60 rfl (by first | rfl | exact nb_bI _) (by first | rfl | (simp [bI] <;> done) | (simp [bI, *] <;> done)) (by first | rfl | (simp [bI] <;> done) | (simp [bI, *] <;> done))
  | succ n ih =>
    intro k y hk hy
    subst hy
    have hk2 : k < 8 := by omega
    have h0 : ¬ (8 : Int32) ≤ nI k := nI_ge (a := k) (b := 8) hk2 (by decide)
    refine k_iload d_K_delete_35 rfl ?_
    refine k_iload_n d_K_delete_37 rfl ?_
    refine k_icmp_ge d_K_delete_38 (fun h38 => absurd h38 h0) (fun h38 => ?_)
    refine k_aload_n d_K_delete_41 rfl ?_
    refine k_iload d_K_delete_42 rfl ?_
    refine cA_aldN d_K_delete_44 (by first | assumption | omega) ?_
    refine k_astore d_K_delete_45 (by decide) ?_
    refine k_aload d_K_delete_47 rfl ?_
    refine k_iload_n d_K_delete_49 rfl ?_
    refine k_virt1v d_K_delete_50 l_K_54 g_H_outlive (c_H_outlive hk2) (rcvT (by first | assumption | omega)) (Nat.le_of_ble_eq_true rfl) ?_
    refine k_incN d_K_delete_53 rfl (by decide) ?_
    refine k_goto d_K_delete_56 ?_
    refine k_forget 5 ?_
    exact ih (k + 1) _ (by omega) rfl

set_option maxRecDepth 4000 in
theorem c_K_delete {l : Launch} {D : va_G} {cI cB cT : ClassId} {ad : Nat → Nat} {d : Nat} {u : kSt} {t : Int32} : KSp (kWl lyC l D cI cB cT ad) y_K_delete m_K_delete (d + 2) [.ref 0, .int t] u (some (.int (cDelete u t).1)) (cDelete u t).2 := by
  refine KSp.of (by decide) rfl (Nat.le_of_ble_eq_true rfl) rfl ?_
  show KAt (kWl lyC l D cI cB cT ad) m_K_delete (d + 2) 0 [some (.ref 0), some (.int t), none, none, none, none] [] u (some (.int (cDelete u t).1)) (cDelete u t).2
  refine k_iload_n d_K_delete_0 rfl ?_
  refine k_if_eq d_K_delete_1 (fun h1 => ?_) (fun h1 => ?_)
  · refine k_iconst (v := 0) d_K_delete_12 (by decide) ?_
    exact k_zret d_K_delete_13 rfl (by first | rfl | exact nb_bI _) (by simp [cDelete, *]) (by simp [cDelete, *])
  · refine k_aload_n d_K_delete_4 rfl ?_
    refine k_iload_n d_K_delete_5 rfl ?_
    refine k_virt1s d_K_delete_6 l_K_44 g_K_isThread c_K_isThread rcvK (Nat.le_of_ble_eq_true rfl) ?_
    refine k_if_neB d_K_delete_9 (fun h9 => ?_) (fun h9 => ?_)
    · refine k_aload_n d_K_delete_14 rfl ?_
      refine k_getr (t := 1) d_K_delete_15 f_K_11 (by decide) rfl (by decide) (by decide) rfl ?_
      refine k_iload_n d_K_delete_18 rfl ?_
      refine cA_ald d_K_delete_19 (cIsThread_in h9) (fun hi19 => ?_)
      refine k_iconst (v := (-1)) d_K_delete_20 (by decide) ?_
      refine cT_put d_K_delete_21 p_K_51 (by first | assumption | omega) (by decide) (by decide) rfl rfl ?_
      refine k_aload_n d_K_delete_24 rfl ?_
      refine k_getr (t := 1) d_K_delete_25 f_K_11 (by decide) rfl (by decide) (by decide) rfl ?_
      refine k_astore_n d_K_delete_28 (by decide) ?_
      refine k_aload_n d_K_delete_29 rfl ?_
      refine k_alen (v := 8) d_K_delete_30 (by decide) rfl (by decide) ?_
      refine k_istore_n d_K_delete_31 (by decide) ?_
      refine k_iconst (v := 0) d_K_delete_32 (by decide) ?_
      refine k_istore d_K_delete_33 (by decide) ?_
      exact (c_K_delete_loop 8 rfl 8 0 _ rfl rfl).to (by simp [cDelete, *]) (by simp [cDelete, *]; rfl)
    · refine k_iconst (v := 0) d_K_delete_12 (by decide) ?_
      exact k_zret d_K_delete_13 rfl (by first | rfl | exact nb_bI _) (by simp [cDelete, *]) (by simp [cDelete, *])

theorem c_K_tick_loop {l : Launch} {D : va_G} {cI cB cT : ClassId} {ad : Nat → Nat} {d : Nat} {u : kSt} (N : Nat) (hN : N = 8) : ∀ (n k : Nat) (a : Int32) (y : kSt), k + n = N → a = cTickN u k → y = cTickS u k → KAt (kWl lyC l D cI cB cT ad) m_K_tick (d + 1) 23 [some (.ref 0), some (.int a), some (.ref 1), some (.int 8), some (.int (nI k)), none] [] y (some (.int (cTickN u N))) (cTickS u N) := by
  intro n
  induction n with
  | zero =>
    intro k a y hk ha hy
    subst ha
    subst hy
    obtain rfl : k = N := by omega
    have h0 : ¬ ¬ (8 : Int32) ≤ nI k := by rw [hN]; decide
    refine k_iload d_K_tick_23 rfl ?_
    refine k_iload_n d_K_tick_25 rfl ?_
    refine k_icmp_ge d_K_tick_26 (fun h26 => ?_) (fun h26 => absurd h26 h0)
    refine k_iload_n d_K_tick_70 rfl ?_
    exact k_iret d_K_tick_71 rfl (by first | rfl | (simp [bI] <;> done) | (simp [bI, *] <;> done)) (by first | rfl | (simp [bI] <;> done) | (simp [bI, *] <;> done))
  | succ n ih =>
    intro k a y hk ha hy
    subst ha
    subst hy
    have hk2 : k < 8 := by omega
    have h0 : ¬ (8 : Int32) ≤ nI k := nI_ge (a := k) (b := 8) hk2 (by decide)
    refine k_iload d_K_tick_23 rfl ?_
    refine k_iload_n d_K_tick_25 rfl ?_
    refine k_icmp_ge d_K_tick_26 (fun h26 => absurd h26 h0) (fun h26 => ?_)
    refine k_aload_n d_K_tick_29 rfl ?_
    refine k_iload d_K_tick_30 rfl ?_
    refine cA_aldN d_K_tick_32 (by first | assumption | omega) ?_
    refine k_astore d_K_tick_33 (by decide) ?_
    refine k_aload d_K_tick_35 rfl ?_
    refine k_virt0s d_K_tick_37 l_K_152 g_H_waitsForThread (c_H_waitsForThread hk2) (rcvT (by first | assumption | omega)) (Nat.le_of_ble_eq_true rfl) ?_
    refine k_if_eqB d_K_tick_40 (fun h40 => ?_) (fun h40 => ?_)
    · refine k_incN d_K_tick_64 rfl (by decide) ?_
      refine k_goto d_K_tick_67 ?_
      refine k_forget 5 ?_
      exact ih (k + 1) _ _ (by omega) (by simp [cTickN, *]) (by simp [cTickS, *])
    · refine k_aload d_K_tick_43 rfl ?_
      refine cT_get d_K_tick_45 f_K_156 (by first | assumption | omega) (by decide) (by decide) ?_
      refine k_aload_n d_K_tick_48 rfl ?_
      refine k_getf d_K_tick_49 f_K_26 (by decide) rfl (by decide) (by decide) rfl ?_
      refine k_icmp_ne d_K_tick_52 (fun h52 => ?_) (fun h52 => ?_)
      · refine k_incN d_K_tick_64 rfl (by decide) ?_
        refine k_goto d_K_tick_67 ?_
        refine k_forget 5 ?_
        exact ih (k + 1) _ _ (by omega) (by simp [cTickN, *]) (by simp [cTickS, *])
      · refine k_aload d_K_tick_55 rfl ?_
        refine k_iconst (v := 1) d_K_tick_57 (by decide) ?_
        refine k_virt1v d_K_tick_58 l_K_158 g_H_run (c_H_run hk2) (rcvT (by first | assumption | omega)) (Nat.le_of_ble_eq_true rfl) ?_
        refine k_inc1 d_K_tick_61 rfl (by decide) ?_
        refine k_incN d_K_tick_64 rfl (by decide) ?_
        refine k_goto d_K_tick_67 ?_
        refine k_forget 5 ?_
        exact ih (k + 1) _ _ (by omega) (by simp [cTickN, *]) (by simp [cTickS, *])

set_option maxRecDepth 4000 in
theorem c_K_tick {l : Launch} {D : va_G} {cI cB cT : ClassId} {ad : Nat → Nat} {d : Nat} {u : kSt}  : KSp (kWl lyC l D cI cB cT ad) y_K_tick m_K_tick (d + 1) [.ref 0] u (some (.int (cTick u).1)) (cTick u).2 := by
  refine KSp.of (by decide) rfl (Nat.le_of_ble_eq_true rfl) rfl ?_
  show KAt (kWl lyC l D cI cB cT ad) m_K_tick (d + 1) 0 [some (.ref 0), none, none, none, none, none] [] u (some (.int (cTick u).1)) (cTick u).2
  refine k_aload_n d_K_tick_0 rfl ?_
  refine k_dup d_K_tick_1 rfl ?_
  refine k_getf d_K_tick_2 f_K_26 (by decide) rfl (by decide) (by decide) rfl ?_
  refine k_iconst (v := 1) d_K_tick_5 (by decide) ?_
  refine k_iadd d_K_tick_6 ?_
  refine k_putf d_K_tick_7 p_K_26 (by decide) rfl (by decide) (by decide) rfl rfl rfl ?_
  refine k_iconst (v := 0) d_K_tick_10 (by decide) ?_
  refine k_istore_n d_K_tick_11 (by decide) ?_
  refine k_aload_n d_K_tick_12 rfl ?_
  refine k_getr (t := 1) d_K_tick_13 f_K_11 (by decide) rfl (by decide) (by decide) rfl ?_
  refine k_astore_n d_K_tick_16 (by decide) ?_
  refine k_aload_n d_K_tick_17 rfl ?_
  refine k_alen (v := 8) d_K_tick_18 (by decide) rfl (by decide) ?_
  refine k_istore_n d_K_tick_19 (by decide) ?_
  refine k_iconst (v := 0) d_K_tick_20 (by decide) ?_
  refine k_istore d_K_tick_21 (by decide) ?_
  exact (c_K_tick_loop (u := kup u 0 3 (u 0 3 + 1)) 8 rfl 8 0 _ _ rfl rfl rfl).to (by simp only [cTick]) (by simp only [cTick])

theorem c_K_waiting_loop {l : Launch} {D : va_G} {cI cB cT : ClassId} {ad : Nat → Nat} {d : Nat} {u : kSt} {t : Int32} (N : Nat) (hN : N = 8) : ∀ (n k : Nat) (a : Int32), k + n = N → a = cWaitCount u t k → KAt (kWl lyC l D cI cB cT ad) m_K_waiting (d + 1) 24 [some (.ref 0), some (.int t), some (.int a), some (.ref 1), some (.int 8), some (.int (nI k)), none] [] u (some (.int (cWaitCount u t N))) u := by
  intro n
  induction n with
  | zero =>
    intro k a hk ha
    subst ha
    obtain rfl : k = N := by omega
    have h0 : ¬ ¬ (8 : Int32) ≤ nI k := by rw [hN]; decide
    refine k_iload d_K_waiting_24 rfl ?_
    refine k_iload d_K_waiting_26 rfl ?_
    refine k_icmp_ge d_K_waiting_28 (fun h28 => ?_) (fun h28 => absurd h28 h0)
    refine k_iload_n d_K_waiting_55 rfl ?_
    exact k_iret d_K_waiting_56 rfl (by first | rfl | (simp [bI] <;> done) | (simp [bI, *] <;> done)) (by first | rfl | (simp [bI] <;> done) | (simp [bI, *] <;> done))
  | succ n ih =>
    intro k a hk ha
    subst ha
    have hk2 : k < 8 := by omega
    have h0 : ¬ (8 : Int32) ≤ nI k := nI_ge (a := k) (b := 8) hk2 (by decide)
    refine k_iload d_K_waiting_24 rfl ?_
    refine k_iload d_K_waiting_26 rfl ?_
    refine k_icmp_ge d_K_waiting_28 (fun h28 => absurd h28 h0) (fun h28 => ?_)
    refine k_aload_n d_K_waiting_31 rfl ?_
    refine k_iload d_K_waiting_32 rfl ?_
    refine cA_aldN d_K_waiting_34 (by first | assumption | omega) ?_
    refine k_astore d_K_waiting_35 (by decide) ?_
    refine k_aload d_K_waiting_37 rfl ?_
    refine k_iload_n d_K_waiting_39 rfl ?_
    refine k_virt1s d_K_waiting_40 l_K_179 g_H_waitsToSendTo (c_H_waitsToSendTo hk2) (rcvT (by first | assumption | omega)) (Nat.le_of_ble_eq_true rfl) ?_
    refine k_if_eqB d_K_waiting_43 (fun h43 => ?_) (fun h43 => ?_)
    · refine k_incN d_K_waiting_49 rfl (by decide) ?_
      refine k_goto d_K_waiting_52 ?_
      refine k_forget 6 ?_
      exact ih (k + 1) _ (by omega) (by simp [cWaitCount, *])
    · refine k_inc1 d_K_waiting_46 rfl (by decide) ?_
      refine k_incN d_K_waiting_49 rfl (by decide) ?_
      refine k_goto d_K_waiting_52 ?_
      refine k_forget 6 ?_
      exact ih (k + 1) _ (by omega) (by simp [cWaitCount, *])

set_option maxRecDepth 4000 in
theorem c_K_waiting {l : Launch} {D : va_G} {cI cB cT : ClassId} {ad : Nat → Nat} {d : Nat} {u : kSt} {t : Int32} : KSp (kWl lyC l D cI cB cT ad) y_K_waiting m_K_waiting (d + 1) [.ref 0, .int t] u (some (.int (cWaiting u t))) u := by
  refine KSp.of (by decide) rfl (Nat.le_of_ble_eq_true rfl) rfl ?_
  show KAt (kWl lyC l D cI cB cT ad) m_K_waiting (d + 1) 0 [some (.ref 0), some (.int t), none, none, none, none, none] [] u (some (.int (cWaiting u t))) u
  refine k_aload_n d_K_waiting_0 rfl ?_
  refine k_iload_n d_K_waiting_1 rfl ?_
  refine k_virt1s d_K_waiting_2 l_K_44 g_K_isThread c_K_isThread rcvK (Nat.le_of_ble_eq_true rfl) ?_
  refine k_if_neB d_K_waiting_5 (fun h5 => ?_) (fun h5 => ?_)
  · refine k_iconst (v := 0) d_K_waiting_10 (by decide) ?_
    refine k_istore_n d_K_waiting_11 (by decide) ?_
    refine k_aload_n d_K_waiting_12 rfl ?_
    refine k_getr (t := 1) d_K_waiting_13 f_K_11 (by decide) rfl (by decide) (by decide) rfl ?_
    refine k_astore_n d_K_waiting_16 (by decide) ?_
    refine k_aload_n d_K_waiting_17 rfl ?_
    refine k_alen (v := 8) d_K_waiting_18 (by decide) rfl (by decide) ?_
    refine k_istore d_K_waiting_19 (by decide) ?_
    refine k_iconst (v := 0) d_K_waiting_21 (by decide) ?_
    refine k_istore d_K_waiting_22 (by decide) ?_
    exact (c_K_waiting_loop 8 rfl 8 0 _ rfl rfl).to (by simp [cWaiting, *]) rfl
  · refine k_iconst (v := (-1)) d_K_waiting_8 (by decide) ?_
    exact k_iret d_K_waiting_9 rfl (by simp [cWaiting, *]) rfl

end KCK
end
section
section KCL
set_option maxRecDepth 4000 in
theorem c_K_giveUp {l : Launch} {D : va_G} {cI cB cT : ClassId} {ad : Nat → Nat} {d : Nat} {u : kSt} {i : Nat} (hi : i < 8) : KSp (kWl lyC l D cI cB cT ad) y_K_giveUp m_K_giveUp (d + 1) [.ref (8 + i)] u (some (.int 2)) (cRun u i 1) := by
  refine KSp.of (by decide) rfl (Nat.le_of_ble_eq_true rfl) rfl ?_
  show KAt (kWl lyC l D cI cB cT ad) m_K_giveUp (d + 1) 0 [some (.ref (8 + i))] [] u (some (.int 2)) (cRun u i 1)
  refine k_aload_n d_K_giveUp_0 rfl ?_
  refine k_iconst (v := 1) d_K_giveUp_1 (by decide) ?_
  refine k_virt1v d_K_giveUp_2 l_K_158 g_H_run (c_H_run hi) (rcvT (by first | assumption | omega)) (Nat.le_of_ble_eq_true rfl) ?_
  refine k_iconst (v := 2) d_K_giveUp_5 (by decide) ?_
  exact k_iret d_K_giveUp_6 rfl (by first | rfl | (simp [bI] <;> done) | (simp [bI, *] <;> done)) (by first | rfl | (simp [bI] <;> done) | (simp [bI, *] <;> done))

set_option maxRecDepth 4000 in
theorem c_K_joinLine {l : Launch} {D : va_G} {cI cB cT : ClassId} {ad : Nat → Nat} {d : Nat} {u : kSt} {i : Nat} {a b c : Int32} (hi : i < 8) : KSp (kWl lyC l D cI cB cT ad) y_K_joinLine m_K_joinLine (d + 1) [.ref 0, .ref (8 + i), .int a, .int b, .int c] u none (cJoin u i a b c) := by
  refine KSp.of (by decide) rfl (Nat.le_of_ble_eq_true rfl) rfl ?_
  show KAt (kWl lyC l D cI cB cT ad) m_K_joinLine (d + 1) 0 [some (.ref 0), some (.ref (8 + i)), some (.int a), some (.int b), some (.int c)] [] u none (cJoin u i a b c)
  refine k_aload_n d_K_joinLine_0 rfl ?_
  refine k_aload_n d_K_joinLine_1 rfl ?_
  refine k_getf d_K_joinLine_2 f_K_30 (by decide) rfl (by decide) (by decide) rfl ?_
  refine cT_put d_K_joinLine_5 p_K_185 (by first | assumption | omega) (by decide) (by decide) rfl rfl ?_
  refine k_aload_n d_K_joinLine_8 rfl ?_
  refine k_dup d_K_joinLine_9 rfl ?_
  refine k_getf d_K_joinLine_10 f_K_30 (by decide) rfl (by decide) (by decide) rfl ?_
  refine k_iconst (v := 1) d_K_joinLine_13 (by decide) ?_
  refine k_iadd d_K_joinLine_14 ?_
  refine k_putf d_K_joinLine_15 p_K_30 (by decide) rfl (by decide) (by decide) rfl rfl rfl ?_
  refine k_aload_n d_K_joinLine_18 rfl ?_
  refine k_iload_n d_K_joinLine_19 rfl ?_
  refine k_iload_n d_K_joinLine_20 rfl ?_
  refine k_iload d_K_joinLine_21 rfl ?_
  refine k_virt3v d_K_joinLine_23 l_K_116 g_H_waitFor (c_H_waitFor hi) (rcvT (by first | assumption | omega)) (Nat.le_of_ble_eq_true rfl) ?_
  exact k_vret d_K_joinLine_26 rfl rfl (by rw [cJoin, kup_o (show (0 : Nat) ≠ 8 + i by omega)])

set_option maxRecDepth 4000 in
theorem c_K_waitToSend {l : Launch} {D : va_G} {cI cB cT : ClassId} {ad : Nat → Nat} {d : Nat} {u : kSt} {i : Nat} {a b c : Int32} (hi : i < 8) : KSp (kWl lyC l D cI cB cT ad) y_K_waitToSend m_K_waitToSend (d + 2) [.ref 0, .ref (8 + i), .int a, .int b, .int c] u (some (.int (cWaitSendN c))) (cWaitSend u i a b c) := by
  refine KSp.of (by decide) rfl (Nat.le_of_ble_eq_true rfl) rfl ?_
  show KAt (kWl lyC l D cI cB cT ad) m_K_waitToSend (d + 2) 0 [some (.ref 0), some (.ref (8 + i)), some (.int a), some (.int b), some (.int c)] [] u (some (.int (cWaitSendN c))) (cWaitSend u i a b c)
  refine k_iload d_K_waitToSend_0 rfl ?_
  refine k_if_ne d_K_waitToSend_2 (fun h2 => ?_) (fun h2 => ?_)
  · refine k_aload_n d_K_waitToSend_10 rfl ?_
    refine k_aload_n d_K_waitToSend_11 rfl ?_
    refine k_iload_n d_K_waitToSend_12 rfl ?_
    refine k_iload_n d_K_waitToSend_13 rfl ?_
    refine k_aload_n d_K_waitToSend_14 rfl ?_
    refine k_iload d_K_waitToSend_15 rfl ?_
    refine k_virt1s d_K_waitToSend_17 l_K_112 g_K_deadline c_K_deadline rcvK (Nat.le_of_ble_eq_true rfl) ?_
    refine k_virt4v d_K_waitToSend_20 l_K_188 g_K_joinLine (c_K_joinLine hi) rcvK (Nat.le_of_ble_eq_true rfl) ?_
    refine k_iconst (v := 1) d_K_waitToSend_23 (by decide) ?_
    exact k_iret d_K_waitToSend_24 rfl (by simp [cWaitSendN, *]) (by simp [cWaitSend, *])
  · refine k_aload_n d_K_waitToSend_5 rfl ?_
    refine k_stat1s d_K_waitToSend_6 l_K_108 g_K_giveUp (c_K_giveUp hi) (Nat.le_of_ble_eq_true rfl) ?_
    exact k_iret d_K_waitToSend_9 rfl (by simp [cWaitSendN, *]) (by simp [cWaitSend, *])

set_option maxRecDepth 4000 in
theorem c_K_passFault {l : Launch} {D : va_G} {cI cB cT : ClassId} {ad : Nat → Nat} {d : Nat} {u : kSt} {f g : Nat} (hf : f < 8) (hg : g < 8) (hI : cInv u) : KSp (kWl lyC l D cI cB cT ad) y_K_passFault m_K_passFault (d + 1) [.ref 0, .ref (8 + f), .ref (8 + g)] u none (cPassFault u f g) := by
  refine KSp.of (by decide) rfl (Nat.le_of_ble_eq_true rfl) rfl ?_
  show KAt (kWl lyC l D cI cB cT ad) m_K_passFault (d + 1) 0 [some (.ref 0), some (.ref (8 + f)), some (.ref (8 + g))] [] u none (cPassFault u f g)
  refine k_aload_n d_K_passFault_0 rfl ?_
  refine k_aload_n d_K_passFault_1 rfl ?_
  refine cT_num d_K_passFault_2 f_K_182 (by first | assumption | omega) (hI.num hf) ?_
  refine k_aload_n d_K_passFault_5 rfl ?_
  refine cT_get d_K_passFault_6 f_K_123 (by first | assumption | omega) (by decide) (by decide) ?_
  refine k_aload_n d_K_passFault_9 rfl ?_
  refine cT_get d_K_passFault_10 f_K_126 (by first | assumption | omega) (by decide) (by decide) ?_
  refine k_iconst (v := 0) d_K_passFault_13 (by decide) ?_
  refine k_iconst (v := 0) d_K_passFault_14 (by decide) ?_
  refine k_virt5v d_K_passFault_15 l_K_195 g_H_take (c_H_take hg) (rcvT (by first | assumption | omega)) (Nat.le_of_ble_eq_true rfl) ?_
  refine k_aload_n d_K_passFault_18 rfl ?_
  refine k_iconst (v := 5) d_K_passFault_19 (by decide) ?_
  refine k_aload_n d_K_passFault_20 rfl ?_
  refine cT_num d_K_passFault_21 f_K_182 (by first | assumption | omega) (hI.take.num hg) ?_
  refine k_iconst (v := (-1)) d_K_passFault_24 (by decide) ?_
  refine k_virt3v d_K_passFault_25 l_K_116 g_H_waitFor (c_H_waitFor hf) (rcvT (by first | assumption | omega)) (Nat.le_of_ble_eq_true rfl) ?_
  refine k_aload_n d_K_passFault_28 rfl ?_
  refine k_iconst (v := 0) d_K_passFault_29 (by decide) ?_
  refine k_virt1v d_K_passFault_30 l_K_158 g_H_run (c_H_run hg) (rcvT (by first | assumption | omega)) (Nat.le_of_ble_eq_true rfl) ?_
  exact k_vret d_K_passFault_33 rfl rfl (by first | rfl | (simp [cPassFault] <;> done) | (simp [cPassFault, *] <;> done))

set_option maxRecDepth 4000 in
theorem c_K_fault {l : Launch} {D : va_G} {cI cB cT : ClassId} {ad : Nat → Nat} {d : Nat} {u : kSt} {f g : Nat} (hf : f < 8) (hg : g < 8) (hI : cInv u) : KSp (kWl lyC l D cI cB cT ad) y_K_fault m_K_fault (d + 2) [.ref 0, .ref (8 + f), .ref (8 + g)] u none (cFault u f g) := by
  refine KSp.of (by decide) rfl (Nat.le_of_ble_eq_true rfl) rfl ?_
  show KAt (kWl lyC l D cI cB cT ad) m_K_fault (d + 2) 0 [some (.ref 0), some (.ref (8 + f)), some (.ref (8 + g))] [] u none (cFault u f g)
  refine k_aload_n d_K_fault_0 rfl ?_
  refine k_aload_n d_K_fault_1 rfl ?_
  refine k_iconst (v := 4) d_K_fault_2 (by decide) ?_
  refine k_aload_n d_K_fault_3 rfl ?_
  refine cT_num d_K_fault_4 f_K_182 (by first | assumption | omega) (hI.num hg) ?_
  refine k_iconst (v := (-1)) d_K_fault_7 (by decide) ?_
  refine k_virt4v d_K_fault_8 l_K_188 g_K_joinLine (c_K_joinLine hf) rcvK (Nat.le_of_ble_eq_true rfl) ?_
  refine k_aload_n d_K_fault_11 rfl ?_
  refine k_aload_n d_K_fault_12 rfl ?_
  refine cT_num d_K_fault_13 f_K_182 (by first | assumption | omega) (hI.join.num hf) ?_
  refine k_virt1s d_K_fault_16 l_K_222 g_H_receivesFrom (c_H_receivesFrom hg) (rcvT (by first | assumption | omega)) (Nat.le_of_ble_eq_true rfl) ?_
  refine k_if_eqB d_K_fault_19 (fun h19 => ?_) (fun h19 => ?_)
  · exact k_vret d_K_fault_28 rfl rfl (by first | rfl | (simp [cFault] <;> done) | (simp [cFault, *] <;> done))
  · refine k_aload_n d_K_fault_22 rfl ?_
    refine k_aload_n d_K_fault_23 rfl ?_
    refine k_aload_n d_K_fault_24 rfl ?_
    refine k_virt2v d_K_fault_25 l_K_192 g_K_passFault (c_K_passFault hf hg hI.join) rcvK (Nat.le_of_ble_eq_true rfl) ?_
    exact k_vret d_K_fault_28 rfl rfl (by first | rfl | (simp [cFault] <;> done) | (simp [cFault, *] <;> done))

set_option maxRecDepth 4000 in
theorem c_K_doAccess {l : Launch} {D : va_G} {cI cB cT : ClassId} {ad : Nat → Nat} {d : Nat} {u : kSt} {i e : Nat} (hi : i < 8) (he : e < 16) : KSp (kWl lyC l D cI cB cT ad) y_K_doAccess m_K_doAccess (d + 1) [.ref 0, .ref (8 + i), .int (nI e)] u none (cDoAccess u i e) := by
  refine KSp.of (by decide) rfl (Nat.le_of_ble_eq_true rfl) rfl ?_
  show KAt (kWl lyC l D cI cB cT ad) m_K_doAccess (d + 1) 0 [some (.ref 0), some (.ref (8 + i)), some (.int (nI e))] [] u none (cDoAccess u i e)
  refine k_aload_n d_K_doAccess_0 rfl ?_
  refine cT_get d_K_doAccess_1 f_K_126 (by first | assumption | omega) (by decide) (by decide) ?_
  refine k_iconst (v := 2) d_K_doAccess_4 (by decide) ?_
  refine k_icmp_ne d_K_doAccess_5 (fun h5 => ?_) (fun h5 => ?_)
  · refine k_aload_n d_K_doAccess_21 rfl ?_
    refine k_aload_n d_K_doAccess_22 rfl ?_
    refine k_getr (t := 3) d_K_doAccess_23 f_K_22 (by decide) rfl (by decide) (by decide) rfl ?_
    refine k_iload_n d_K_doAccess_26 rfl ?_
    refine k_ialdN (n := 16) d_K_doAccess_27 (by decide) rfl rfl (by first | assumption | omega) (by decide) ?_
    refine cT_put d_K_doAccess_28 p_K_167 (by first | assumption | omega) (by decide) (by decide) rfl rfl ?_
    refine k_aload_n d_K_doAccess_31 rfl ?_
    refine k_iconst (v := 0) d_K_doAccess_32 (by decide) ?_
    refine k_virt1v d_K_doAccess_33 l_K_158 g_H_run (c_H_run hi) (rcvT (by first | assumption | omega)) (Nat.le_of_ble_eq_true rfl) ?_
    exact k_vret d_K_doAccess_36 rfl rfl (by first | rfl | (simp [cDoAccess] <;> done) | (simp [cDoAccess, *] <;> done))
  · refine k_aload_n d_K_doAccess_8 rfl ?_
    refine k_getr (t := 3) d_K_doAccess_9 f_K_22 (by decide) rfl (by decide) (by decide) rfl ?_
    refine k_iload_n d_K_doAccess_12 rfl ?_
    refine k_aload_n d_K_doAccess_13 rfl ?_
    refine cT_get d_K_doAccess_14 f_K_129 (by first | assumption | omega) (by decide) (by decide) ?_
    refine k_iastN (n := 16) d_K_doAccess_17 (by decide) rfl rfl (by first | assumption | omega) (by decide) ?_
    refine k_goto d_K_doAccess_18 ?_
    refine k_aload_n d_K_doAccess_31 rfl ?_
    refine k_iconst (v := 0) d_K_doAccess_32 (by decide) ?_
    refine k_virt1v d_K_doAccess_33 l_K_158 g_H_run (c_H_run hi) (rcvT (by first | assumption | omega)) (Nat.le_of_ble_eq_true rfl) ?_
    exact k_vret d_K_doAccess_36 rfl rfl (by first | rfl | (simp [cDoAccess] <;> done) | (simp [cDoAccess, *] <;> done))

set_option maxRecDepth 4000 in
theorem c_K_tryAccess {l : Launch} {D : va_G} {cI cB cT : ClassId} {ad : Nat → Nat} {d : Nat} {u : kSt} {i : Nat} (hi : i < 8) (hI : cInv u) : KSp (kWl lyC l D cI cB cT ad) y_K_tryAccess m_K_tryAccess (d + 3) [.ref 0, .ref (8 + i)] u none (cTry u i) := by
  refine KSp.of (by decide) rfl (Nat.le_of_ble_eq_true rfl) rfl ?_
  show KAt (kWl lyC l D cI cB cT ad) m_K_tryAccess (d + 3) 0 [some (.ref 0), some (.ref (8 + i)), none] [] u none (cTry u i)
  refine k_aload_n d_K_tryAccess_0 rfl ?_
  refine cT_get d_K_tryAccess_1 f_K_136 (by first | assumption | omega) (by decide) (by decide) ?_
  refine k_aload_n d_K_tryAccess_4 rfl ?_
  refine cT_get d_K_tryAccess_5 f_K_123 (by first | assumption | omega) (by decide) (by decide) ?_
  refine k_stat2s d_K_tryAccess_8 l_K_139 g_K_slotOf c_K_slotOf (Nat.le_of_ble_eq_true rfl) ?_
  have hs := (sl_eq (hI.space hi) (hI.wanted hi)).2
  rw [(sl_eq (hI.space hi) (hI.wanted hi)).1]
  refine k_istore_n d_K_tryAccess_11 (by decide) ?_
  refine k_aload_n d_K_tryAccess_12 rfl ?_
  refine k_getr (t := 2) d_K_tryAccess_13 f_K_18 (by decide) rfl (by decide) (by decide) rfl ?_
  refine k_getr (t := 4) d_K_tryAccess_16 f_K_206 (by decide) rfl (by decide) (by decide) rfl ?_
  refine k_iload_n d_K_tryAccess_19 rfl ?_
  refine k_ialdN (n := 96) d_K_tryAccess_20 (by decide) rfl rfl (by first | assumption | omega) (by decide) ?_
  refine k_aload_n d_K_tryAccess_21 rfl ?_
  refine cT_get d_K_tryAccess_22 f_K_126 (by first | assumption | omega) (by decide) (by decide) ?_
  refine k_icmp_lt d_K_tryAccess_25 (fun h25 => ?_) (fun h25 => ?_)
  · refine k_aload_n d_K_tryAccess_45 rfl ?_
    refine cT_get d_K_tryAccess_46 f_K_216 (by first | assumption | omega) (by decide) (by decide) ?_
    refine k_iconst (v := (-1)) d_K_tryAccess_49 (by decide) ?_
    refine k_icmp_ne d_K_tryAccess_50 (fun h50 => ?_) (fun h50 => ?_)
    · refine k_aload_n d_K_tryAccess_62 rfl ?_
      refine k_aload_n d_K_tryAccess_63 rfl ?_
      refine k_aload_n d_K_tryAccess_64 rfl ?_
      refine k_getr (t := 1) d_K_tryAccess_65 f_K_11 (by decide) rfl (by decide) (by decide) rfl ?_
      refine k_aload_n d_K_tryAccess_68 rfl ?_
      refine cT_get d_K_tryAccess_69 f_K_216 (by first | assumption | omega) (by decide) (by decide) ?_
      refine cA_ald d_K_tryAccess_72 (or_in (hI.pager hi) h50) (fun hi72 => ?_)
      refine k_virt2v d_K_tryAccess_73 l_K_219 g_K_fault (c_K_fault hi hi72 hI) rcvK (Nat.le_of_ble_eq_true rfl) ?_
      exact k_vret d_K_tryAccess_76 rfl rfl (by first | rfl | (simp [cTry] <;> done) | (simp [cTry, *] <;> done))
    · refine k_aload_n d_K_tryAccess_53 rfl ?_
      refine k_bipush (v := 6) d_K_tryAccess_54 (by decide) ?_
      refine cT_put d_K_tryAccess_56 p_K_51 (by first | assumption | omega) (by decide) (by decide) rfl rfl ?_
      refine k_goto d_K_tryAccess_59 ?_
      exact k_vret d_K_tryAccess_76 rfl rfl (by first | rfl | (simp [cTry] <;> done) | (simp [cTry, *] <;> done))
  · refine k_aload_n d_K_tryAccess_28 rfl ?_
    refine k_aload_n d_K_tryAccess_29 rfl ?_
    refine k_aload_n d_K_tryAccess_30 rfl ?_
    refine k_getr (t := 2) d_K_tryAccess_31 f_K_18 (by decide) rfl (by decide) (by decide) rfl ?_
    refine k_getr (t := 5) d_K_tryAccess_34 f_K_209 (by decide) rfl (by decide) (by decide) rfl ?_
    refine k_iload_n d_K_tryAccess_37 rfl ?_
    refine k_ialdN (n := 96) d_K_tryAccess_38 (by decide) rfl rfl (by first | assumption | omega) (by decide) ?_
    have he := hI.frame hs
    rw [vin_eq he]
    refine k_virt2v d_K_tryAccess_39 l_K_212 g_K_doAccess (c_K_doAccess hi (vin_lt he)) rcvK (Nat.le_of_ble_eq_true rfl) ?_
    refine k_goto d_K_tryAccess_42 ?_
    exact k_vret d_K_tryAccess_76 rfl rfl (by first | rfl | (simp [cTry] <;> done) | (simp [cTry, *] <;> done))

theorem c_K_passOffer_2 {l : Launch} {D : va_G} {cI cB cT : ClassId} {ad : Nat → Nat} {d : Nat} {u : kSt} {f g : Nat} (hf : f < 8) (hg : g < 8) {pg : Int32} (hI : cInv u) (hp : pg = -1 ∨ vp_in pg 16) : KAt (kWl lyC l D cI cB cT ad) m_K_passOffer (d + 3) 20 [some (.ref 0), some (.ref (8 + f)), some (.ref (8 + g)), some (.int pg), none] [] u none (kup (if u (8 + f) 5 = -1 then u else if pg = -1 then u else cHandOn u (sl (u (8 + f) 3) (u (8 + f) 5)) (sl (u (8 + g) 3) pg) (u (8 + f) 6) (u (8 + f) 7)) (8 + f) 5 (-1)) := by
  refine k_aload_n d_K_passOffer_20 rfl ?_
  refine cT_get d_K_passOffer_21 f_K_69 (by first | assumption | omega) (by decide) (by decide) ?_
  refine k_iconst (v := (-1)) d_K_passOffer_24 (by decide) ?_
  refine k_icmp_eq d_K_passOffer_25 (fun h25 => ?_) (fun h25 => ?_)
  · refine k_aload_n d_K_passOffer_71 rfl ?_
    refine k_iconst (v := (-1)) d_K_passOffer_72 (by decide) ?_
    refine cT_put d_K_passOffer_73 p_K_69 (by first | assumption | omega) (by decide) (by decide) rfl rfl ?_
    exact k_vret d_K_passOffer_76 rfl rfl (by simp [*])
  · refine k_iload_n d_K_passOffer_28 rfl ?_
    refine k_iconst (v := (-1)) d_K_passOffer_29 (by decide) ?_
    refine k_icmp_eq d_K_passOffer_30 (fun h30 => ?_) (fun h30 => ?_)
    · refine k_aload_n d_K_passOffer_71 rfl ?_
      refine k_iconst (v := (-1)) d_K_passOffer_72 (by decide) ?_
      refine cT_put d_K_passOffer_73 p_K_69 (by first | assumption | omega) (by decide) (by decide) rfl rfl ?_
      exact k_vret d_K_passOffer_76 rfl rfl (by simp [*])
    · refine k_aload_n d_K_passOffer_33 rfl ?_
      refine cT_get d_K_passOffer_34 f_K_136 (by first | assumption | omega) (by decide) (by decide) ?_
      refine k_aload_n d_K_passOffer_37 rfl ?_
      refine cT_get d_K_passOffer_38 f_K_69 (by first | assumption | omega) (by decide) (by decide) ?_
      refine k_stat2s d_K_passOffer_41 l_K_139 g_K_slotOf c_K_slotOf (Nat.le_of_ble_eq_true rfl) ?_
      have hs := sl_eq (hI.space hf) (or_in (hI.offer hf) h25)
      rw [hs.1]
      refine k_istore d_K_passOffer_44 (by decide) ?_
      refine k_aload_n d_K_passOffer_46 rfl ?_
      refine k_getr (t := 2) d_K_passOffer_47 f_K_18 (by decide) rfl (by decide) (by decide) rfl ?_
      refine k_iload d_K_passOffer_50 rfl ?_
      refine k_aload_n d_K_passOffer_52 rfl ?_
      refine cT_get d_K_passOffer_53 f_K_136 (by first | assumption | omega) (by decide) (by decide) ?_
      refine k_iload_n d_K_passOffer_56 rfl ?_
      refine k_stat2s d_K_passOffer_57 l_K_139 g_K_slotOf c_K_slotOf (Nat.le_of_ble_eq_true rfl) ?_
      have ht := sl_eq (hI.space hg) (or_in hp h30)
      rw [ht.1]
      refine k_aload_n d_K_passOffer_60 rfl ?_
      refine cT_get d_K_passOffer_61 f_K_72 (by first | assumption | omega) (by decide) (by decide) ?_
      refine k_aload_n d_K_passOffer_64 rfl ?_
      refine cT_get d_K_passOffer_65 f_K_75 (by first | assumption | omega) (by decide) (by decide) ?_
      refine k_virt4v d_K_passOffer_68 l_K_202 g_P_handOn (c_P_handOn hs.2 ht.2 hI.par hI.dep) rcvP (Nat.le_of_ble_eq_true rfl) ?_
      refine k_aload_n d_K_passOffer_71 rfl ?_
      refine k_iconst (v := (-1)) d_K_passOffer_72 (by decide) ?_
      refine cT_put d_K_passOffer_73 p_K_69 (by first | assumption | omega) (by decide) (by decide) rfl rfl ?_
      exact k_vret d_K_passOffer_76 rfl rfl (by simp [*])

set_option maxRecDepth 4000 in
theorem c_K_passOffer {l : Launch} {D : va_G} {cI cB cT : ClassId} {ad : Nat → Nat} {d : Nat} {u : kSt} {f g : Nat} (hf : f < 8) (hg : g < 8) (hI : cInv u) : KSp (kWl lyC l D cI cB cT ad) y_K_passOffer m_K_passOffer (d + 3) [.ref 0, .ref (8 + f), .ref (8 + g)] u none (cOffer u f g) := by
  refine KSp.of (by decide) rfl (Nat.le_of_ble_eq_true rfl) rfl ?_
  show KAt (kWl lyC l D cI cB cT ad) m_K_passOffer (d + 3) 0 [some (.ref 0), some (.ref (8 + f)), some (.ref (8 + g)), none, none] [] u none (cOffer u f g)
  refine k_aload_n d_K_passOffer_0 rfl ?_
  refine cT_get d_K_passOffer_1 f_K_51 (by first | assumption | omega) (by decide) (by decide) ?_
  refine k_iconst (v := 5) d_K_passOffer_4 (by decide) ?_
  refine k_icmp_ne d_K_passOffer_5 (fun h5 => ?_) (fun h5 => ?_)
  · refine k_aload_n d_K_passOffer_15 rfl ?_
    refine cT_get d_K_passOffer_16 f_K_79 (by first | assumption | omega) (by decide) (by decide) ?_
    refine k_istore_n d_K_passOffer_19 (by decide) ?_
    first
      | exact (c_K_passOffer_2 hf hg hI (Or.inr (hI.wanted hg))).to rfl (by simp [cOffer, cOffer1, cPage, *])
      | exact (c_K_passOffer_2 hf hg hI (hI.window hg)).to rfl (by simp [cOffer, cOffer1, cPage, *])
  · refine k_aload_n d_K_passOffer_8 rfl ?_
    refine cT_get d_K_passOffer_9 f_K_123 (by first | assumption | omega) (by decide) (by decide) ?_
    refine k_goto d_K_passOffer_12 ?_
    refine k_istore_n d_K_passOffer_19 (by decide) ?_
    first
      | exact (c_K_passOffer_2 hf hg hI (Or.inr (hI.wanted hg))).to rfl (by simp [cOffer, cOffer1, cPage, *])
      | exact (c_K_passOffer_2 hf hg hI (hI.window hg)).to rfl (by simp [cOffer, cOffer1, cPage, *])

theorem c_K_passMessage_3 {l : Launch} {D : va_G} {cI cB cT : ClassId} {ad : Nat → Nat} {d : Nat} {u : kSt} {f g : Nat} (hf : f < 8) (hg : g < 8) {a : Int32} {b : Bool} (hI : cInv u) : KAt (kWl lyC l D cI cB cT ad) m_K_passMessage (d + 4) 78 [some (.ref 0), some (.ref (8 + f)), some (.ref (8 + g)), some (.int a), some (.int (bI b)), none] [] u none (cPass3 u g b) := by
  refine k_iload d_K_passMessage_78 rfl ?_
  refine k_if_eqB d_K_passMessage_80 (fun h80 => ?_) (fun h80 => ?_)
  · refine k_aload_n d_K_passMessage_91 rfl ?_
    refine k_iconst (v := 0) d_K_passMessage_92 (by decide) ?_
    refine k_virt1v d_K_passMessage_93 l_K_158 g_H_run (c_H_run hg) (rcvT (by first | assumption | omega)) (Nat.le_of_ble_eq_true rfl) ?_
    exact k_vret d_K_passMessage_96 rfl rfl (by first | rfl | (simp [cPass3] <;> done) | (simp [cPass3, *] <;> done))
  · refine k_aload_n d_K_passMessage_83 rfl ?_
    refine k_aload_n d_K_passMessage_84 rfl ?_
    refine k_virt1v d_K_passMessage_85 l_K_132 g_K_tryAccess (c_K_tryAccess hg hI) rcvK (Nat.le_of_ble_eq_true rfl) ?_
    refine k_goto d_K_passMessage_88 ?_
    exact k_vret d_K_passMessage_96 rfl rfl (by first | rfl | (simp [cPass3] <;> done) | (simp [cPass3, *] <;> done))
theorem c_K_passMessage_2 {l : Launch} {D : va_G} {cI cB cT : ClassId} {ad : Nat → Nat} {d : Nat} {u : kSt} {f g : Nat} (hf : f < 8) (hg : g < 8) {a : Int32} {b : Bool} (hI : cInv u) : KAt (kWl lyC l D cI cB cT ad) m_K_passMessage (d + 4) 50 [some (.ref 0), some (.ref (8 + f)), some (.ref (8 + g)), some (.int a), some (.int (bI b)), none] [] u none (cPass3 (cPass2 (cOffer u f g) f g a) g b) := by
  refine k_aload_n d_K_passMessage_50 rfl ?_
  refine k_aload_n d_K_passMessage_51 rfl ?_
  refine k_aload_n d_K_passMessage_52 rfl ?_
  refine k_virt2v d_K_passMessage_53 l_K_199 g_K_passOffer (c_K_passOffer hf hg hI) rcvK (Nat.le_of_ble_eq_true rfl) ?_
  refine k_iload_n d_K_passMessage_56 rfl ?_
  refine k_if_eq d_K_passMessage_57 (fun h57 => ?_) (fun h57 => ?_)
  · refine k_aload_n d_K_passMessage_73 rfl ?_
    refine k_iconst (v := 0) d_K_passMessage_74 (by decide) ?_
    refine k_virt1v d_K_passMessage_75 l_K_158 g_H_run (c_H_run hf) (rcvT (by first | assumption | omega)) (Nat.le_of_ble_eq_true rfl) ?_
    first
      | exact (c_K_passMessage_3 hf hg (hI.offerS hf hg).wait).to rfl (by simp [cPass2, *])
      | exact (c_K_passMessage_3 hf hg (hI.offerS hf hg).run).to rfl (by simp [cPass2, *])
  · refine k_aload_n d_K_passMessage_60 rfl ?_
    refine k_iconst (v := 2) d_K_passMessage_61 (by decide) ?_
    refine k_aload_n d_K_passMessage_62 rfl ?_
    refine cT_num d_K_passMessage_63 f_K_182 (by first | assumption | omega) ((hI.offerS hf hg).num hg) ?_
    refine k_iconst (v := (-1)) d_K_passMessage_66 (by decide) ?_
    refine k_virt3v d_K_passMessage_67 l_K_116 g_H_waitFor (c_H_waitFor hf) (rcvT (by first | assumption | omega)) (Nat.le_of_ble_eq_true rfl) ?_
    refine k_goto d_K_passMessage_70 ?_
    first
      | exact (c_K_passMessage_3 hf hg (hI.offerS hf hg).wait).to rfl (by simp [cPass2, *])
      | exact (c_K_passMessage_3 hf hg (hI.offerS hf hg).run).to rfl (by simp [cPass2, *])

set_option maxRecDepth 4000 in
theorem c_K_passMessage {l : Launch} {D : va_G} {cI cB cT : ClassId} {ad : Nat → Nat} {d : Nat} {u : kSt} {f g : Nat} (hf : f < 8) (hg : g < 8) {a : Int32} (hI : cInv u) : KSp (kWl lyC l D cI cB cT ad) y_K_passMessage m_K_passMessage (d + 4) [.ref 0, .ref (8 + f), .ref (8 + g), .int a] u none (cPass u f g a) := by
  refine KSp.of (by decide) rfl (Nat.le_of_ble_eq_true rfl) rfl ?_
  show KAt (kWl lyC l D cI cB cT ad) m_K_passMessage (d + 4) 0 [some (.ref 0), some (.ref (8 + f)), some (.ref (8 + g)), some (.int a), none, none] [] u none (cPass u f g a)
  refine k_aload_n d_K_passMessage_0 rfl ?_
  refine cT_get d_K_passMessage_1 f_K_51 (by first | assumption | omega) (by decide) (by decide) ?_
  refine k_iconst (v := 5) d_K_passMessage_4 (by decide) ?_
  refine k_icmp_ne d_K_passMessage_5 (fun h5 => ?_) (fun h5 => ?_)
  · refine k_iconst (v := 0) d_K_passMessage_12 (by decide) ?_
    refine k_istore d_K_passMessage_13 (by decide) ?_
    refine k_iload d_K_passMessage_15 rfl ?_
    refine k_if_ne d_K_passMessage_17 (fun h => absurd h (by decide)) (fun _ => ?_)
    refine k_aload_n d_K_passMessage_20 rfl ?_
    refine cT_reg d_K_passMessage_21 f_K_60 (by first | assumption | omega) ?_
    refine k_astore d_K_passMessage_24 (by decide) ?_
    refine k_aload_n d_K_passMessage_26 rfl ?_
    refine k_aload_n d_K_passMessage_27 rfl ?_
    refine cT_num d_K_passMessage_28 f_K_182 (by first | assumption | omega) (hI.num hf) ?_
    refine k_aload d_K_passMessage_31 rfl ?_
    refine k_iconst (v := 0) d_K_passMessage_33 (by decide) ?_
    refine cR_ald d_K_passMessage_34 (by first | assumption | omega) (by first | assumption | (unfold vp_in; decide) | exact vin (by assumption) (by assumption) | exact vin_n (by assumption) | exact vin_n (by omega)) ?_
    refine k_aload d_K_passMessage_35 rfl ?_
    refine k_iconst (v := 1) d_K_passMessage_37 (by decide) ?_
    refine cR_ald d_K_passMessage_38 (by first | assumption | omega) (by first | assumption | (unfold vp_in; decide) | exact vin (by assumption) (by assumption) | exact vin_n (by assumption) | exact vin_n (by omega)) ?_
    refine k_aload d_K_passMessage_39 rfl ?_
    refine k_iconst (v := 2) d_K_passMessage_41 (by decide) ?_
    refine cR_ald d_K_passMessage_42 (by first | assumption | omega) (by first | assumption | (unfold vp_in; decide) | exact vin (by assumption) (by assumption) | exact vin_n (by assumption) | exact vin_n (by omega)) ?_
    refine k_aload d_K_passMessage_43 rfl ?_
    refine k_iconst (v := 3) d_K_passMessage_45 (by decide) ?_
    refine cR_ald d_K_passMessage_46 (by first | assumption | omega) (by first | assumption | (unfold vp_in; decide) | exact vin (by assumption) (by assumption) | exact vin_n (by assumption) | exact vin_n (by omega)) ?_
    refine k_virt5v d_K_passMessage_47 l_K_195 g_H_take (c_H_take hg) (rcvT (by first | assumption | omega)) (Nat.le_of_ble_eq_true rfl) ?_
    first
      | exact (c_K_passMessage_2 (b := true) hf hg hI).to rfl (by simp [cPass, cPass1, *])
      | (refine k_forget 5 ?_; exact (c_K_passMessage_2 (b := false) hf hg hI.take).to rfl (by simp [cPass, cPass1, ix0, ix1, ix2, ix3, *]))
  · refine k_iconst (v := 1) d_K_passMessage_8 (by decide) ?_
    refine k_goto d_K_passMessage_9 ?_
    refine k_istore d_K_passMessage_13 (by decide) ?_
    refine k_iload d_K_passMessage_15 rfl ?_
    refine k_if_ne d_K_passMessage_17 (fun _ => ?_) (fun h => absurd h (by decide))
    first
      | exact (c_K_passMessage_2 (b := true) hf hg hI).to rfl (by simp [cPass, cPass1, *])
      | (refine k_forget 5 ?_; exact (c_K_passMessage_2 (b := false) hf hg hI.take).to rfl (by simp [cPass, cPass1, ix0, ix1, ix2, ix3, *]))

set_option maxRecDepth 4000 in
theorem c_K_takeWaitingMessage {l : Launch} {D : va_G} {cI cB cT : ClassId} {ad : Nat → Nat} {d : Nat} {u : kSt} {f g : Nat} (hf : f < 8) (hg : g < 8) (hI : cInv u) : KSp (kWl lyC l D cI cB cT ad) y_K_takeWaitingMessage m_K_takeWaitingMessage (d + 5) [.ref 0, .ref (8 + f), .ref (8 + g)] u none (cTakeW u f g) := by
  refine KSp.of (by decide) rfl (Nat.le_of_ble_eq_true rfl) rfl ?_
  show KAt (kWl lyC l D cI cB cT ad) m_K_takeWaitingMessage (d + 5) 0 [some (.ref 0), some (.ref (8 + f)), some (.ref (8 + g))] [] u none (cTakeW u f g)
  refine k_aload_n d_K_takeWaitingMessage_0 rfl ?_
  refine cT_get d_K_takeWaitingMessage_1 f_K_51 (by first | assumption | omega) (by decide) (by decide) ?_
  refine k_iconst (v := 4) d_K_takeWaitingMessage_4 (by decide) ?_
  refine k_icmp_ne d_K_takeWaitingMessage_5 (fun h5 => ?_) (fun h5 => ?_)
  · refine k_aload_n d_K_takeWaitingMessage_17 rfl ?_
    refine k_aload_n d_K_takeWaitingMessage_18 rfl ?_
    refine k_aload_n d_K_takeWaitingMessage_19 rfl ?_
    refine k_aload_n d_K_takeWaitingMessage_20 rfl ?_
    refine cT_get d_K_takeWaitingMessage_21 f_K_51 (by first | assumption | omega) (by decide) (by decide) ?_
    refine k_iconst (v := 3) d_K_takeWaitingMessage_24 (by decide) ?_
    refine k_icmp_ne d_K_takeWaitingMessage_25 (fun h25 => ?_) (fun h25 => ?_)
    · refine k_iconst (v := 0) d_K_takeWaitingMessage_32 (by decide) ?_
      refine k_virt3v d_K_takeWaitingMessage_33 l_K_89 g_K_passMessage (c_K_passMessage hf hg hI) rcvK (Nat.le_of_ble_eq_true rfl) ?_
      exact k_vret d_K_takeWaitingMessage_36 rfl rfl (by first | rfl | (simp [cTakeW] <;> done) | (simp [cTakeW, *] <;> done))
    · refine k_iconst (v := 1) d_K_takeWaitingMessage_28 (by decide) ?_
      refine k_goto d_K_takeWaitingMessage_29 ?_
      refine k_virt3v d_K_takeWaitingMessage_33 l_K_89 g_K_passMessage (c_K_passMessage hf hg hI) rcvK (Nat.le_of_ble_eq_true rfl) ?_
      exact k_vret d_K_takeWaitingMessage_36 rfl rfl (by first | rfl | (simp [cTakeW] <;> done) | (simp [cTakeW, *] <;> done))
  · refine k_aload_n d_K_takeWaitingMessage_8 rfl ?_
    refine k_aload_n d_K_takeWaitingMessage_9 rfl ?_
    refine k_aload_n d_K_takeWaitingMessage_10 rfl ?_
    refine k_virt2v d_K_takeWaitingMessage_11 l_K_192 g_K_passFault (c_K_passFault hf hg hI) rcvK (Nat.le_of_ble_eq_true rfl) ?_
    refine k_goto d_K_takeWaitingMessage_14 ?_
    exact k_vret d_K_takeWaitingMessage_36 rfl rfl (by first | rfl | (simp [cTakeW] <;> done) | (simp [cTakeW, *] <;> done))

def rv : Option Nat → Value
  | none => .null
  | some j => .ref (8 + j)
theorem c_K_longestWaiting_loop {l : Launch} {D : va_G} {cI cB cT : ClassId} {ad : Nat → Nat} {d : Nat} {u : kSt} {t e : Int32} (hI : cInv u) : ∀ (m k : Nat) (b : Option Nat), k + m = 8 → (∀ j, b = some j → j < 8) → KAt (kWl lyC l D cI cB cT ad) m_K_longestWaiting (d + 1) 16 [some (.ref 0), some (.int t), some (.int e), some (rv b), some (.ref 1), some (.int 8), some (.int (nI k)), none, none] [] u (some (rv (cLong u t e k m b))) u := by
  intro m
  induction m with
  | zero =>
    intro k b hk hb
    obtain rfl : k = 8 := by omega
    cases b with
    | none =>
      refine k_iload d_K_longestWaiting_16 rfl ?_
      refine k_iload d_K_longestWaiting_18 rfl ?_
      refine k_icmp_ge d_K_longestWaiting_20 (fun h20 => ?_) (fun h20 => absurd h20 (fun z => z (by decide)))
      refine k_aload_nN d_K_longestWaiting_90 rfl ?_
      exact k_aretN d_K_longestWaiting_91 rfl (by first | rfl | (simp [cLong, rv] <;> done) | (simp [cLong, rv, *] <;> done)) (by first | rfl | (simp [cLong, rv] <;> done) | (simp [cLong, rv, *] <;> done))
    | some j =>
      refine k_iload d_K_longestWaiting_16 rfl ?_
      refine k_iload d_K_longestWaiting_18 rfl ?_
      refine k_icmp_ge d_K_longestWaiting_20 (fun h20 => ?_) (fun h20 => absurd h20 (fun z => z (by decide)))
      refine k_aload_n d_K_longestWaiting_90 rfl ?_
      exact k_aret d_K_longestWaiting_91 rfl (by first | rfl | (simp [cLong, rv] <;> done) | (simp [cLong, rv, *] <;> done)) (by first | rfl | (simp [cLong, rv] <;> done) | (simp [cLong, rv, *] <;> done))
  | succ m ih =>
    intro k b hk hb
    have hk2 : k < 8 := by omega
    have h0 : ¬ (8 : Int32) ≤ nI k := nI_ge (a := k) (b := 8) hk2 (by decide)
    cases b with
    | none =>
      refine k_iload d_K_longestWaiting_16 rfl ?_
      refine k_iload d_K_longestWaiting_18 rfl ?_
      refine k_icmp_ge d_K_longestWaiting_20 (fun h20 => absurd h20 h0) (fun h20 => ?_)
      refine k_aload d_K_longestWaiting_23 rfl ?_
      refine k_iload d_K_longestWaiting_25 rfl ?_
      refine cA_aldN d_K_longestWaiting_27 (by first | assumption | omega) ?_
      refine k_astore d_K_longestWaiting_28 (by decide) ?_
      refine k_iload_n d_K_longestWaiting_30 rfl ?_
      refine k_iconst (v := (-1)) d_K_longestWaiting_31 (by decide) ?_
      refine k_icmp_eq d_K_longestWaiting_32 (fun h32 => ?_) (fun h32 => ?_)
      · refine k_iconst (v := 1) d_K_longestWaiting_44 (by decide) ?_
        refine k_goto d_K_longestWaiting_45 ?_
        refine k_istore d_K_longestWaiting_49 (by decide) ?_
        refine k_iload d_K_longestWaiting_51 rfl ?_
        refine k_if_eq d_K_longestWaiting_53 (fun h => absurd h (by decide)) (fun _ => ?_)
        refine k_aload d_K_longestWaiting_56 rfl ?_
        refine k_iload_n d_K_longestWaiting_58 rfl ?_
        refine k_virt1s d_K_longestWaiting_59 l_K_179 g_H_waitsToSendTo (c_H_waitsToSendTo hk2) (rcvT (by first | assumption | omega)) (Nat.le_of_ble_eq_true rfl) ?_
        refine k_if_eqB d_K_longestWaiting_62 (fun h62 => ?_) (fun h62 => ?_)
        · refine k_incN d_K_longestWaiting_84 rfl (by decide) ?_
          refine k_goto d_K_longestWaiting_87 ?_
          refine k_forget 7 (k_forget 8 ?_)
          first
            | exact (ih (k + 1) none (by omega) (fun j h => by cases h)).to (by simp [cLong, *]) rfl
            | exact (ih (k + 1) (some k) (by omega) (fun j h => by cases h; omega)).to (by simp [cLong, *]) rfl
        · refine k_aload_nN d_K_longestWaiting_65 rfl ?_
          refine k_ifnullN d_K_longestWaiting_66 ?_
          refine k_aload d_K_longestWaiting_81 rfl ?_
          refine k_astore_n d_K_longestWaiting_83 (by decide) ?_
          refine k_incN d_K_longestWaiting_84 rfl (by decide) ?_
          refine k_goto d_K_longestWaiting_87 ?_
          refine k_forget 7 (k_forget 8 ?_)
          first
            | exact (ih (k + 1) none (by omega) (fun j h => by cases h)).to (by simp [cLong, *]) rfl
            | exact (ih (k + 1) (some k) (by omega) (fun j h => by cases h; omega)).to (by simp [cLong, *]) rfl
      · refine k_iload_n d_K_longestWaiting_35 rfl ?_
        refine k_aload d_K_longestWaiting_36 rfl ?_
        refine cT_num d_K_longestWaiting_38 f_K_182 (by first | assumption | omega) (hI.num hk2) ?_
        refine k_icmp_ne d_K_longestWaiting_41 (fun h41 => ?_) (fun h41 => ?_)
        · refine k_iconst (v := 0) d_K_longestWaiting_48 (by decide) ?_
          refine k_istore d_K_longestWaiting_49 (by decide) ?_
          refine k_iload d_K_longestWaiting_51 rfl ?_
          refine k_if_eq d_K_longestWaiting_53 (fun _ => ?_) (fun h => absurd h (by decide))
          refine k_incN d_K_longestWaiting_84 rfl (by decide) ?_
          refine k_goto d_K_longestWaiting_87 ?_
          refine k_forget 7 (k_forget 8 ?_)
          first
            | exact (ih (k + 1) none (by omega) (fun j h => by cases h)).to (by simp [cLong, *]) rfl
            | exact (ih (k + 1) (some k) (by omega) (fun j h => by cases h; omega)).to (by simp [cLong, *]) rfl
        · refine k_iconst (v := 1) d_K_longestWaiting_44 (by decide) ?_
          refine k_goto d_K_longestWaiting_45 ?_
          refine k_istore d_K_longestWaiting_49 (by decide) ?_
          refine k_iload d_K_longestWaiting_51 rfl ?_
          refine k_if_eq d_K_longestWaiting_53 (fun h => absurd h (by decide)) (fun _ => ?_)
          refine k_aload d_K_longestWaiting_56 rfl ?_
          refine k_iload_n d_K_longestWaiting_58 rfl ?_
          refine k_virt1s d_K_longestWaiting_59 l_K_179 g_H_waitsToSendTo (c_H_waitsToSendTo hk2) (rcvT (by first | assumption | omega)) (Nat.le_of_ble_eq_true rfl) ?_
          refine k_if_eqB d_K_longestWaiting_62 (fun h62 => ?_) (fun h62 => ?_)
          · refine k_incN d_K_longestWaiting_84 rfl (by decide) ?_
            refine k_goto d_K_longestWaiting_87 ?_
            refine k_forget 7 (k_forget 8 ?_)
            first
              | exact (ih (k + 1) none (by omega) (fun j h => by cases h)).to (by simp [cLong, *]) rfl
              | exact (ih (k + 1) (some k) (by omega) (fun j h => by cases h; omega)).to (by simp [cLong, *]) rfl
          · refine k_aload_nN d_K_longestWaiting_65 rfl ?_
            refine k_ifnullN d_K_longestWaiting_66 ?_
            refine k_aload d_K_longestWaiting_81 rfl ?_
            refine k_astore_n d_K_longestWaiting_83 (by decide) ?_
            refine k_incN d_K_longestWaiting_84 rfl (by decide) ?_
            refine k_goto d_K_longestWaiting_87 ?_
            refine k_forget 7 (k_forget 8 ?_)
            first
              | exact (ih (k + 1) none (by omega) (fun j h => by cases h)).to (by simp [cLong, *]) rfl
              | exact (ih (k + 1) (some k) (by omega) (fun j h => by cases h; omega)).to (by simp [cLong, *]) rfl
    | some j =>
      have hj : j < 8 := hb j rfl
      refine k_iload d_K_longestWaiting_16 rfl ?_
      refine k_iload d_K_longestWaiting_18 rfl ?_
      refine k_icmp_ge d_K_longestWaiting_20 (fun h20 => absurd h20 h0) (fun h20 => ?_)
      refine k_aload d_K_longestWaiting_23 rfl ?_
      refine k_iload d_K_longestWaiting_25 rfl ?_
      refine cA_aldN d_K_longestWaiting_27 (by first | assumption | omega) ?_
      refine k_astore d_K_longestWaiting_28 (by decide) ?_
      refine k_iload_n d_K_longestWaiting_30 rfl ?_
      refine k_iconst (v := (-1)) d_K_longestWaiting_31 (by decide) ?_
      refine k_icmp_eq d_K_longestWaiting_32 (fun h32 => ?_) (fun h32 => ?_)
      · refine k_iconst (v := 1) d_K_longestWaiting_44 (by decide) ?_
        refine k_goto d_K_longestWaiting_45 ?_
        refine k_istore d_K_longestWaiting_49 (by decide) ?_
        refine k_iload d_K_longestWaiting_51 rfl ?_
        refine k_if_eq d_K_longestWaiting_53 (fun h => absurd h (by decide)) (fun _ => ?_)
        refine k_aload d_K_longestWaiting_56 rfl ?_
        refine k_iload_n d_K_longestWaiting_58 rfl ?_
        refine k_virt1s d_K_longestWaiting_59 l_K_179 g_H_waitsToSendTo (c_H_waitsToSendTo hk2) (rcvT (by first | assumption | omega)) (Nat.le_of_ble_eq_true rfl) ?_
        refine k_if_eqB d_K_longestWaiting_62 (fun h62 => ?_) (fun h62 => ?_)
        · refine k_incN d_K_longestWaiting_84 rfl (by decide) ?_
          refine k_goto d_K_longestWaiting_87 ?_
          refine k_forget 7 (k_forget 8 ?_)
          first
            | exact (ih (k + 1) (some j) (by omega) (fun i h => by cases h; exact hj)).to (by simp [cLong, *]) rfl
            | exact (ih (k + 1) (some k) (by omega) (fun i h => by cases h; omega)).to (by simp [cLong, *]) rfl
        · refine k_aload_n d_K_longestWaiting_65 rfl ?_
          refine k_ifnull d_K_longestWaiting_66 ?_
          refine k_aload d_K_longestWaiting_69 rfl ?_
          refine cT_get d_K_longestWaiting_71 f_K_185 hk2 (by decide) (by decide) ?_
          refine k_aload_n d_K_longestWaiting_74 rfl ?_
          refine cT_get d_K_longestWaiting_75 f_K_185 hj (by decide) (by decide) ?_
          refine k_icmp_ge d_K_longestWaiting_78 (fun h78 => ?_) (fun h78 => ?_)
          · refine k_incN d_K_longestWaiting_84 rfl (by decide) ?_
            refine k_goto d_K_longestWaiting_87 ?_
            refine k_forget 7 (k_forget 8 ?_)
            first
              | exact (ih (k + 1) (some j) (by omega) (fun i h => by cases h; exact hj)).to (by simp [cLong, *]) rfl
              | exact (ih (k + 1) (some k) (by omega) (fun i h => by cases h; omega)).to (by simp [cLong, *]) rfl
          · refine k_aload d_K_longestWaiting_81 rfl ?_
            refine k_astore_n d_K_longestWaiting_83 (by decide) ?_
            refine k_incN d_K_longestWaiting_84 rfl (by decide) ?_
            refine k_goto d_K_longestWaiting_87 ?_
            refine k_forget 7 (k_forget 8 ?_)
            first
              | exact (ih (k + 1) (some j) (by omega) (fun i h => by cases h; exact hj)).to (by simp [cLong, *]) rfl
              | exact (ih (k + 1) (some k) (by omega) (fun i h => by cases h; omega)).to (by simp [cLong, *]) rfl
      · refine k_iload_n d_K_longestWaiting_35 rfl ?_
        refine k_aload d_K_longestWaiting_36 rfl ?_
        refine cT_num d_K_longestWaiting_38 f_K_182 (by first | assumption | omega) (hI.num hk2) ?_
        refine k_icmp_ne d_K_longestWaiting_41 (fun h41 => ?_) (fun h41 => ?_)
        · refine k_iconst (v := 0) d_K_longestWaiting_48 (by decide) ?_
          refine k_istore d_K_longestWaiting_49 (by decide) ?_
          refine k_iload d_K_longestWaiting_51 rfl ?_
          refine k_if_eq d_K_longestWaiting_53 (fun _ => ?_) (fun h => absurd h (by decide))
          refine k_incN d_K_longestWaiting_84 rfl (by decide) ?_
          refine k_goto d_K_longestWaiting_87 ?_
          refine k_forget 7 (k_forget 8 ?_)
          first
            | exact (ih (k + 1) (some j) (by omega) (fun i h => by cases h; exact hj)).to (by simp [cLong, *]) rfl
            | exact (ih (k + 1) (some k) (by omega) (fun i h => by cases h; omega)).to (by simp [cLong, *]) rfl
        · refine k_iconst (v := 1) d_K_longestWaiting_44 (by decide) ?_
          refine k_goto d_K_longestWaiting_45 ?_
          refine k_istore d_K_longestWaiting_49 (by decide) ?_
          refine k_iload d_K_longestWaiting_51 rfl ?_
          refine k_if_eq d_K_longestWaiting_53 (fun h => absurd h (by decide)) (fun _ => ?_)
          refine k_aload d_K_longestWaiting_56 rfl ?_
          refine k_iload_n d_K_longestWaiting_58 rfl ?_
          refine k_virt1s d_K_longestWaiting_59 l_K_179 g_H_waitsToSendTo (c_H_waitsToSendTo hk2) (rcvT (by first | assumption | omega)) (Nat.le_of_ble_eq_true rfl) ?_
          refine k_if_eqB d_K_longestWaiting_62 (fun h62 => ?_) (fun h62 => ?_)
          · refine k_incN d_K_longestWaiting_84 rfl (by decide) ?_
            refine k_goto d_K_longestWaiting_87 ?_
            refine k_forget 7 (k_forget 8 ?_)
            first
              | exact (ih (k + 1) (some j) (by omega) (fun i h => by cases h; exact hj)).to (by simp [cLong, *]) rfl
              | exact (ih (k + 1) (some k) (by omega) (fun i h => by cases h; omega)).to (by simp [cLong, *]) rfl
          · refine k_aload_n d_K_longestWaiting_65 rfl ?_
            refine k_ifnull d_K_longestWaiting_66 ?_
            refine k_aload d_K_longestWaiting_69 rfl ?_
            refine cT_get d_K_longestWaiting_71 f_K_185 hk2 (by decide) (by decide) ?_
            refine k_aload_n d_K_longestWaiting_74 rfl ?_
            refine cT_get d_K_longestWaiting_75 f_K_185 hj (by decide) (by decide) ?_
            refine k_icmp_ge d_K_longestWaiting_78 (fun h78 => ?_) (fun h78 => ?_)
            · refine k_incN d_K_longestWaiting_84 rfl (by decide) ?_
              refine k_goto d_K_longestWaiting_87 ?_
              refine k_forget 7 (k_forget 8 ?_)
              first
                | exact (ih (k + 1) (some j) (by omega) (fun i h => by cases h; exact hj)).to (by simp [cLong, *]) rfl
                | exact (ih (k + 1) (some k) (by omega) (fun i h => by cases h; omega)).to (by simp [cLong, *]) rfl
            · refine k_aload d_K_longestWaiting_81 rfl ?_
              refine k_astore_n d_K_longestWaiting_83 (by decide) ?_
              refine k_incN d_K_longestWaiting_84 rfl (by decide) ?_
              refine k_goto d_K_longestWaiting_87 ?_
              refine k_forget 7 (k_forget 8 ?_)
              first
                | exact (ih (k + 1) (some j) (by omega) (fun i h => by cases h; exact hj)).to (by simp [cLong, *]) rfl
                | exact (ih (k + 1) (some k) (by omega) (fun i h => by cases h; omega)).to (by simp [cLong, *]) rfl

set_option maxRecDepth 4000 in
theorem c_K_longestWaiting {l : Launch} {D : va_G} {cI cB cT : ClassId} {ad : Nat → Nat} {d : Nat} {u : kSt} {t e : Int32} (hI : cInv u) : KSp (kWl lyC l D cI cB cT ad) y_K_longestWaiting m_K_longestWaiting (d + 1) [.ref 0, .int t, .int e] u (some (rv (cLong u t e 0 8 none))) u := by
  refine KSp.of (by decide) rfl (Nat.le_of_ble_eq_true rfl) rfl ?_
  show KAt (kWl lyC l D cI cB cT ad) m_K_longestWaiting (d + 1) 0 [some (.ref 0), some (.int t), some (.int e), none, none, none, none, none, none] [] u (some (rv (cLong u t e 0 8 none))) u
  refine k_null d_K_longestWaiting_0 ?_
  refine k_astore_nN d_K_longestWaiting_1 (by decide) ?_
  refine k_aload_n d_K_longestWaiting_2 rfl ?_
  refine k_getr (t := 1) d_K_longestWaiting_3 f_K_11 (by decide) rfl (by decide) (by decide) rfl ?_
  refine k_astore d_K_longestWaiting_6 (by decide) ?_
  refine k_aload d_K_longestWaiting_8 rfl ?_
  refine k_alen (v := 8) d_K_longestWaiting_10 (by decide) rfl (by decide) ?_
  refine k_istore d_K_longestWaiting_11 (by decide) ?_
  refine k_iconst (v := 0) d_K_longestWaiting_13 (by decide) ?_
  refine k_istore d_K_longestWaiting_14 (by decide) ?_
  exact c_K_longestWaiting_loop hI 8 0 none rfl (fun j h => by cases h)

theorem cLong_lt {u : kSt} {t e : Int32} : ∀ (m k : Nat) (b : Option Nat), k + m = 8 → (∀ j, b = some j → j < 8) → ∀ j, cLong u t e k m b = some j → j < 8
  | 0, k, b, _, hb, j, h => hb j h
  | m + 1, k, none, hk, hb, j, h => by
    unfold cLong at h
    split at h
    · exact cLong_lt m (k + 1) (some k) (by omega) (fun i hi => by cases hi; omega) j h
    · exact cLong_lt m (k + 1) none (by omega) hb j h
  | m + 1, k, some z, hk, hb, j, h => by
    unfold cLong at h
    split at h
    · dsimp only at h
      split at h
      · exact cLong_lt m (k + 1) (some z) (by omega) hb j h
      · exact cLong_lt m (k + 1) (some k) (by omega) (fun i hi => by cases hi; omega) j h
    · exact cLong_lt m (k + 1) (some z) (by omega) hb j h
set_option maxRecDepth 4000 in
theorem c_K_send {l : Launch} {D : va_G} {cI cB cT : ClassId} {ad : Nat → Nat} {d : Nat} {u : kSt} {t o n : Int32} (hI : cInv u) : KSp (kWl lyC l D cI cB cT ad) y_K_send m_K_send (d + 5) [.ref 0, .int t, .int o, .int n] u (some (.int (cSend u t o n).1)) (cSend u t o n).2 := by
  refine KSp.of (by decide) rfl (Nat.le_of_ble_eq_true rfl) rfl ?_
  show KAt (kWl lyC l D cI cB cT ad) m_K_send (d + 5) 0 [some (.ref 0), some (.int t), some (.int o), some (.int n)] [] u (some (.int (cSend u t o n).1)) (cSend u t o n).2
  refine k_aload_n d_K_send_0 rfl ?_
  refine k_iload_n d_K_send_1 rfl ?_
  refine k_iload_n d_K_send_2 rfl ?_
  refine k_iload_n d_K_send_3 rfl ?_
  refine k_virt3s d_K_send_4 l_K_82 g_K_maySend c_K_maySend rcvK (Nat.le_of_ble_eq_true rfl) ?_
  refine k_if_neB d_K_send_7 (fun h7 => ?_) (fun h7 => ?_)
  · have hm := cMaySend_in h7
    have ht := cIsRun_in hm.1
    have ho := cIsThread_in hm.2.2.1
    refine k_aload_n d_K_send_12 rfl ?_
    refine k_getr (t := 1) d_K_send_13 f_K_11 (by decide) rfl (by decide) (by decide) rfl ?_
    refine k_iload_n d_K_send_16 rfl ?_
    refine cA_ald d_K_send_17 (by first | assumption | (unfold vp_in; decide) | exact vin (by assumption) (by assumption) | exact vin_n (by assumption) | exact vin_n (by omega)) (fun hi17 => ?_)
    refine k_iload_n d_K_send_18 rfl ?_
    refine k_virt1s d_K_send_19 l_K_86 g_H_takesFrom (c_H_takesFrom hi17) (rcvT (by first | assumption | omega)) (Nat.le_of_ble_eq_true rfl) ?_
    refine k_if_eqB d_K_send_22 (fun h22 => ?_) (fun h22 => ?_)
    · refine k_aload_n d_K_send_44 rfl ?_
      refine k_aload_n d_K_send_45 rfl ?_
      refine k_getr (t := 1) d_K_send_46 f_K_11 (by decide) rfl (by decide) (by decide) rfl ?_
      refine k_iload_n d_K_send_49 rfl ?_
      refine cA_ald d_K_send_50 (by first | assumption | (unfold vp_in; decide) | exact vin (by assumption) (by assumption) | exact vin_n (by assumption) | exact vin_n (by omega)) (fun hi50 => ?_)
      refine k_iconst (v := 1) d_K_send_51 (by decide) ?_
      refine k_iload_n d_K_send_52 rfl ?_
      refine k_iload_n d_K_send_53 rfl ?_
      refine k_virt4s d_K_send_54 l_K_93 g_K_waitToSend (c_K_waitToSend hi50) rcvK (Nat.le_of_ble_eq_true rfl) ?_
      exact k_iret d_K_send_57 rfl (by first | rfl | (simp [cSend] <;> done) | (simp [cSend, *] <;> done)) (by first | rfl | (simp [cSend] <;> done) | (simp [cSend, *] <;> done))
    · refine k_aload_n d_K_send_25 rfl ?_
      refine k_aload_n d_K_send_26 rfl ?_
      refine k_getr (t := 1) d_K_send_27 f_K_11 (by decide) rfl (by decide) (by decide) rfl ?_
      refine k_iload_n d_K_send_30 rfl ?_
      refine cA_ald d_K_send_31 (by first | assumption | (unfold vp_in; decide) | exact vin (by assumption) (by assumption) | exact vin_n (by assumption) | exact vin_n (by omega)) (fun hi31 => ?_)
      refine k_aload_n d_K_send_32 rfl ?_
      refine k_getr (t := 1) d_K_send_33 f_K_11 (by decide) rfl (by decide) (by decide) rfl ?_
      refine k_iload_n d_K_send_36 rfl ?_
      refine cA_ald d_K_send_37 (by first | assumption | (unfold vp_in; decide) | exact vin (by assumption) (by assumption) | exact vin_n (by assumption) | exact vin_n (by omega)) (fun hi37 => ?_)
      refine k_iconst (v := 0) d_K_send_38 (by decide) ?_
      refine k_virt3v d_K_send_39 l_K_89 g_K_passMessage (c_K_passMessage hi31 hi37 hI) rcvK (Nat.le_of_ble_eq_true rfl) ?_
      refine k_iconst (v := 0) d_K_send_42 (by decide) ?_
      exact k_iret d_K_send_43 rfl (by first | rfl | (simp [cSend] <;> done) | (simp [cSend, *] <;> done)) (by first | rfl | (simp [cSend] <;> done) | (simp [cSend, *] <;> done))
  · refine k_iconst (v := (-1)) d_K_send_10 (by decide) ?_
    exact k_iret d_K_send_11 rfl (by first | rfl | (simp [cSend] <;> done) | (simp [cSend, *] <;> done)) (by first | rfl | (simp [cSend] <;> done) | (simp [cSend, *] <;> done))

set_option maxRecDepth 4000 in
theorem c_K_call {l : Launch} {D : va_G} {cI cB cT : ClassId} {ad : Nat → Nat} {d : Nat} {u : kSt} {t o n : Int32} (hI : cInv u) : KSp (kWl lyC l D cI cB cT ad) y_K_call m_K_call (d + 5) [.ref 0, .int t, .int o, .int n] u (some (.int (cCall u t o n).1)) (cCall u t o n).2 := by
  refine KSp.of (by decide) rfl (Nat.le_of_ble_eq_true rfl) rfl ?_
  show KAt (kWl lyC l D cI cB cT ad) m_K_call (d + 5) 0 [some (.ref 0), some (.int t), some (.int o), some (.int n)] [] u (some (.int (cCall u t o n).1)) (cCall u t o n).2
  refine k_aload_n d_K_call_0 rfl ?_
  refine k_iload_n d_K_call_1 rfl ?_
  refine k_iload_n d_K_call_2 rfl ?_
  refine k_iload_n d_K_call_3 rfl ?_
  refine k_virt3s d_K_call_4 l_K_82 g_K_maySend c_K_maySend rcvK (Nat.le_of_ble_eq_true rfl) ?_
  refine k_if_neB d_K_call_7 (fun h7 => ?_) (fun h7 => ?_)
  · have hm := cMaySend_in h7
    have ht := cIsRun_in hm.1
    have ho := cIsThread_in hm.2.2.1
    refine k_aload_n d_K_call_12 rfl ?_
    refine k_getr (t := 1) d_K_call_13 f_K_11 (by decide) rfl (by decide) (by decide) rfl ?_
    refine k_iload_n d_K_call_16 rfl ?_
    refine cA_ald d_K_call_17 (by first | assumption | (unfold vp_in; decide) | exact vin (by assumption) (by assumption) | exact vin_n (by assumption) | exact vin_n (by omega)) (fun hi17 => ?_)
    refine k_iload_n d_K_call_18 rfl ?_
    refine k_virt1s d_K_call_19 l_K_86 g_H_takesFrom (c_H_takesFrom hi17) (rcvT (by first | assumption | omega)) (Nat.le_of_ble_eq_true rfl) ?_
    refine k_if_eqB d_K_call_22 (fun h22 => ?_) (fun h22 => ?_)
    · refine k_aload_n d_K_call_44 rfl ?_
      refine k_aload_n d_K_call_45 rfl ?_
      refine k_getr (t := 1) d_K_call_46 f_K_11 (by decide) rfl (by decide) (by decide) rfl ?_
      refine k_iload_n d_K_call_49 rfl ?_
      refine cA_ald d_K_call_50 (by first | assumption | (unfold vp_in; decide) | exact vin (by assumption) (by assumption) | exact vin_n (by assumption) | exact vin_n (by omega)) (fun hi50 => ?_)
      refine k_iconst (v := 3) d_K_call_51 (by decide) ?_
      refine k_iload_n d_K_call_52 rfl ?_
      refine k_iload_n d_K_call_53 rfl ?_
      refine k_virt4s d_K_call_54 l_K_93 g_K_waitToSend (c_K_waitToSend hi50) rcvK (Nat.le_of_ble_eq_true rfl) ?_
      exact k_iret d_K_call_57 rfl (by first | rfl | (simp [cCall] <;> done) | (simp [cCall, *] <;> done)) (by first | rfl | (simp [cCall] <;> done) | (simp [cCall, *] <;> done))
    · refine k_aload_n d_K_call_25 rfl ?_
      refine k_aload_n d_K_call_26 rfl ?_
      refine k_getr (t := 1) d_K_call_27 f_K_11 (by decide) rfl (by decide) (by decide) rfl ?_
      refine k_iload_n d_K_call_30 rfl ?_
      refine cA_ald d_K_call_31 (by first | assumption | (unfold vp_in; decide) | exact vin (by assumption) (by assumption) | exact vin_n (by assumption) | exact vin_n (by omega)) (fun hi31 => ?_)
      refine k_aload_n d_K_call_32 rfl ?_
      refine k_getr (t := 1) d_K_call_33 f_K_11 (by decide) rfl (by decide) (by decide) rfl ?_
      refine k_iload_n d_K_call_36 rfl ?_
      refine cA_ald d_K_call_37 (by first | assumption | (unfold vp_in; decide) | exact vin (by assumption) (by assumption) | exact vin_n (by assumption) | exact vin_n (by omega)) (fun hi37 => ?_)
      refine k_iconst (v := 1) d_K_call_38 (by decide) ?_
      refine k_virt3v d_K_call_39 l_K_89 g_K_passMessage (c_K_passMessage hi31 hi37 hI) rcvK (Nat.le_of_ble_eq_true rfl) ?_
      refine k_iconst (v := 1) d_K_call_42 (by decide) ?_
      exact k_iret d_K_call_43 rfl (by first | rfl | (simp [cCall] <;> done) | (simp [cCall, *] <;> done)) (by first | rfl | (simp [cCall] <;> done) | (simp [cCall, *] <;> done))
  · refine k_iconst (v := (-1)) d_K_call_10 (by decide) ?_
    exact k_iret d_K_call_11 rfl (by first | rfl | (simp [cCall] <;> done) | (simp [cCall, *] <;> done)) (by first | rfl | (simp [cCall] <;> done) | (simp [cCall, *] <;> done))

theorem c_K_receive_2 {l : Launch} {D : va_G} {cI cB cT : ClassId} {ad : Nat → Nat} {d : Nat} {u : kSt} {t e n : Int32} (hI : cInv u) (ht : vp_in t 8) : KAt (kWl lyC l D cI cB cT ad) m_K_receive (d + 6) 35 [some (.ref 0), some (.int t), some (.int e), some (.int n), none, none] [] u (some (.int (cRec2 u t e n).1)) (cRec2 u t e n).2 := by
  cases hc : cLong u t e 0 8 none with
  | none =>
    have hl : KSp (kWl lyC l D cI cB cT ad) y_K_longestWaiting m_K_longestWaiting (d + 5) [.ref 0, .int t, .int e] u (some .null) u := by
      have := c_K_longestWaiting (l := l) (D := D) (cI := cI) (cB := cB) (cT := cT) (ad := ad) (d := d + 4) (t := t) (e := e) hI
      rw [hc] at this
      exact this
    have e1 : cRec2 u t e n = if n = 0 then (2, cRun u (ix t) 1) else (1, cWait u (ix t) 2 e (cDeadline u n)) := by simp only [cRec2, hc]
    rw [e1]
    refine k_aload_n d_K_receive_35 rfl ?_
    refine k_getr (t := 1) d_K_receive_36 f_K_11 (by decide) rfl (by decide) (by decide) rfl ?_
    refine k_iload_n d_K_receive_39 rfl ?_
    refine cA_ald d_K_receive_40 (by first | assumption | (unfold vp_in; decide) | exact vin (by assumption) (by assumption) | exact vin_n (by assumption) | exact vin_n (by omega)) (fun hi40 => ?_)
    refine k_astore d_K_receive_41 (by decide) ?_
    refine k_aload_n d_K_receive_43 rfl ?_
    refine k_iload_n d_K_receive_44 rfl ?_
    refine k_iload_n d_K_receive_45 rfl ?_
    refine k_virt2s d_K_receive_46 l_K_100 g_K_longestWaiting hl rcvK (Nat.le_of_ble_eq_true rfl) ?_
    refine k_astoreN d_K_receive_49 (by decide) ?_
    refine k_aloadN d_K_receive_51 rfl ?_
    refine k_ifnullN d_K_receive_53 ?_
    refine k_iload_n d_K_receive_66 rfl ?_
    refine k_if_ne d_K_receive_67 (fun h67 => ?_) (fun h67 => ?_)
    · refine k_aload d_K_receive_76 rfl ?_
      refine k_iconst (v := 2) d_K_receive_78 (by decide) ?_
      refine k_iload_n d_K_receive_79 rfl ?_
      refine k_aload_n d_K_receive_80 rfl ?_
      refine k_iload_n d_K_receive_81 rfl ?_
      refine k_virt1s d_K_receive_82 l_K_112 g_K_deadline c_K_deadline rcvK (Nat.le_of_ble_eq_true rfl) ?_
      refine k_virt3v d_K_receive_85 l_K_116 g_H_waitFor (c_H_waitFor hi40) (rcvT (by first | assumption | omega)) (Nat.le_of_ble_eq_true rfl) ?_
      refine k_iconst (v := 1) d_K_receive_88 (by decide) ?_
      exact k_iret d_K_receive_89 rfl (by simp [*]) (by simp [*])
    · refine k_aload d_K_receive_70 rfl ?_
      refine k_stat1s d_K_receive_72 l_K_108 g_K_giveUp (c_K_giveUp hi40) (Nat.le_of_ble_eq_true rfl) ?_
      exact k_iret d_K_receive_75 rfl (by simp [*]) (by simp [*])
  | some j =>
    have hj := cLong_lt 8 0 none rfl (fun j h => by cases h) j hc
    have hl : KSp (kWl lyC l D cI cB cT ad) y_K_longestWaiting m_K_longestWaiting (d + 5) [.ref 0, .int t, .int e] u (some (.ref (8 + j))) u := by
      have := c_K_longestWaiting (l := l) (D := D) (cI := cI) (cB := cB) (cT := cT) (ad := ad) (d := d + 4) (t := t) (e := e) hI
      rw [hc] at this
      exact this
    have e1 : cRec2 u t e n = (0, cTakeW u j (ix t)) := by simp only [cRec2, hc]
    rw [e1]
    refine k_aload_n d_K_receive_35 rfl ?_
    refine k_getr (t := 1) d_K_receive_36 f_K_11 (by decide) rfl (by decide) (by decide) rfl ?_
    refine k_iload_n d_K_receive_39 rfl ?_
    refine cA_ald d_K_receive_40 (by first | assumption | (unfold vp_in; decide) | exact vin (by assumption) (by assumption) | exact vin_n (by assumption) | exact vin_n (by omega)) (fun hi40 => ?_)
    refine k_astore d_K_receive_41 (by decide) ?_
    refine k_aload_n d_K_receive_43 rfl ?_
    refine k_iload_n d_K_receive_44 rfl ?_
    refine k_iload_n d_K_receive_45 rfl ?_
    refine k_virt2s d_K_receive_46 l_K_100 g_K_longestWaiting hl rcvK (Nat.le_of_ble_eq_true rfl) ?_
    refine k_astore d_K_receive_49 (by decide) ?_
    refine k_aload d_K_receive_51 rfl ?_
    refine k_ifnull d_K_receive_53 ?_
    refine k_aload_n d_K_receive_56 rfl ?_
    refine k_aload d_K_receive_57 rfl ?_
    refine k_aload d_K_receive_59 rfl ?_
    refine k_virt2v d_K_receive_61 l_K_104 g_K_takeWaitingMessage (c_K_takeWaitingMessage hj hi40 hI) rcvK (Nat.le_of_ble_eq_true rfl) ?_
    refine k_iconst (v := 0) d_K_receive_64 (by decide) ?_
    exact k_iret d_K_receive_65 rfl rfl rfl

set_option maxRecDepth 4000 in
theorem c_K_receive {l : Launch} {D : va_G} {cI cB cT : ClassId} {ad : Nat → Nat} {d : Nat} {u : kSt} {t e n : Int32} (hI : cInv u) : KSp (kWl lyC l D cI cB cT ad) y_K_receive m_K_receive (d + 6) [.ref 0, .int t, .int e, .int n] u (some (.int (cReceive u t e n).1)) (cReceive u t e n).2 := by
  refine KSp.of (by decide) rfl (Nat.le_of_ble_eq_true rfl) rfl ?_
  show KAt (kWl lyC l D cI cB cT ad) m_K_receive (d + 6) 0 [some (.ref 0), some (.int t), some (.int e), some (.int n), none, none] [] u (some (.int (cReceive u t e n).1)) (cReceive u t e n).2
  refine k_aload_n d_K_receive_0 rfl ?_
  refine k_iload_n d_K_receive_1 rfl ?_
  refine k_virt1s d_K_receive_2 l_K_57 g_K_isRunning c_K_isRunning rcvK (Nat.le_of_ble_eq_true rfl) ?_
  refine k_if_eqB d_K_receive_5 (fun h5 => ?_) (fun h5 => ?_)
  · refine k_iconst (v := (-1)) d_K_receive_33 (by decide) ?_
    exact k_iret d_K_receive_34 rfl (by simp [cReceive, *]) (by simp [cReceive, *])
  · refine k_iload_n d_K_receive_8 rfl ?_
    refine k_iload_n d_K_receive_9 rfl ?_
    refine k_icmp_eq d_K_receive_10 (fun h10 => ?_) (fun h10 => ?_)
    · refine k_iconst (v := (-1)) d_K_receive_33 (by decide) ?_
      exact k_iret d_K_receive_34 rfl (by simp [cReceive, *]) (by simp [cReceive, *])
    · refine k_iload_n d_K_receive_13 rfl ?_
      refine k_iconst (v := (-1)) d_K_receive_14 (by decide) ?_
      refine k_icmp_eq d_K_receive_15 (fun h15 => ?_) (fun h15 => ?_)
      · refine k_iload_n d_K_receive_26 rfl ?_
        refine k_stat1s d_K_receive_27 l_K_97 g_K_isLimit c_K_isLimit (Nat.le_of_ble_eq_true rfl) ?_
        refine k_if_neB d_K_receive_30 (fun h30 => ?_) (fun h30 => ?_)
        · have e1 : cReceive u t e n = cRec2 u t e n := by rw [cReceive, if_pos h5, if_neg h10, if_neg (by simp [*]), if_pos h30]
          rw [e1]
          exact c_K_receive_2 hI (cIsRun_in h5)
        · refine k_iconst (v := (-1)) d_K_receive_33 (by decide) ?_
          exact k_iret d_K_receive_34 rfl (by simp [cReceive, *]) (by simp [cReceive, *])
      · refine k_aload_n d_K_receive_18 rfl ?_
        refine k_iload_n d_K_receive_19 rfl ?_
        refine k_virt1s d_K_receive_20 l_K_44 g_K_isThread c_K_isThread rcvK (Nat.le_of_ble_eq_true rfl) ?_
        refine k_if_eqB d_K_receive_23 (fun h23 => ?_) (fun h23 => ?_)
        · refine k_iconst (v := (-1)) d_K_receive_33 (by decide) ?_
          exact k_iret d_K_receive_34 rfl (by simp [cReceive, *]) (by simp [cReceive, *])
        · refine k_iload_n d_K_receive_26 rfl ?_
          refine k_stat1s d_K_receive_27 l_K_97 g_K_isLimit c_K_isLimit (Nat.le_of_ble_eq_true rfl) ?_
          refine k_if_neB d_K_receive_30 (fun h30 => ?_) (fun h30 => ?_)
          · have e1 : cReceive u t e n = cRec2 u t e n := by rw [cReceive, if_pos h5, if_neg h10, if_neg (by simp [*]), if_pos h30]
            rw [e1]
            exact c_K_receive_2 hI (cIsRun_in h5)
          · refine k_iconst (v := (-1)) d_K_receive_33 (by decide) ?_
            exact k_iret d_K_receive_34 rfl (by simp [cReceive, *]) (by simp [cReceive, *])

theorem cInv.want {u : kSt} (h : cInv u) {i : Nat} {p a v : Int32} (hp : vp_in p 16) : cInv (cWant u i p a v) := by
  refine ((h.up ?_).up (cOk_t (by decide))).up (cOk_t (by decide))
  exact ⟨fun _ _ => ⟨fun e => by omega, fun e => by omega, fun e => by omega, fun e => by omega, fun e => by omega, fun _ => hp⟩, fun e => by omega, fun e => by omega, fun e => by omega⟩
theorem c_K_access_2 {l : Launch} {D : va_G} {cI cB cT : ClassId} {ad : Nat → Nat} {d : Nat} {u : kSt} {i : Nat} {t p a v : Int32} (hi : i < 8) (hI : cInv u) : KAt (kWl lyC l D cI cB cT ad) m_K_access (d + 4) 52 [some (.ref 0), some (.int t), some (.int p), some (.int a), some (.int v), some (.ref (8 + i))] [] u (some (.int (if cTry u i (8 + i) 2 = 0 then 0 else if cTry u i (8 + i) 2 = 6 then 2 else 1))) (cTry u i) := by
  refine k_aload_n d_K_access_52 rfl ?_
  refine k_aload d_K_access_53 rfl ?_
  refine k_virt1v d_K_access_55 l_K_132 g_K_tryAccess (c_K_tryAccess hi hI) rcvK (Nat.le_of_ble_eq_true rfl) ?_
  refine k_aload d_K_access_58 rfl ?_
  refine cT_get d_K_access_60 f_K_51 (by first | assumption | omega) (by decide) (by decide) ?_
  refine k_if_ne d_K_access_63 (fun h63 => ?_) (fun h63 => ?_)
  · refine k_aload d_K_access_68 rfl ?_
    refine cT_get d_K_access_70 f_K_51 (by first | assumption | omega) (by decide) (by decide) ?_
    refine k_bipush (v := 6) d_K_access_73 (by decide) ?_
    refine k_icmp_ne d_K_access_75 (fun h75 => ?_) (fun h75 => ?_)
    · refine k_iconst (v := 1) d_K_access_82 (by decide) ?_
      exact k_iret d_K_access_83 rfl (by first | rfl | (simp [bI] <;> done) | (simp [bI, *] <;> done)) (by first | rfl | (simp [bI] <;> done) | (simp [bI, *] <;> done))
    · refine k_iconst (v := 2) d_K_access_78 (by decide) ?_
      refine k_goto d_K_access_79 ?_
      exact k_iret d_K_access_83 rfl (by first | rfl | (simp [bI] <;> done) | (simp [bI, *] <;> done)) (by first | rfl | (simp [bI] <;> done) | (simp [bI, *] <;> done))
  · refine k_iconst (v := 0) d_K_access_66 (by decide) ?_
    exact k_iret d_K_access_67 rfl (by first | rfl | (simp [bI] <;> done) | (simp [bI, *] <;> done)) (by first | rfl | (simp [bI] <;> done) | (simp [bI, *] <;> done))

set_option maxRecDepth 4000 in
theorem c_K_access {l : Launch} {D : va_G} {cI cB cT : ClassId} {ad : Nat → Nat} {d : Nat} {u : kSt} {t p a v : Int32} (hI : cInv u) : KSp (kWl lyC l D cI cB cT ad) y_K_access m_K_access (d + 4) [.ref 0, .int t, .int p, .int a, .int v] u (some (.int (cAccess u t p a v).1)) (cAccess u t p a v).2 := by
  refine KSp.of (by decide) rfl (Nat.le_of_ble_eq_true rfl) rfl ?_
  show KAt (kWl lyC l D cI cB cT ad) m_K_access (d + 4) 0 [some (.ref 0), some (.int t), some (.int p), some (.int a), some (.int v), none] [] u (some (.int (cAccess u t p a v).1)) (cAccess u t p a v).2
  refine k_aload_n d_K_access_0 rfl ?_
  refine k_iload_n d_K_access_1 rfl ?_
  refine k_virt1s d_K_access_2 l_K_57 g_K_isRunning c_K_isRunning rcvK (Nat.le_of_ble_eq_true rfl) ?_
  refine k_if_eqB d_K_access_5 (fun h5 => ?_) (fun h5 => ?_)
  · refine k_iconst (v := (-1)) d_K_access_15 (by decide) ?_
    exact k_iret d_K_access_16 rfl (by simp [cAccess, *]) (by simp [cAccess, *])
  · refine k_iload_n d_K_access_8 rfl ?_
    refine k_stat1s d_K_access_9 l_K_120 g_K_isPage c_K_isPage (Nat.le_of_ble_eq_true rfl) ?_
    refine k_if_neB d_K_access_12 (fun h12 => ?_) (fun h12 => ?_)
    · refine k_aload_n d_K_access_17 rfl ?_
      refine k_getr (t := 1) d_K_access_18 f_K_11 (by decide) rfl (by decide) (by decide) rfl ?_
      refine k_iload_n d_K_access_21 rfl ?_
      refine cA_ald d_K_access_22 (cIsRun_in h5) (fun hi22 => ?_)
      refine k_astore d_K_access_23 (by decide) ?_
      refine k_aload d_K_access_25 rfl ?_
      refine k_iload_n d_K_access_27 rfl ?_
      refine cT_put d_K_access_28 p_K_123 (by first | assumption | omega) (by decide) (by decide) rfl rfl ?_
      refine k_aload d_K_access_31 rfl ?_
      refine k_iload_n d_K_access_33 rfl ?_
      refine k_if_eq d_K_access_34 (fun h34 => ?_) (fun h34 => ?_)
      · refine k_iconst (v := 1) d_K_access_41 (by decide) ?_
        refine cT_put d_K_access_42 p_K_126 (by first | assumption | omega) (by decide) (by decide) rfl rfl ?_
        refine k_aload d_K_access_45 rfl ?_
        refine k_iload d_K_access_47 rfl ?_
        refine cT_put d_K_access_49 p_K_129 (by first | assumption | omega) (by decide) (by decide) rfl rfl ?_
        have hw := hI.want (i := ix t) (p := p) (a := a) (v := v) (cIsPage_in h12)
        have e1 : cAccess u t p a v = (if cTry (cWant u (ix t) p a v) (ix t) (8 + ix t) 2 = 0 then 0 else if cTry (cWant u (ix t) p a v) (ix t) (8 + ix t) 2 = 6 then 2 else 1, cTry (cWant u (ix t) p a v) (ix t)) := by simp [cAccess, *]
        rw [e1]
        simp only [cWant, h34, if_true, if_false] at hw ⊢
        exact c_K_access_2 hi22 hw
      · refine k_iconst (v := 2) d_K_access_37 (by decide) ?_
        refine k_goto d_K_access_38 ?_
        refine cT_put d_K_access_42 p_K_126 (by first | assumption | omega) (by decide) (by decide) rfl rfl ?_
        refine k_aload d_K_access_45 rfl ?_
        refine k_iload d_K_access_47 rfl ?_
        refine cT_put d_K_access_49 p_K_129 (by first | assumption | omega) (by decide) (by decide) rfl rfl ?_
        have hw := hI.want (i := ix t) (p := p) (a := a) (v := v) (cIsPage_in h12)
        have e1 : cAccess u t p a v = (if cTry (cWant u (ix t) p a v) (ix t) (8 + ix t) 2 = 0 then 0 else if cTry (cWant u (ix t) p a v) (ix t) (8 + ix t) 2 = 6 then 2 else 1, cTry (cWant u (ix t) p a v) (ix t)) := by simp [cAccess, *]
        rw [e1]
        simp only [cWant, h34, if_true, if_false] at hw ⊢
        exact c_K_access_2 hi22 hw
    · refine k_iconst (v := (-1)) d_K_access_15 (by decide) ?_
      exact k_iret d_K_access_16 rfl (by simp [cAccess, *]) (by simp [cAccess, *])

def cUnm (u : kSt) (k : Nat) (m self : Int32) : Int32 × kSt := if cHolds u k = true then (if self = 0 then (cLowN u (nI k) (m - 1) 96 + 0, cLow u (nI k) (m - 1) 96) else (cLowN u (nI k) (m - 1) 96 + cLowerN (cLow u (nI k) (m - 1) 96) k (m - 1), cLower (cLow u (nI k) (m - 1) 96) k (m - 1))) else (0, u)
theorem c_K_unmap_2 {l : Launch} {D : va_G} {cI cB cT : ClassId} {ad : Nat → Nat} {d : Nat} {u : kSt} {k : Nat} {t p m a : Int32} (hk : k < 96) (hI : cInv u) : KAt (kWl lyC l D cI cB cT ad) m_K_unmap (d + 2) 39 [some (.ref 0), some (.int t), some (.int p), some (.int m), some (.int a), some (.int (nI k)), none] [] u (some (.int (cUnm u k m a).1)) (cUnm u k m a).2 := by
  refine k_aload_n d_K_unmap_39 rfl ?_
  refine k_getr (t := 2) d_K_unmap_40 f_K_18 (by decide) rfl (by decide) (by decide) rfl ?_
  refine k_iload d_K_unmap_43 rfl ?_
  refine k_virt1s d_K_unmap_45 l_K_143 g_P_holds (c_P_holds hk) rcvP (Nat.le_of_ble_eq_true rfl) ?_
  refine k_if_neB d_K_unmap_48 (fun h48 => ?_) (fun h48 => ?_)
  · refine k_iload_n d_K_unmap_53 rfl ?_
    refine k_iconst (v := 1) d_K_unmap_54 (by decide) ?_
    refine k_isub d_K_unmap_55 ?_
    refine k_istore d_K_unmap_56 (by decide) ?_
    refine k_aload_n d_K_unmap_58 rfl ?_
    refine k_getr (t := 2) d_K_unmap_59 f_K_18 (by decide) rfl (by decide) (by decide) rfl ?_
    refine k_iload d_K_unmap_62 rfl ?_
    refine k_iload d_K_unmap_64 rfl ?_
    refine k_virt2s d_K_unmap_66 l_K_146 g_P_lowerDescendants (c_P_lowerDescendants hI.par hI.dep) rcvP (Nat.le_of_ble_eq_true rfl) ?_
    refine k_iload d_K_unmap_69 rfl ?_
    refine k_if_eq d_K_unmap_71 (fun h71 => ?_) (fun h71 => ?_)
    · refine k_iconst (v := 0) d_K_unmap_88 (by decide) ?_
      refine k_iadd d_K_unmap_89 ?_
      exact k_iret d_K_unmap_90 rfl (by simp only [cUnm, h48, h71, if_true, if_false]) (by simp only [cUnm, h48, h71, if_true, if_false])
    · refine k_aload_n d_K_unmap_74 rfl ?_
      refine k_getr (t := 2) d_K_unmap_75 f_K_18 (by decide) rfl (by decide) (by decide) rfl ?_
      refine k_iload d_K_unmap_78 rfl ?_
      refine k_iload d_K_unmap_80 rfl ?_
      refine k_virt2s d_K_unmap_82 l_K_149 g_P_lower (c_P_lower hk) rcvP (Nat.le_of_ble_eq_true rfl) ?_
      refine k_goto d_K_unmap_85 ?_
      refine k_iadd d_K_unmap_89 ?_
      exact k_iret d_K_unmap_90 rfl (by simp only [cUnm, h48, h71, if_true, if_false]) (by simp only [cUnm, h48, h71, if_true, if_false])
  · refine k_iconst (v := 0) d_K_unmap_51 (by decide) ?_
    exact k_iret d_K_unmap_52 rfl (by simp [cUnm, *]) (by simp [cUnm, *])

set_option maxRecDepth 4000 in
theorem c_K_unmap {l : Launch} {D : va_G} {cI cB cT : ClassId} {ad : Nat → Nat} {d : Nat} {u : kSt} {t p m a : Int32} (hI : cInv u) : KSp (kWl lyC l D cI cB cT ad) y_K_unmap m_K_unmap (d + 2) [.ref 0, .int t, .int p, .int m, .int a] u (some (.int (cUnmap u t p m a).1)) (cUnmap u t p m a).2 := by
  refine KSp.of (by decide) rfl (Nat.le_of_ble_eq_true rfl) rfl ?_
  show KAt (kWl lyC l D cI cB cT ad) m_K_unmap (d + 2) 0 [some (.ref 0), some (.int t), some (.int p), some (.int m), some (.int a), none, none] [] u (some (.int (cUnmap u t p m a).1)) (cUnmap u t p m a).2
  refine k_aload_n d_K_unmap_0 rfl ?_
  refine k_iload_n d_K_unmap_1 rfl ?_
  refine k_virt1s d_K_unmap_2 l_K_57 g_K_isRunning c_K_isRunning rcvK (Nat.le_of_ble_eq_true rfl) ?_
  refine k_if_eqB d_K_unmap_5 (fun h5 => ?_) (fun h5 => ?_)
  · refine k_iconst (v := (-1)) d_K_unmap_22 (by decide) ?_
    exact k_iret d_K_unmap_23 rfl (by simp [cUnmap, *]) (by simp [cUnmap, *])
  · refine k_iload_n d_K_unmap_8 rfl ?_
    refine k_stat1s d_K_unmap_9 l_K_120 g_K_isPage c_K_isPage (Nat.le_of_ble_eq_true rfl) ?_
    refine k_if_eqB d_K_unmap_12 (fun h12 => ?_) (fun h12 => ?_)
    · refine k_iconst (v := (-1)) d_K_unmap_22 (by decide) ?_
      exact k_iret d_K_unmap_23 rfl (by simp [cUnmap, *]) (by simp [cUnmap, *])
    · refine k_iload_n d_K_unmap_15 rfl ?_
      refine k_stat1s d_K_unmap_16 l_K_66 g_K_isLevel c_K_isLevel (Nat.le_of_ble_eq_true rfl) ?_
      refine k_if_neB d_K_unmap_19 (fun h19 => ?_) (fun h19 => ?_)
      · refine k_aload_n d_K_unmap_24 rfl ?_
        refine k_getr (t := 1) d_K_unmap_25 f_K_11 (by decide) rfl (by decide) (by decide) rfl ?_
        refine k_iload_n d_K_unmap_28 rfl ?_
        refine cA_ald d_K_unmap_29 (cIsRun_in h5) (fun hi29 => ?_)
        refine cT_get d_K_unmap_30 f_K_136 (by first | assumption | omega) (by decide) (by decide) ?_
        refine k_iload_n d_K_unmap_33 rfl ?_
        refine k_stat2s d_K_unmap_34 l_K_139 g_K_slotOf c_K_slotOf (Nat.le_of_ble_eq_true rfl) ?_
        refine k_istore d_K_unmap_37 (by decide) ?_
        have hs := sl_eq (hI.space hi29) (cIsPage_in h12)
        have e1 : cUnmap u t p m a = cUnm u (sl (u (8 + ix t) 3) p) m a := by simp only [cUnmap, cUnm, h5, h12, h19, if_true]
        rw [e1, hs.1]
        exact c_K_unmap_2 hs.2 hI
      · refine k_iconst (v := (-1)) d_K_unmap_22 (by decide) ?_
        exact k_iret d_K_unmap_23 rfl (by simp [cUnmap, *]) (by simp [cUnmap, *])

end KCL
end
section
section KRA
set_option maxRecDepth 4000 in
theorem c_R_thread {l : Launch} {D : va_G} {cI cB cT : ClassId} {ad : Nat → Nat} {d : Nat} {u : kSt} {t : Int32} : KSp (kWl lyR l D cI cB cT ad) y_R_thread m_R_thread d [.ref 0, .int t] u (some (.int (bI (rThread u t)))) u := by
  refine KSp.of (by decide) rfl (Nat.le_of_ble_eq_true rfl) rfl ?_
  show KAt (kWl lyR l D cI cB cT ad) m_R_thread d 0 [some (.ref 0), some (.int t)] [] u (some (.int (bI (rThread u t)))) u
  refine k_iload_n d_R_thread_0 rfl ?_
  refine k_if_lt d_R_thread_1 (fun h1 => ?_) (fun h1 => ?_)
  · refine k_iconst (v := 0) d_R_thread_23 (by decide) ?_
    exact k_zret d_R_thread_24 rfl (by first | rfl | exact nb_bI _) (by first | rfl | (simp [rThread, bI] <;> done) | (simp [rThread, bI, *] <;> done)) (by first | rfl | (simp [rThread, bI] <;> done) | (simp [rThread, bI, *] <;> done))
  · refine k_iload_n d_R_thread_4 rfl ?_
    refine k_bipush (v := 8) d_R_thread_5 (by decide) ?_
    refine k_icmp_ge d_R_thread_7 (fun h7 => ?_) (fun h7 => ?_)
    · refine k_iconst (v := 0) d_R_thread_23 (by decide) ?_
      exact k_zret d_R_thread_24 rfl (by first | rfl | exact nb_bI _) (by first | rfl | (simp [rThread, bI] <;> done) | (simp [rThread, bI, *] <;> done)) (by first | rfl | (simp [rThread, bI] <;> done) | (simp [rThread, bI, *] <;> done))
    · refine k_aload_n d_R_thread_10 rfl ?_
      refine k_getr (t := 1) d_R_thread_11 f_R_7 (by decide) rfl (by decide) (by decide) rfl ?_
      refine k_iload_n d_R_thread_14 rfl ?_
      refine k_bald d_R_thread_15 (by decide) rfl (by first | assumption | (unfold vp_in; decide) | exact vin (by assumption) (by assumption) | exact vin_n (by assumption) | exact vin_n (by omega)) ?_
      refine k_if_eq d_R_thread_16 (fun h16 => ?_) (fun h16 => ?_)
      · refine k_iconst (v := 0) d_R_thread_23 (by decide) ?_
        exact k_zret d_R_thread_24 rfl (by first | rfl | exact nb_bI _) (by first | rfl | (simp [rThread, bI] <;> done) | (simp [rThread, bI, *] <;> done)) (by first | rfl | (simp [rThread, bI] <;> done) | (simp [rThread, bI, *] <;> done))
      · refine k_iconst (v := 1) d_R_thread_19 (by decide) ?_
        refine k_goto d_R_thread_20 ?_
        exact k_zret d_R_thread_24 rfl (by first | rfl | exact nb_bI _) (by first | rfl | (simp [rThread, bI] <;> done) | (simp [rThread, bI, *] <;> done)) (by first | rfl | (simp [rThread, bI] <;> done) | (simp [rThread, bI, *] <;> done))

set_option maxRecDepth 4000 in
theorem c_R_running {l : Launch} {D : va_G} {cI cB cT : ClassId} {ad : Nat → Nat} {d : Nat} {u : kSt} {t : Int32} : KSp (kWl lyR l D cI cB cT ad) y_R_running m_R_running (d + 1) [.ref 0, .int t] u (some (.int (bI (rRunning u t)))) u := by
  refine KSp.of (by decide) rfl (Nat.le_of_ble_eq_true rfl) rfl ?_
  show KAt (kWl lyR l D cI cB cT ad) m_R_running (d + 1) 0 [some (.ref 0), some (.int t)] [] u (some (.int (bI (rRunning u t)))) u
  refine k_aload_n d_R_running_0 rfl ?_
  refine k_iload_n d_R_running_1 rfl ?_
  refine k_virt1s d_R_running_2 l_R_87 g_R_thread c_R_thread rcvR (Nat.le_of_ble_eq_true rfl) ?_
  refine k_if_eqB d_R_running_5 (fun h5 => ?_) (fun h5 => ?_)
  · refine k_iconst (v := 0) d_R_running_21 (by decide) ?_
    exact k_zret d_R_running_22 rfl (by first | rfl | exact nb_bI _) (by first | rfl | (simp [rRunning, bI] <;> done) | (simp [rRunning, bI, *] <;> done)) (by first | rfl | (simp [rRunning, bI] <;> done) | (simp [rRunning, bI, *] <;> done))
  · refine k_aload_n d_R_running_8 rfl ?_
    refine k_getr (t := 13) d_R_running_9 f_R_47 (by decide) rfl (by decide) (by decide) rfl ?_
    refine k_iload_n d_R_running_12 rfl ?_
    refine k_iald d_R_running_13 (by decide) rfl (rThread_in h5) ?_
    refine k_if_ne d_R_running_14 (fun h14 => ?_) (fun h14 => ?_)
    · refine k_iconst (v := 0) d_R_running_21 (by decide) ?_
      exact k_zret d_R_running_22 rfl (by first | rfl | exact nb_bI _) (by first | rfl | (simp [rRunning, bI] <;> done) | (simp [rRunning, bI, *] <;> done)) (by first | rfl | (simp [rRunning, bI] <;> done) | (simp [rRunning, bI, *] <;> done))
    · refine k_iconst (v := 1) d_R_running_17 (by decide) ?_
      refine k_goto d_R_running_18 ?_
      exact k_zret d_R_running_22 rfl (by first | rfl | exact nb_bI _) (by first | rfl | (simp [rRunning, bI] <;> done) | (simp [rRunning, bI, *] <;> done)) (by first | rfl | (simp [rRunning, bI] <;> done) | (simp [rRunning, bI, *] <;> done))

set_option maxRecDepth 4000 in
theorem c_R_run {l : Launch} {D : va_G} {cI cB cT : ClassId} {ad : Nat → Nat} {d : Nat} {u : kSt} {i : Nat} {o : Int32} (hi : i < 8) : KSp (kWl lyR l D cI cB cT ad) y_R_run m_R_run d [.ref 0, .int (nI i), .int o] u none (rRun u i o) := by
  refine KSp.of (by decide) rfl (Nat.le_of_ble_eq_true rfl) rfl ?_
  show KAt (kWl lyR l D cI cB cT ad) m_R_run d 0 [some (.ref 0), some (.int (nI i)), some (.int o)] [] u none (rRun u i o)
  refine k_aload_n d_R_run_0 rfl ?_
  refine k_getr (t := 13) d_R_run_1 f_R_47 (by decide) rfl (by decide) (by decide) rfl ?_
  refine k_iload_n d_R_run_4 rfl ?_
  refine k_iconst (v := 0) d_R_run_5 (by decide) ?_
  refine k_iastN (n := 8) d_R_run_6 (by decide) rfl rfl (by first | assumption | omega) (by decide) ?_
  refine k_aload_n d_R_run_7 rfl ?_
  refine k_getr (t := 9) d_R_run_8 f_R_35 (by decide) rfl (by decide) (by decide) rfl ?_
  refine k_iload_n d_R_run_11 rfl ?_
  refine k_iload_n d_R_run_12 rfl ?_
  refine k_iastN (n := 8) d_R_run_13 (by decide) rfl rfl (by first | assumption | omega) (by decide) ?_
  exact k_vret d_R_run_14 rfl rfl (by first | rfl | (simp [rRun] <;> done) | (simp [rRun, *] <;> done))

set_option maxRecDepth 4000 in
theorem c_R_linger {l : Launch} {D : va_G} {cI cB cT : ClassId} {ad : Nat → Nat} {d : Nat} {u : kSt} {i : Nat} {a b c : Int32} (hi : i < 8) : KSp (kWl lyR l D cI cB cT ad) y_R_linger m_R_linger d [.ref 0, .int (nI i), .int a, .int b, .int c] u none (rLinger u i a b c) := by
  refine KSp.of (by decide) rfl (Nat.le_of_ble_eq_true rfl) rfl ?_
  show KAt (kWl lyR l D cI cB cT ad) m_R_linger d 0 [some (.ref 0), some (.int (nI i)), some (.int a), some (.int b), some (.int c)] [] u none (rLinger u i a b c)
  refine k_aload_n d_R_linger_0 rfl ?_
  refine k_getr (t := 13) d_R_linger_1 f_R_47 (by decide) rfl (by decide) (by decide) rfl ?_
  refine k_iload_n d_R_linger_4 rfl ?_
  refine k_iload_n d_R_linger_5 rfl ?_
  refine k_iastN (n := 8) d_R_linger_6 (by decide) rfl rfl (by first | assumption | omega) (by decide) ?_
  refine k_aload_n d_R_linger_7 rfl ?_
  refine k_getr (t := 14) d_R_linger_8 f_R_50 (by decide) rfl (by decide) (by decide) rfl ?_
  refine k_iload_n d_R_linger_11 rfl ?_
  refine k_iload_n d_R_linger_12 rfl ?_
  refine k_iastN (n := 8) d_R_linger_13 (by decide) rfl rfl (by first | assumption | omega) (by decide) ?_
  refine k_aload_n d_R_linger_14 rfl ?_
  refine k_getr (t := 15) d_R_linger_15 f_R_53 (by decide) rfl (by decide) (by decide) rfl ?_
  refine k_iload_n d_R_linger_18 rfl ?_
  refine k_iload d_R_linger_19 rfl ?_
  refine k_if_ge d_R_linger_21 (fun h21 => ?_) (fun h21 => ?_)
  · refine k_aload_n d_R_linger_28 rfl ?_
    refine k_getf d_R_linger_29 f_R_91 (by decide) rfl (by decide) (by decide) rfl ?_
    refine k_iload d_R_linger_32 rfl ?_
    refine k_iadd d_R_linger_34 ?_
    refine k_iastN (n := 8) d_R_linger_35 (by decide) rfl rfl (by first | assumption | omega) (by decide) ?_
    refine k_aload_n d_R_linger_36 rfl ?_
    refine k_getr (t := 16) d_R_linger_37 f_R_56 (by decide) rfl (by decide) (by decide) rfl ?_
    refine k_iload_n d_R_linger_40 rfl ?_
    refine k_aload_n d_R_linger_41 rfl ?_
    refine k_getf d_R_linger_42 f_R_95 (by decide) rfl (by decide) (by decide) rfl ?_
    refine k_iastN (n := 8) d_R_linger_45 (by decide) rfl rfl (by first | assumption | omega) (by decide) ?_
    refine k_aload_n d_R_linger_46 rfl ?_
    refine k_dup d_R_linger_47 rfl ?_
    refine k_getf d_R_linger_48 f_R_95 (by decide) rfl (by decide) (by decide) rfl ?_
    refine k_iconst (v := 1) d_R_linger_51 (by decide) ?_
    refine k_iadd d_R_linger_52 ?_
    refine k_putf d_R_linger_53 p_R_95 (by decide) rfl (by decide) (by decide) rfl rfl rfl ?_
    exact k_vret d_R_linger_56 rfl rfl (by simp [rLinger, kup_o, *])
  · refine k_iconst (v := (-1)) d_R_linger_24 (by decide) ?_
    refine k_goto d_R_linger_25 ?_
    refine k_iastN (n := 8) d_R_linger_35 (by decide) rfl rfl (by first | assumption | omega) (by decide) ?_
    refine k_aload_n d_R_linger_36 rfl ?_
    refine k_getr (t := 16) d_R_linger_37 f_R_56 (by decide) rfl (by decide) (by decide) rfl ?_
    refine k_iload_n d_R_linger_40 rfl ?_
    refine k_aload_n d_R_linger_41 rfl ?_
    refine k_getf d_R_linger_42 f_R_95 (by decide) rfl (by decide) (by decide) rfl ?_
    refine k_iastN (n := 8) d_R_linger_45 (by decide) rfl rfl (by first | assumption | omega) (by decide) ?_
    refine k_aload_n d_R_linger_46 rfl ?_
    refine k_dup d_R_linger_47 rfl ?_
    refine k_getf d_R_linger_48 f_R_95 (by decide) rfl (by decide) (by decide) rfl ?_
    refine k_iconst (v := 1) d_R_linger_51 (by decide) ?_
    refine k_iadd d_R_linger_52 ?_
    refine k_putf d_R_linger_53 p_R_95 (by decide) rfl (by decide) (by decide) rfl rfl rfl ?_
    exact k_vret d_R_linger_56 rfl rfl (by simp [rLinger, kup_o, *])

theorem c_R_begin_loop {l : Launch} {D : va_G} {cI cB cT : ClassId} {ad : Nat → Nat} {d : Nat} {u : kSt} {i : Nat} {a b : Int32} (hi : i < 8) : ∀ (n k : Nat) (y : kSt), k + n = 4 → y = rClear (kup (kup (kup u 1 i 1) 2 i a) 3 i b) i k → KAt (kWl lyR l D cI cB cT ad) m_R_begin d 24 [some (.ref 0), some (.int (nI i)), some (.int a), some (.int b), some (.int (nI k))] [] y none (rBegin u i a b) := by
  intro n
  induction n with
  | zero =>
    intro k y hk hy
    subst hy
    obtain rfl : k = 4 := by omega
    refine k_iload d_R_begin_24 rfl ?_
    refine k_iconst (v := 4) d_R_begin_26 (by decide) ?_
    refine k_icmp_ge d_R_begin_27 (fun h27 => ?_) (fun h27 => absurd h27 (fun z => z (by decide)))
    refine k_aload_n d_R_begin_48 rfl ?_
    refine k_getr (t := 5) d_R_begin_49 f_R_23 (by decide) rfl (by decide) (by decide) rfl ?_
    refine k_iload_n d_R_begin_52 rfl ?_
    refine k_iconst (v := (-1)) d_R_begin_53 (by decide) ?_
    refine k_iastN (n := 8) d_R_begin_54 (by decide) rfl rfl (by first | assumption | omega) (by decide) ?_
    refine k_aload_n d_R_begin_55 rfl ?_
    refine k_getr (t := 8) d_R_begin_56 f_R_32 (by decide) rfl (by decide) (by decide) rfl ?_
    refine k_iload_n d_R_begin_59 rfl ?_
    refine k_iconst (v := (-1)) d_R_begin_60 (by decide) ?_
    refine k_iastN (n := 8) d_R_begin_61 (by decide) rfl rfl (by first | assumption | omega) (by decide) ?_
    refine k_aload_n d_R_begin_62 rfl ?_
    refine k_getr (t := 9) d_R_begin_63 f_R_35 (by decide) rfl (by decide) (by decide) rfl ?_
    refine k_iload_n d_R_begin_66 rfl ?_
    refine k_iconst (v := 0) d_R_begin_67 (by decide) ?_
    refine k_iastN (n := 8) d_R_begin_68 (by decide) rfl rfl (by first | assumption | omega) (by decide) ?_
    refine k_aload_n d_R_begin_69 rfl ?_
    refine k_getr (t := 10) d_R_begin_70 f_R_38 (by decide) rfl (by decide) (by decide) rfl ?_
    refine k_iload_n d_R_begin_73 rfl ?_
    refine k_iconst (v := (-1)) d_R_begin_74 (by decide) ?_
    refine k_iastN (n := 8) d_R_begin_75 (by decide) rfl rfl (by first | assumption | omega) (by decide) ?_
    refine k_aload_n d_R_begin_76 rfl ?_
    refine k_getr (t := 11) d_R_begin_77 f_R_41 (by decide) rfl (by decide) (by decide) rfl ?_
    refine k_iload_n d_R_begin_80 rfl ?_
    refine k_iconst (v := 0) d_R_begin_81 (by decide) ?_
    refine k_iastN (n := 8) d_R_begin_82 (by decide) rfl rfl (by first | assumption | omega) (by decide) ?_
    refine k_aload_n d_R_begin_83 rfl ?_
    refine k_getr (t := 12) d_R_begin_84 f_R_44 (by decide) rfl (by decide) (by decide) rfl ?_
    refine k_iload_n d_R_begin_87 rfl ?_
    refine k_iconst (v := 0) d_R_begin_88 (by decide) ?_
    refine k_iastN (n := 8) d_R_begin_89 (by decide) rfl rfl (by first | assumption | omega) (by decide) ?_
    refine k_aload_n d_R_begin_90 rfl ?_
    refine k_getr (t := 13) d_R_begin_91 f_R_47 (by decide) rfl (by decide) (by decide) rfl ?_
    refine k_iload_n d_R_begin_94 rfl ?_
    refine k_iconst (v := 0) d_R_begin_95 (by decide) ?_
    refine k_iastN (n := 8) d_R_begin_96 (by decide) rfl rfl (by first | assumption | omega) (by decide) ?_
    exact k_vret d_R_begin_97 rfl rfl (by simp only [rBegin])
  | succ n ih =>
    intro k y hk hy
    subst hy
    refine k_iload d_R_begin_24 rfl ?_
    refine k_iconst (v := 4) d_R_begin_26 (by decide) ?_
    refine k_icmp_ge d_R_begin_27 (fun h27 => absurd h27 (nI_ge (a := k) (b := 4) (by omega) (by decide))) (fun h27 => ?_)
    refine k_aload_n d_R_begin_30 rfl ?_
    refine k_getr (t := 4) d_R_begin_31 f_R_20 (by decide) rfl (by decide) (by decide) rfl ?_
    refine k_iconst (v := 4) d_R_begin_34 (by decide) ?_
    refine k_iload_n d_R_begin_35 rfl ?_
    refine k_imul d_R_begin_36 ?_
    refine k_iload d_R_begin_37 rfl ?_
    refine k_iadd d_R_begin_39 ?_
    rw [rg_eq hi (by omega)]
    refine k_iconst (v := 0) d_R_begin_40 (by decide) ?_
    refine k_iastN (n := 32) d_R_begin_41 (by decide) rfl rfl (by first | assumption | omega) (by decide) ?_
    refine k_incN d_R_begin_42 rfl (by decide) ?_
    refine k_goto d_R_begin_45 ?_
    exact ih (k + 1) _ (by omega) rfl

set_option maxRecDepth 4000 in
theorem c_R_begin {l : Launch} {D : va_G} {cI cB cT : ClassId} {ad : Nat → Nat} {d : Nat} {u : kSt} {i : Nat} {a b : Int32} (hi : i < 8) : KSp (kWl lyR l D cI cB cT ad) y_R_begin m_R_begin d [.ref 0, .int (nI i), .int a, .int b] u none (rBegin u i a b) := by
  refine KSp.of (by decide) rfl (Nat.le_of_ble_eq_true rfl) rfl ?_
  show KAt (kWl lyR l D cI cB cT ad) m_R_begin d 0 [some (.ref 0), some (.int (nI i)), some (.int a), some (.int b), none] [] u none (rBegin u i a b)
  refine k_aload_n d_R_begin_0 rfl ?_
  refine k_getr (t := 1) d_R_begin_1 f_R_7 (by decide) rfl (by decide) (by decide) rfl ?_
  refine k_iload_n d_R_begin_4 rfl ?_
  refine k_iconst (v := 1) d_R_begin_5 (by decide) ?_
  refine k_bastN (n := 8) d_R_begin_6 (by decide) rfl rfl (by first | assumption | omega) (by decide) rfl ?_
  refine k_aload_n d_R_begin_7 rfl ?_
  refine k_getr (t := 2) d_R_begin_8 f_R_13 (by decide) rfl (by decide) (by decide) rfl ?_
  refine k_iload_n d_R_begin_11 rfl ?_
  refine k_iload_n d_R_begin_12 rfl ?_
  refine k_iastN (n := 8) d_R_begin_13 (by decide) rfl rfl (by first | assumption | omega) (by decide) ?_
  refine k_aload_n d_R_begin_14 rfl ?_
  refine k_getr (t := 3) d_R_begin_15 f_R_17 (by decide) rfl (by decide) (by decide) rfl ?_
  refine k_iload_n d_R_begin_18 rfl ?_
  refine k_iload_n d_R_begin_19 rfl ?_
  refine k_iastN (n := 8) d_R_begin_20 (by decide) rfl rfl (by first | assumption | omega) (by decide) ?_
  refine k_iconst (v := 0) d_R_begin_21 (by decide) ?_
  refine k_istore d_R_begin_22 (by decide) ?_
  exact c_R_begin_loop hi 4 0 _ rfl rfl

theorem c_R_spawn_2 {l : Launch} {D : va_G} {cI cB cT : ClassId} {ad : Nat → Nat} {d : Nat} {u : kSt} {a b e : Int32} (he : e = -1 ∨ vp_in e 8) : KAt (kWl lyR l D cI cB cT ad) m_R_spawn (d + 1) 34 [some (.ref 0), some (.int a), some (.int b), some (.int e), none] [] u (some (.int (rSp2 u a b e).1)) (rSp2 u a b e).2 := by
  refine k_iload_n d_R_spawn_34 rfl ?_
  refine k_if_lt d_R_spawn_35 (fun h35 => ?_) (fun h35 => ?_)
  · refine k_iconst (v := (-1)) d_R_spawn_60 (by decide) ?_
    exact k_iret d_R_spawn_61 rfl (by simp [rSp2, *]) (by simp [rSp2, *])
  · refine k_iload_n d_R_spawn_38 rfl ?_
    refine k_iconst (v := 5) d_R_spawn_39 (by decide) ?_
    refine k_icmp_gt d_R_spawn_40 (fun h40 => ?_) (fun h40 => ?_)
    · refine k_iconst (v := (-1)) d_R_spawn_60 (by decide) ?_
      exact k_iret d_R_spawn_61 rfl (by simp [rSp2, *]) (by simp [rSp2, *])
    · refine k_iload_n d_R_spawn_43 rfl ?_
      refine k_iconst (v := (-1)) d_R_spawn_44 (by decide) ?_
      refine k_icmp_eq d_R_spawn_45 (fun h45 => ?_) (fun h45 => ?_)
      · refine k_iload_n d_R_spawn_56 rfl ?_
        refine k_if_ge d_R_spawn_57 (fun h57 => ?_) (fun h57 => ?_)
        · obtain ⟨j, hj, rfl⟩ := vp_in_of (or_ge' he h57) (by decide)
          have hx := ix_nI (n := j) (by omega)
          refine k_aload_n d_R_spawn_62 rfl ?_
          refine k_iload_n d_R_spawn_63 rfl ?_
          refine k_iload_n d_R_spawn_64 rfl ?_
          refine k_iload_n d_R_spawn_65 rfl ?_
          refine k_virt3v d_R_spawn_66 l_R_83 g_R_begin (c_R_begin hj) rcvR (Nat.le_of_ble_eq_true rfl) ?_
          refine k_iload_n d_R_spawn_69 rfl ?_
          exact k_iret d_R_spawn_70 rfl (by simp [rSp2, *]) (by simp [rSp2, *])
        · refine k_iconst (v := (-1)) d_R_spawn_60 (by decide) ?_
          exact k_iret d_R_spawn_61 rfl (by simp [rSp2, *]) (by simp [rSp2, *])
      · refine k_aload_n d_R_spawn_48 rfl ?_
        refine k_iload_n d_R_spawn_49 rfl ?_
        refine k_virt1s d_R_spawn_50 l_R_87 g_R_thread c_R_thread rcvR (Nat.le_of_ble_eq_true rfl) ?_
        refine k_if_eqB d_R_spawn_53 (fun h53 => ?_) (fun h53 => ?_)
        · refine k_iconst (v := (-1)) d_R_spawn_60 (by decide) ?_
          exact k_iret d_R_spawn_61 rfl (by simp [rSp2, *]) (by simp [rSp2, *])
        · refine k_iload_n d_R_spawn_56 rfl ?_
          refine k_if_ge d_R_spawn_57 (fun h57 => ?_) (fun h57 => ?_)
          · obtain ⟨j, hj, rfl⟩ := vp_in_of (or_ge' he h57) (by decide)
            have hx := ix_nI (n := j) (by omega)
            refine k_aload_n d_R_spawn_62 rfl ?_
            refine k_iload_n d_R_spawn_63 rfl ?_
            refine k_iload_n d_R_spawn_64 rfl ?_
            refine k_iload_n d_R_spawn_65 rfl ?_
            refine k_virt3v d_R_spawn_66 l_R_83 g_R_begin (c_R_begin hj) rcvR (Nat.le_of_ble_eq_true rfl) ?_
            refine k_iload_n d_R_spawn_69 rfl ?_
            exact k_iret d_R_spawn_70 rfl (by simp [rSp2, *]) (by simp [rSp2, *])
          · refine k_iconst (v := (-1)) d_R_spawn_60 (by decide) ?_
            exact k_iret d_R_spawn_61 rfl (by simp [rSp2, *]) (by simp [rSp2, *])
theorem c_R_spawn_loop {l : Launch} {D : va_G} {cI cB cT : ClassId} {ad : Nat → Nat} {d : Nat} {u : kSt} {a b : Int32} {R : Option Value} {X : kSt} (N : Nat) (hN : N = 8) (hE : KAt (kWl lyR l D cI cB cT ad) m_R_spawn (d + 1) 34 [some (.ref 0), some (.int a), some (.int b), some (.int (rFree u N)), none] [] u R X) : ∀ (m j : Nat) (f : Int32), m + j = N → f = rFree u j → KAt (kWl lyR l D cI cB cT ad) m_R_spawn (d + 1) 6 [some (.ref 0), some (.int a), some (.int b), some (.int f), some (.int (nI m + (-1)))] [] u R X := by
  intro m
  induction m with
  | zero =>
    intro j f hj hf
    subst hf
    obtain rfl : j = N := by omega
    refine k_iload d_R_spawn_6 rfl ?_
    refine k_if_lt d_R_spawn_8 (fun h8 => ?_) (fun h8 => absurd h8 (fun z => z (by decide)))
    refine k_forget 4 ?_
    exact hE
  | succ m ih =>
    intro j f hj hf
    subst hf
    have hm : 7 - j = m := by omega
    have h0 := nI_pos (n := m) (by omega)
    rw [pk_m1]
    refine k_iload d_R_spawn_6 rfl ?_
    refine k_if_lt d_R_spawn_8 (fun h8 => absurd h8 h0) (fun h8 => ?_)
    refine k_aload_n d_R_spawn_11 rfl ?_
    refine k_getr (t := 1) d_R_spawn_12 f_R_7 (by decide) rfl (by decide) (by decide) rfl ?_
    refine k_iload d_R_spawn_15 rfl ?_
    refine k_baldN (n := 8) d_R_spawn_17 (by decide) rfl rfl (by first | assumption | omega) (by decide) ?_
    refine k_if_eq d_R_spawn_18 (fun h18 => ?_) (fun h18 => ?_)
    · refine k_iload d_R_spawn_25 rfl ?_
      refine k_istore_n d_R_spawn_27 (by decide) ?_
      refine k_dec1 d_R_spawn_28 rfl (by decide) ?_
      refine k_goto d_R_spawn_31 ?_
      exact ih (j + 1) _ (by omega) (by simp [rFree, *])
    · refine k_iload_n d_R_spawn_21 rfl ?_
      refine k_goto d_R_spawn_22 ?_
      refine k_istore_n d_R_spawn_27 (by decide) ?_
      refine k_dec1 d_R_spawn_28 rfl (by decide) ?_
      refine k_goto d_R_spawn_31 ?_
      exact ih (j + 1) _ (by omega) (by simp [rFree, *])

set_option maxRecDepth 4000 in
theorem c_R_spawn {l : Launch} {D : va_G} {cI cB cT : ClassId} {ad : Nat → Nat} {d : Nat} {u : kSt} {a b : Int32} : KSp (kWl lyR l D cI cB cT ad) y_R_spawn m_R_spawn (d + 1) [.ref 0, .int a, .int b] u (some (.int (rSpawn u a b).1)) (rSpawn u a b).2 := by
  refine KSp.of (by decide) rfl (Nat.le_of_ble_eq_true rfl) rfl ?_
  show KAt (kWl lyR l D cI cB cT ad) m_R_spawn (d + 1) 0 [some (.ref 0), some (.int a), some (.int b), none, none] [] u (some (.int (rSpawn u a b).1)) (rSpawn u a b).2
  refine k_iconst (v := (-1)) d_R_spawn_0 (by decide) ?_
  refine k_istore_n d_R_spawn_1 (by decide) ?_
  refine k_bipush (v := 7) d_R_spawn_2 (by decide) ?_
  refine k_istore d_R_spawn_4 (by decide) ?_
  exact c_R_spawn_loop (a := a) (b := b) 8 rfl (c_R_spawn_2 (rFree_in 8)) 8 0 _ rfl rfl

theorem c_R_delete_2 {l : Launch} {D : va_G} {cI cB cT : ClassId} {ad : Nat → Nat} {d : Nat} {u : kSt} {i : Nat} {t : Int32} {R : Option Value} {X : kSt} (hi : i < 8) (hE : KAt (kWl lyR l D cI cB cT ad) m_R_delete (d + 1) 148 [some (.ref 0), some (.int t), some (.int (nI i)), none] [] (rOut2 u i t) R X) : KAt (kWl lyR l D cI cB cT ad) m_R_delete (d + 1) 94 [some (.ref 0), some (.int t), some (.int (nI i)), none] [] u R X := by
  refine k_aload_n d_R_delete_94 rfl ?_
  refine k_getr (t := 3) d_R_delete_95 f_R_17 (by decide) rfl (by decide) (by decide) rfl ?_
  refine k_iload_n d_R_delete_98 rfl ?_
  refine k_ialdN (n := 8) d_R_delete_99 (by decide) rfl rfl (by first | assumption | omega) (by decide) ?_
  refine k_iload_n d_R_delete_100 rfl ?_
  refine k_icmp_ne d_R_delete_101 (fun h101 => ?_) (fun h101 => ?_)
  · refine cast (congrArg (fun z => KAt (kWl lyR l D cI cB cT ad) m_R_delete (d + 1) 148 _ _ z R X) ?_) hE
    simp [rOut2, kup_o, *] at *
    try simp [*]
  · refine k_aload_n d_R_delete_104 rfl ?_
    refine k_getr (t := 3) d_R_delete_105 f_R_17 (by decide) rfl (by decide) (by decide) rfl ?_
    refine k_iload_n d_R_delete_108 rfl ?_
    refine k_iconst (v := (-1)) d_R_delete_109 (by decide) ?_
    refine k_iastN (n := 8) d_R_delete_110 (by decide) rfl rfl (by first | assumption | omega) (by decide) ?_
    refine k_aload_n d_R_delete_111 rfl ?_
    refine k_getr (t := 13) d_R_delete_112 f_R_47 (by decide) rfl (by decide) (by decide) rfl ?_
    refine k_iload_n d_R_delete_115 rfl ?_
    refine k_aload_n d_R_delete_116 rfl ?_
    refine k_getr (t := 13) d_R_delete_117 f_R_47 (by decide) rfl (by decide) (by decide) rfl ?_
    refine k_iload_n d_R_delete_120 rfl ?_
    refine k_ialdN (n := 8) d_R_delete_121 (by decide) rfl rfl (by first | assumption | omega) (by decide) ?_
    refine k_iconst (v := 4) d_R_delete_122 (by decide) ?_
    refine k_icmp_eq d_R_delete_123 (fun h123 => ?_) (fun h123 => ?_)
    · refine k_bipush (v := 6) d_R_delete_136 (by decide) ?_
      refine k_goto d_R_delete_138 ?_
      refine k_iastN (n := 8) d_R_delete_147 (by decide) rfl rfl (by first | assumption | omega) (by decide) ?_
      refine cast (congrArg (fun z => KAt (kWl lyR l D cI cB cT ad) m_R_delete (d + 1) 148 _ _ z R X) ?_) hE
      simp [rOut2, kup_o, *] at *
      try simp [*]
    · refine k_aload_n d_R_delete_126 rfl ?_
      refine k_getr (t := 13) d_R_delete_127 f_R_47 (by decide) rfl (by decide) (by decide) rfl ?_
      refine k_iload_n d_R_delete_130 rfl ?_
      refine k_ialdN (n := 8) d_R_delete_131 (by decide) rfl rfl (by first | assumption | omega) (by decide) ?_
      refine k_iconst (v := 5) d_R_delete_132 (by decide) ?_
      refine k_icmp_ne d_R_delete_133 (fun h133 => ?_) (fun h133 => ?_)
      · refine k_aload_n d_R_delete_141 rfl ?_
        refine k_getr (t := 13) d_R_delete_142 f_R_47 (by decide) rfl (by decide) (by decide) rfl ?_
        refine k_iload_n d_R_delete_145 rfl ?_
        refine k_ialdN (n := 8) d_R_delete_146 (by decide) rfl rfl (by first | assumption | omega) (by decide) ?_
        refine k_iastN (n := 8) d_R_delete_147 (by decide) rfl rfl (by first | assumption | omega) (by decide) ?_
        refine cast (congrArg (fun z => KAt (kWl lyR l D cI cB cT ad) m_R_delete (d + 1) 148 _ _ z R X) ?_) hE
        simp [rOut2, kup_o, *] at *
        try simp [*]
      · refine k_bipush (v := 6) d_R_delete_136 (by decide) ?_
        refine k_goto d_R_delete_138 ?_
        refine k_iastN (n := 8) d_R_delete_147 (by decide) rfl rfl (by first | assumption | omega) (by decide) ?_
        refine cast (congrArg (fun z => KAt (kWl lyR l D cI cB cT ad) m_R_delete (d + 1) 148 _ _ z R X) ?_) hE
        simp [rOut2, kup_o, *] at *
        try simp [*]

theorem c_R_delete_loop {l : Launch} {D : va_G} {cI cB cT : ClassId} {ad : Nat → Nat} {d : Nat} {u : kSt} {t : Int32} (N : Nat) (hN : N = 8) : ∀ (n k : Nat) (y : kSt), k + n = N → y = rOutAll u t k → KAt (kWl lyR l D cI cB cT ad) m_R_delete (d + 1) 23 [some (.ref 0), some (.int t), some (.int (nI k)), none] [] y (some (.int 1)) (rOutAll u t N) := by
  intro n
  induction n with
  | zero =>
    intro k y hk hy
    subst hy
    obtain rfl : k = N := by omega
    have h0 : ¬ ¬ (8 : Int32) ≤ nI k := by rw [hN]; decide
    refine k_iload_n d_R_delete_23 rfl ?_
    refine k_bipush (v := 8) d_R_delete_24 (by decide) ?_
    refine k_icmp_ge d_R_delete_26 (fun h26 => ?_) (fun h26 => absurd h26 h0)
    refine k_iconst (v := 1) d_R_delete_154 (by decide) ?_
    exact k_zret d_R_delete_155 rfl (by first | rfl | exact nb_bI _) (by first | rfl | (simp [bI] <;> done) | (simp [bI, *] <;> done)) (by first | rfl | (simp [bI] <;> done) | (simp [bI, *] <;> done))
  | succ n ih =>
    intro k y hk hy
    subst hy
    have hk2 : k < 8 := by omega
    have h0 : ¬ (8 : Int32) ≤ nI k := nI_ge (a := k) (b := 8) hk2 (by decide)
    have hE : ∀ y, y = rOutAll u t (k + 1) → KAt (kWl lyR l D cI cB cT ad) m_R_delete (d + 1) 148 [some (.ref 0), some (.int t), some (.int (nI k)), none] [] y (some (.int 1)) (rOutAll u t N) := by
      intro y hy
      refine k_incN d_R_delete_148 rfl (by decide) ?_
      refine k_goto d_R_delete_151 ?_
      exact ih (k + 1) _ (by omega) hy
    refine k_iload_n d_R_delete_23 rfl ?_
    refine k_bipush (v := 8) d_R_delete_24 (by decide) ?_
    refine k_icmp_ge d_R_delete_26 (fun h26 => absurd h26 h0) (fun h26 => ?_)
    refine k_aload_n d_R_delete_29 rfl ?_
    refine k_getr (t := 1) d_R_delete_30 f_R_7 (by decide) rfl (by decide) (by decide) rfl ?_
    refine k_iload_n d_R_delete_33 rfl ?_
    refine k_baldN (n := 8) d_R_delete_34 (by decide) rfl rfl (by first | assumption | omega) (by decide) ?_
    refine k_if_eq d_R_delete_35 (fun h35 => ?_) (fun h35 => ?_)
    · exact hE _ (by simp [rOutAll, rOutlive, *])
    · refine k_aload_n d_R_delete_38 rfl ?_
      refine k_getr (t := 13) d_R_delete_39 f_R_47 (by decide) rfl (by decide) (by decide) rfl ?_
      refine k_iload_n d_R_delete_42 rfl ?_
      refine k_ialdN (n := 8) d_R_delete_43 (by decide) rfl rfl (by first | assumption | omega) (by decide) ?_
      refine k_iconst (v := 1) d_R_delete_44 (by decide) ?_
      refine k_icmp_eq d_R_delete_45 (fun h45 => ?_) (fun h45 => ?_)
      · refine k_aload_n d_R_delete_68 rfl ?_
        refine k_getr (t := 14) d_R_delete_69 f_R_50 (by decide) rfl (by decide) (by decide) rfl ?_
        refine k_iload_n d_R_delete_72 rfl ?_
        refine k_ialdN (n := 8) d_R_delete_73 (by decide) rfl rfl (by first | assumption | omega) (by decide) ?_
        refine k_iload_n d_R_delete_74 rfl ?_
        refine k_icmp_ne d_R_delete_75 (fun h75 => ?_) (fun h75 => ?_)
        · refine k_iconst (v := 0) d_R_delete_82 (by decide) ?_
          refine k_istore_n d_R_delete_83 (by decide) ?_
          refine k_iload_n d_R_delete_84 rfl ?_
          refine k_if_eq d_R_delete_85 (fun _ => ?_) (fun h => absurd h (by decide))
          refine k_forget 3 ?_
          exact c_R_delete_2 hk2 (hE _ (by simp [rOutAll, rOutlive, rOut1, rMeets, *]))
        · refine k_iconst (v := 1) d_R_delete_78 (by decide) ?_
          refine k_goto d_R_delete_79 ?_
          refine k_istore_n d_R_delete_83 (by decide) ?_
          refine k_iload_n d_R_delete_84 rfl ?_
          refine k_if_eq d_R_delete_85 (fun h => absurd h (by decide)) (fun _ => ?_)
          refine k_aload_n d_R_delete_88 rfl ?_
          refine k_iload_n d_R_delete_89 rfl ?_
          refine k_iconst (v := 2) d_R_delete_90 (by decide) ?_
          refine k_virt2v d_R_delete_91 l_R_98 g_R_run (c_R_run hk2) rcvR (Nat.le_of_ble_eq_true rfl) ?_
          refine k_forget 3 ?_
          exact c_R_delete_2 hk2 (hE _ (by simp [rOutAll, rOutlive, rOut1, rMeets, *]))
      · refine k_aload_n d_R_delete_48 rfl ?_
        refine k_getr (t := 13) d_R_delete_49 f_R_47 (by decide) rfl (by decide) (by decide) rfl ?_
        refine k_iload_n d_R_delete_52 rfl ?_
        refine k_ialdN (n := 8) d_R_delete_53 (by decide) rfl rfl (by first | assumption | omega) (by decide) ?_
        refine k_iconst (v := 3) d_R_delete_54 (by decide) ?_
        refine k_icmp_eq d_R_delete_55 (fun h55 => ?_) (fun h55 => ?_)
        · refine k_aload_n d_R_delete_68 rfl ?_
          refine k_getr (t := 14) d_R_delete_69 f_R_50 (by decide) rfl (by decide) (by decide) rfl ?_
          refine k_iload_n d_R_delete_72 rfl ?_
          refine k_ialdN (n := 8) d_R_delete_73 (by decide) rfl rfl (by first | assumption | omega) (by decide) ?_
          refine k_iload_n d_R_delete_74 rfl ?_
          refine k_icmp_ne d_R_delete_75 (fun h75 => ?_) (fun h75 => ?_)
          · refine k_iconst (v := 0) d_R_delete_82 (by decide) ?_
            refine k_istore_n d_R_delete_83 (by decide) ?_
            refine k_iload_n d_R_delete_84 rfl ?_
            refine k_if_eq d_R_delete_85 (fun _ => ?_) (fun h => absurd h (by decide))
            refine k_forget 3 ?_
            exact c_R_delete_2 hk2 (hE _ (by simp [rOutAll, rOutlive, rOut1, rMeets, *]))
          · refine k_iconst (v := 1) d_R_delete_78 (by decide) ?_
            refine k_goto d_R_delete_79 ?_
            refine k_istore_n d_R_delete_83 (by decide) ?_
            refine k_iload_n d_R_delete_84 rfl ?_
            refine k_if_eq d_R_delete_85 (fun h => absurd h (by decide)) (fun _ => ?_)
            refine k_aload_n d_R_delete_88 rfl ?_
            refine k_iload_n d_R_delete_89 rfl ?_
            refine k_iconst (v := 2) d_R_delete_90 (by decide) ?_
            refine k_virt2v d_R_delete_91 l_R_98 g_R_run (c_R_run hk2) rcvR (Nat.le_of_ble_eq_true rfl) ?_
            refine k_forget 3 ?_
            exact c_R_delete_2 hk2 (hE _ (by simp [rOutAll, rOutlive, rOut1, rMeets, *]))
        · refine k_aload_n d_R_delete_58 rfl ?_
          refine k_getr (t := 13) d_R_delete_59 f_R_47 (by decide) rfl (by decide) (by decide) rfl ?_
          refine k_iload_n d_R_delete_62 rfl ?_
          refine k_ialdN (n := 8) d_R_delete_63 (by decide) rfl rfl (by first | assumption | omega) (by decide) ?_
          refine k_iconst (v := 2) d_R_delete_64 (by decide) ?_
          refine k_icmp_ne d_R_delete_65 (fun h65 => ?_) (fun h65 => ?_)
          · refine k_iconst (v := 0) d_R_delete_82 (by decide) ?_
            refine k_istore_n d_R_delete_83 (by decide) ?_
            refine k_iload_n d_R_delete_84 rfl ?_
            refine k_if_eq d_R_delete_85 (fun _ => ?_) (fun h => absurd h (by decide))
            refine k_forget 3 ?_
            exact c_R_delete_2 hk2 (hE _ (by simp [rOutAll, rOutlive, rOut1, rMeets, *]))
          · refine k_aload_n d_R_delete_68 rfl ?_
            refine k_getr (t := 14) d_R_delete_69 f_R_50 (by decide) rfl (by decide) (by decide) rfl ?_
            refine k_iload_n d_R_delete_72 rfl ?_
            refine k_ialdN (n := 8) d_R_delete_73 (by decide) rfl rfl (by first | assumption | omega) (by decide) ?_
            refine k_iload_n d_R_delete_74 rfl ?_
            refine k_icmp_ne d_R_delete_75 (fun h75 => ?_) (fun h75 => ?_)
            · refine k_iconst (v := 0) d_R_delete_82 (by decide) ?_
              refine k_istore_n d_R_delete_83 (by decide) ?_
              refine k_iload_n d_R_delete_84 rfl ?_
              refine k_if_eq d_R_delete_85 (fun _ => ?_) (fun h => absurd h (by decide))
              refine k_forget 3 ?_
              exact c_R_delete_2 hk2 (hE _ (by simp [rOutAll, rOutlive, rOut1, rMeets, *]))
            · refine k_iconst (v := 1) d_R_delete_78 (by decide) ?_
              refine k_goto d_R_delete_79 ?_
              refine k_istore_n d_R_delete_83 (by decide) ?_
              refine k_iload_n d_R_delete_84 rfl ?_
              refine k_if_eq d_R_delete_85 (fun h => absurd h (by decide)) (fun _ => ?_)
              refine k_aload_n d_R_delete_88 rfl ?_
              refine k_iload_n d_R_delete_89 rfl ?_
              refine k_iconst (v := 2) d_R_delete_90 (by decide) ?_
              refine k_virt2v d_R_delete_91 l_R_98 g_R_run (c_R_run hk2) rcvR (Nat.le_of_ble_eq_true rfl) ?_
              refine k_forget 3 ?_
              exact c_R_delete_2 hk2 (hE _ (by simp [rOutAll, rOutlive, rOut1, rMeets, *]))

set_option maxRecDepth 4000 in
theorem c_R_delete {l : Launch} {D : va_G} {cI cB cT : ClassId} {ad : Nat → Nat} {d : Nat} {u : kSt} {t : Int32} : KSp (kWl lyR l D cI cB cT ad) y_R_delete m_R_delete (d + 1) [.ref 0, .int t] u (some (.int (rDelete u t).1)) (rDelete u t).2 := by
  refine KSp.of (by decide) rfl (Nat.le_of_ble_eq_true rfl) rfl ?_
  show KAt (kWl lyR l D cI cB cT ad) m_R_delete (d + 1) 0 [some (.ref 0), some (.int t), none, none] [] u (some (.int (rDelete u t).1)) (rDelete u t).2
  refine k_aload_n d_R_delete_0 rfl ?_
  refine k_iload_n d_R_delete_1 rfl ?_
  refine k_virt1s d_R_delete_2 l_R_87 g_R_thread c_R_thread rcvR (Nat.le_of_ble_eq_true rfl) ?_
  refine k_if_eqB d_R_delete_5 (fun h5 => ?_) (fun h5 => ?_)
  · refine k_iconst (v := 0) d_R_delete_12 (by decide) ?_
    exact k_zret d_R_delete_13 rfl (by first | rfl | exact nb_bI _) (by simp [rDelete, *]) (by simp [rDelete, *])
  · refine k_iload_n d_R_delete_8 rfl ?_
    refine k_if_ne d_R_delete_9 (fun h9 => ?_) (fun h9 => ?_)
    · refine k_aload_n d_R_delete_14 rfl ?_
      refine k_getr (t := 1) d_R_delete_15 f_R_7 (by decide) rfl (by decide) (by decide) rfl ?_
      refine k_iload_n d_R_delete_18 rfl ?_
      refine k_iconst (v := 0) d_R_delete_19 (by decide) ?_
      refine k_bast d_R_delete_20 (by decide) rfl (rThread_in h5) rfl ?_
      refine k_iconst (v := 0) d_R_delete_21 (by decide) ?_
      refine k_istore_n d_R_delete_22 (by decide) ?_
      exact (c_R_delete_loop 8 rfl 8 0 _ rfl rfl).to (by simp [rDelete, *]) (by simp [rDelete, *]; rfl)
    · refine k_iconst (v := 0) d_R_delete_12 (by decide) ?_
      exact k_zret d_R_delete_13 rfl (by first | rfl | exact nb_bI _) (by simp [rDelete, *]) (by simp [rDelete, *])

set_option maxRecDepth 4000 in
theorem c_R_load {l : Launch} {D : va_G} {cI cB cT : ClassId} {ad : Nat → Nat} {d : Nat} {u : kSt} {t k a : Int32} : KSp (kWl lyR l D cI cB cT ad) y_R_load m_R_load (d + 2) [.ref 0, .int t, .int k, .int a] u (some (.int (rLoad u t k a).1)) (rLoad u t k a).2 := by
  refine KSp.of (by decide) rfl (Nat.le_of_ble_eq_true rfl) rfl ?_
  show KAt (kWl lyR l D cI cB cT ad) m_R_load (d + 2) 0 [some (.ref 0), some (.int t), some (.int k), some (.int a)] [] u (some (.int (rLoad u t k a).1)) (rLoad u t k a).2
  refine k_aload_n d_R_load_0 rfl ?_
  refine k_iload_n d_R_load_1 rfl ?_
  refine k_virt1s d_R_load_2 l_R_102 g_R_running c_R_running rcvR (Nat.le_of_ble_eq_true rfl) ?_
  refine k_if_eqB d_R_load_5 (fun h5 => ?_) (fun h5 => ?_)
  · refine k_iconst (v := 0) d_R_load_17 (by decide) ?_
    exact k_zret d_R_load_18 rfl (by first | rfl | exact nb_bI _) (by first | rfl | (simp [rLoad] <;> done) | (simp [rLoad, *] <;> done)) (by first | rfl | (simp [rLoad] <;> done) | (simp [rLoad, *] <;> done))
  · refine k_iload_n d_R_load_8 rfl ?_
    refine k_if_lt d_R_load_9 (fun h9 => ?_) (fun h9 => ?_)
    · refine k_iconst (v := 0) d_R_load_17 (by decide) ?_
      exact k_zret d_R_load_18 rfl (by first | rfl | exact nb_bI _) (by first | rfl | (simp [rLoad] <;> done) | (simp [rLoad, *] <;> done)) (by first | rfl | (simp [rLoad] <;> done) | (simp [rLoad, *] <;> done))
    · refine k_iload_n d_R_load_12 rfl ?_
      refine k_iconst (v := 3) d_R_load_13 (by decide) ?_
      refine k_icmp_le d_R_load_14 (fun h14 => ?_) (fun h14 => ?_)
      · refine k_aload_n d_R_load_19 rfl ?_
        refine k_getr (t := 4) d_R_load_20 f_R_20 (by decide) rfl (by decide) (by decide) rfl ?_
        refine k_iconst (v := 4) d_R_load_23 (by decide) ?_
        refine k_iload_n d_R_load_24 rfl ?_
        refine k_imul d_R_load_25 ?_
        refine k_iload_n d_R_load_26 rfl ?_
        refine k_iadd d_R_load_27 ?_
        refine k_iload_n d_R_load_28 rfl ?_
        refine k_iast d_R_load_29 (by decide) rfl (rg_in (rRunning_in h5) (vin_le (m := 3) h9 (Int32.not_lt.mpr h14))) ?_
        refine k_iconst (v := 1) d_R_load_30 (by decide) ?_
        exact k_zret d_R_load_31 rfl (by first | rfl | exact nb_bI _) (by first | rfl | (simp [rLoad] <;> done) | (simp [rLoad, *] <;> done)) (by first | rfl | (simp [rLoad] <;> done) | (simp [rLoad, *] <;> done))
      · refine k_iconst (v := 0) d_R_load_17 (by decide) ?_
        exact k_zret d_R_load_18 rfl (by first | rfl | exact nb_bI _) (by first | rfl | (simp [rLoad] <;> done) | (simp [rLoad, *] <;> done)) (by first | rfl | (simp [rLoad] <;> done) | (simp [rLoad, *] <;> done))

set_option maxRecDepth 4000 in
theorem c_R_offer {l : Launch} {D : va_G} {cI cB cT : ClassId} {ad : Nat → Nat} {d : Nat} {u : kSt} {t p m g : Int32} (hg : g = 0 ∨ g = 1) : KSp (kWl lyR l D cI cB cT ad) y_R_offer m_R_offer (d + 2) [.ref 0, .int t, .int p, .int m, .int g] u (some (.int (rOfferCall u t p m g).1)) (rOfferCall u t p m g).2 := by
  refine KSp.of (by decide) rfl (Nat.le_of_ble_eq_true rfl) rfl ?_
  show KAt (kWl lyR l D cI cB cT ad) m_R_offer (d + 2) 0 [some (.ref 0), some (.int t), some (.int p), some (.int m), some (.int g)] [] u (some (.int (rOfferCall u t p m g).1)) (rOfferCall u t p m g).2
  refine k_aload_n d_R_offer_0 rfl ?_
  refine k_iload_n d_R_offer_1 rfl ?_
  refine k_virt1s d_R_offer_2 l_R_102 g_R_running c_R_running rcvR (Nat.le_of_ble_eq_true rfl) ?_
  refine k_if_eqB d_R_offer_5 (fun h5 => ?_) (fun h5 => ?_)
  · refine k_iconst (v := 0) d_R_offer_33 (by decide) ?_
    exact k_zret d_R_offer_34 rfl (by first | rfl | exact nb_bI _) (by first | rfl | (simp [rOfferCall] <;> done) | (simp [rOfferCall, *] <;> done)) (by first | rfl | (simp [rOfferCall] <;> done) | (simp [rOfferCall, *] <;> done))
  · refine k_iload_n d_R_offer_8 rfl ?_
    refine k_iconst (v := (-1)) d_R_offer_9 (by decide) ?_
    refine k_icmp_lt d_R_offer_10 (fun h10 => ?_) (fun h10 => ?_)
    · refine k_iconst (v := 0) d_R_offer_33 (by decide) ?_
      exact k_zret d_R_offer_34 rfl (by first | rfl | exact nb_bI _) (by first | rfl | (simp [rOfferCall] <;> done) | (simp [rOfferCall, *] <;> done)) (by first | rfl | (simp [rOfferCall] <;> done) | (simp [rOfferCall, *] <;> done))
    · refine k_iload_n d_R_offer_13 rfl ?_
      refine k_bipush (v := 15) d_R_offer_14 (by decide) ?_
      refine k_icmp_gt d_R_offer_16 (fun h16 => ?_) (fun h16 => ?_)
      · refine k_iconst (v := 0) d_R_offer_33 (by decide) ?_
        exact k_zret d_R_offer_34 rfl (by first | rfl | exact nb_bI _) (by first | rfl | (simp [rOfferCall] <;> done) | (simp [rOfferCall, *] <;> done)) (by first | rfl | (simp [rOfferCall] <;> done) | (simp [rOfferCall, *] <;> done))
      · refine k_iload_n d_R_offer_19 rfl ?_
        refine k_if_lt d_R_offer_20 (fun h20 => ?_) (fun h20 => ?_)
        · refine k_aload_n d_R_offer_35 rfl ?_
          refine k_getr (t := 5) d_R_offer_36 f_R_23 (by decide) rfl (by decide) (by decide) rfl ?_
          refine k_iload_n d_R_offer_39 rfl ?_
          refine k_iload_n d_R_offer_40 rfl ?_
          refine k_iast d_R_offer_41 (by decide) rfl (rRunning_in h5) ?_
          refine k_aload_n d_R_offer_42 rfl ?_
          refine k_getr (t := 6) d_R_offer_43 f_R_26 (by decide) rfl (by decide) (by decide) rfl ?_
          refine k_iload_n d_R_offer_46 rfl ?_
          refine k_iload_n d_R_offer_47 rfl ?_
          refine k_iast d_R_offer_48 (by decide) rfl (rRunning_in h5) ?_
          refine k_aload_n d_R_offer_49 rfl ?_
          refine k_getr (t := 7) d_R_offer_50 f_R_29 (by decide) rfl (by decide) (by decide) rfl ?_
          refine k_iload_n d_R_offer_53 rfl ?_
          refine k_iload d_R_offer_54 rfl ?_
          refine k_bast d_R_offer_56 (by decide) rfl (rRunning_in h5) (by rcases hg with rfl | rfl <;> rfl) ?_
          refine k_iconst (v := 1) d_R_offer_57 (by decide) ?_
          exact k_zret d_R_offer_58 rfl (by first | rfl | exact nb_bI _) (by first | rfl | (simp [rOfferCall] <;> done) | (simp [rOfferCall, *] <;> done)) (by first | rfl | (simp [rOfferCall] <;> done) | (simp [rOfferCall, *] <;> done))
        · refine k_iload_n d_R_offer_23 rfl ?_
          refine k_iconst (v := 1) d_R_offer_24 (by decide) ?_
          refine k_icmp_eq d_R_offer_25 (fun h25 => ?_) (fun h25 => ?_)
          · refine k_aload_n d_R_offer_35 rfl ?_
            refine k_getr (t := 5) d_R_offer_36 f_R_23 (by decide) rfl (by decide) (by decide) rfl ?_
            refine k_iload_n d_R_offer_39 rfl ?_
            refine k_iload_n d_R_offer_40 rfl ?_
            refine k_iast d_R_offer_41 (by decide) rfl (rRunning_in h5) ?_
            refine k_aload_n d_R_offer_42 rfl ?_
            refine k_getr (t := 6) d_R_offer_43 f_R_26 (by decide) rfl (by decide) (by decide) rfl ?_
            refine k_iload_n d_R_offer_46 rfl ?_
            refine k_iload_n d_R_offer_47 rfl ?_
            refine k_iast d_R_offer_48 (by decide) rfl (rRunning_in h5) ?_
            refine k_aload_n d_R_offer_49 rfl ?_
            refine k_getr (t := 7) d_R_offer_50 f_R_29 (by decide) rfl (by decide) (by decide) rfl ?_
            refine k_iload_n d_R_offer_53 rfl ?_
            refine k_iload d_R_offer_54 rfl ?_
            refine k_bast d_R_offer_56 (by decide) rfl (rRunning_in h5) (by rcases hg with rfl | rfl <;> rfl) ?_
            refine k_iconst (v := 1) d_R_offer_57 (by decide) ?_
            exact k_zret d_R_offer_58 rfl (by first | rfl | exact nb_bI _) (by first | rfl | (simp [rOfferCall] <;> done) | (simp [rOfferCall, *] <;> done)) (by first | rfl | (simp [rOfferCall] <;> done) | (simp [rOfferCall, *] <;> done))
          · refine k_iload_n d_R_offer_28 rfl ?_
            refine k_iconst (v := 2) d_R_offer_29 (by decide) ?_
            refine k_icmp_eq d_R_offer_30 (fun h30 => ?_) (fun h30 => ?_)
            · refine k_aload_n d_R_offer_35 rfl ?_
              refine k_getr (t := 5) d_R_offer_36 f_R_23 (by decide) rfl (by decide) (by decide) rfl ?_
              refine k_iload_n d_R_offer_39 rfl ?_
              refine k_iload_n d_R_offer_40 rfl ?_
              refine k_iast d_R_offer_41 (by decide) rfl (rRunning_in h5) ?_
              refine k_aload_n d_R_offer_42 rfl ?_
              refine k_getr (t := 6) d_R_offer_43 f_R_26 (by decide) rfl (by decide) (by decide) rfl ?_
              refine k_iload_n d_R_offer_46 rfl ?_
              refine k_iload_n d_R_offer_47 rfl ?_
              refine k_iast d_R_offer_48 (by decide) rfl (rRunning_in h5) ?_
              refine k_aload_n d_R_offer_49 rfl ?_
              refine k_getr (t := 7) d_R_offer_50 f_R_29 (by decide) rfl (by decide) (by decide) rfl ?_
              refine k_iload_n d_R_offer_53 rfl ?_
              refine k_iload d_R_offer_54 rfl ?_
              refine k_bast d_R_offer_56 (by decide) rfl (rRunning_in h5) (by rcases hg with rfl | rfl <;> rfl) ?_
              refine k_iconst (v := 1) d_R_offer_57 (by decide) ?_
              exact k_zret d_R_offer_58 rfl (by first | rfl | exact nb_bI _) (by first | rfl | (simp [rOfferCall] <;> done) | (simp [rOfferCall, *] <;> done)) (by first | rfl | (simp [rOfferCall] <;> done) | (simp [rOfferCall, *] <;> done))
            · refine k_iconst (v := 0) d_R_offer_33 (by decide) ?_
              exact k_zret d_R_offer_34 rfl (by first | rfl | exact nb_bI _) (by first | rfl | (simp [rOfferCall] <;> done) | (simp [rOfferCall, *] <;> done)) (by first | rfl | (simp [rOfferCall] <;> done) | (simp [rOfferCall, *] <;> done))

set_option maxRecDepth 4000 in
theorem c_R_window {l : Launch} {D : va_G} {cI cB cT : ClassId} {ad : Nat → Nat} {d : Nat} {u : kSt} {t p : Int32} : KSp (kWl lyR l D cI cB cT ad) y_R_window m_R_window (d + 2) [.ref 0, .int t, .int p] u (some (.int (rWindow u t p).1)) (rWindow u t p).2 := by
  refine KSp.of (by decide) rfl (Nat.le_of_ble_eq_true rfl) rfl ?_
  show KAt (kWl lyR l D cI cB cT ad) m_R_window (d + 2) 0 [some (.ref 0), some (.int t), some (.int p)] [] u (some (.int (rWindow u t p).1)) (rWindow u t p).2
  refine k_aload_n d_R_window_0 rfl ?_
  refine k_iload_n d_R_window_1 rfl ?_
  refine k_virt1s d_R_window_2 l_R_102 g_R_running c_R_running rcvR (Nat.le_of_ble_eq_true rfl) ?_
  refine k_if_eqB d_R_window_5 (fun h5 => ?_) (fun h5 => ?_)
  · refine k_iconst (v := 0) d_R_window_19 (by decide) ?_
    exact k_zret d_R_window_20 rfl (by first | rfl | exact nb_bI _) (by first | rfl | (simp [rWindow] <;> done) | (simp [rWindow, *] <;> done)) (by first | rfl | (simp [rWindow] <;> done) | (simp [rWindow, *] <;> done))
  · refine k_iload_n d_R_window_8 rfl ?_
    refine k_iconst (v := (-1)) d_R_window_9 (by decide) ?_
    refine k_icmp_lt d_R_window_10 (fun h10 => ?_) (fun h10 => ?_)
    · refine k_iconst (v := 0) d_R_window_19 (by decide) ?_
      exact k_zret d_R_window_20 rfl (by first | rfl | exact nb_bI _) (by first | rfl | (simp [rWindow] <;> done) | (simp [rWindow, *] <;> done)) (by first | rfl | (simp [rWindow] <;> done) | (simp [rWindow, *] <;> done))
    · refine k_iload_n d_R_window_13 rfl ?_
      refine k_bipush (v := 15) d_R_window_14 (by decide) ?_
      refine k_icmp_le d_R_window_16 (fun h16 => ?_) (fun h16 => ?_)
      · refine k_aload_n d_R_window_21 rfl ?_
        refine k_getr (t := 8) d_R_window_22 f_R_32 (by decide) rfl (by decide) (by decide) rfl ?_
        refine k_iload_n d_R_window_25 rfl ?_
        refine k_iload_n d_R_window_26 rfl ?_
        refine k_iast d_R_window_27 (by decide) rfl (rRunning_in h5) ?_
        refine k_iconst (v := 1) d_R_window_28 (by decide) ?_
        exact k_zret d_R_window_29 rfl (by first | rfl | exact nb_bI _) (by first | rfl | (simp [rWindow] <;> done) | (simp [rWindow, *] <;> done)) (by first | rfl | (simp [rWindow] <;> done) | (simp [rWindow, *] <;> done))
      · refine k_iconst (v := 0) d_R_window_19 (by decide) ?_
        exact k_zret d_R_window_20 rfl (by first | rfl | exact nb_bI _) (by first | rfl | (simp [rWindow] <;> done) | (simp [rWindow, *] <;> done)) (by first | rfl | (simp [rWindow] <;> done) | (simp [rWindow, *] <;> done))

theorem c_R_descends_loop {l : Launch} {D : va_G} {cI cB cT : ClassId} {ad : Nat → Nat} {d : Nat} {u : kSt} {k : Nat} {z : Int32} (hI : rInv u) : ∀ (n p : Nat), n < 100 → p < 96 → KAt (kWl lyR l D cI cB cT ad) m_R_descends d 23 [some (.ref 0), some (.int (nI k)), some (.int z), some (.int (nI p)), some (.int (nI n))] [] u (some (.int (bI (rUp u z n (nI p))))) u := by
  intro n
  induction n with
  | zero =>
    intro p hn hp
    refine k_iload d_R_descends_23 rfl ?_
    refine k_if_le d_R_descends_25 (fun h25 => ?_) (fun h25 => absurd h25 (fun z => z (by decide)))
    refine k_iconst (v := 0) d_R_descends_48 (by decide) ?_
    exact k_zret d_R_descends_49 rfl (by first | rfl | exact nb_bI _) (by first | rfl | (simp [rUp, bI] <;> done) | (simp [rUp, bI, *] <;> done)) (by first | rfl | (simp [rUp, bI] <;> done) | (simp [rUp, bI, *] <;> done))
  | succ n ih =>
    intro p hn hp
    have h0 := nI_nle (n := n + 1) (by omega) (by omega)
    have h2 := ix_nI (n := p) (by omega)
    obtain ⟨w, hw, hw2⟩ := vp_in_of (hI.parent hp) (by decide)
    refine k_iload d_R_descends_23 rfl ?_
    refine k_if_le d_R_descends_25 (fun h25 => absurd h25 h0) (fun h25 => ?_)
    refine k_aload_n d_R_descends_28 rfl ?_
    refine k_getr (t := 23) d_R_descends_29 f_R_77 (by decide) rfl (by decide) (by decide) rfl ?_
    refine k_iload_n d_R_descends_32 rfl ?_
    refine k_ialdN (n := 96) d_R_descends_33 (by decide) rfl rfl (by first | assumption | omega) (by decide) ?_
    refine k_istore_n d_R_descends_34 (by decide) ?_
    refine k_iload_n d_R_descends_35 rfl ?_
    refine k_iload_n d_R_descends_36 rfl ?_
    refine k_icmp_ne d_R_descends_37 (fun h37 => ?_) (fun h37 => ?_)
    · rw [hw2]
      refine k_decN d_R_descends_42 rfl (by decide) ?_
      refine k_goto d_R_descends_45 ?_
      exact (ih w (by omega) hw).to (by simp [rUp, *] at *; simp [*]) rfl
    · refine k_iconst (v := 1) d_R_descends_40 (by decide) ?_
      exact k_zret d_R_descends_41 rfl (by first | rfl | exact nb_bI _) (by simp [rUp, bI, h2, h37]) rfl

set_option maxRecDepth 4000 in
theorem c_R_descends {l : Launch} {D : va_G} {cI cB cT : ClassId} {ad : Nat → Nat} {d : Nat} {u : kSt} {k : Nat} {z : Int32} (hk : k < 96) (hI : rInv u) : KSp (kWl lyR l D cI cB cT ad) y_R_descends m_R_descends d [.ref 0, .int (nI k), .int z] u (some (.int (bI (rDesc u k z)))) u := by
  refine KSp.of (by decide) rfl (Nat.le_of_ble_eq_true rfl) rfl ?_
  show KAt (kWl lyR l D cI cB cT ad) m_R_descends d 0 [some (.ref 0), some (.int (nI k)), some (.int z), none, none] [] u (some (.int (bI (rDesc u k z)))) u
  refine k_iload_n d_R_descends_0 rfl ?_
  refine k_istore_n d_R_descends_1 (by decide) ?_
  refine k_aload_n d_R_descends_2 rfl ?_
  refine k_getr (t := 20) d_R_descends_3 f_R_68 (by decide) rfl (by decide) (by decide) rfl ?_
  refine k_iload_n d_R_descends_6 rfl ?_
  refine k_ialdN (n := 96) d_R_descends_7 (by decide) rfl rfl (by first | assumption | omega) (by decide) ?_
  refine k_if_ge d_R_descends_8 (fun h8 => ?_) (fun h8 => ?_)
  · refine k_aload_n d_R_descends_15 rfl ?_
    refine k_getr (t := 22) d_R_descends_16 f_R_74 (by decide) rfl (by decide) (by decide) rfl ?_
    refine k_iload_n d_R_descends_19 rfl ?_
    refine k_ialdN (n := 96) d_R_descends_20 (by decide) rfl rfl (by first | assumption | omega) (by decide) ?_
    refine k_istore d_R_descends_21 (by decide) ?_
    obtain ⟨e, he, he2⟩ := vp_in_of (hI.depth hk) (by decide)
    have h2 := ix_nI (n := e) (by omega)
    first
      | (rw [he2]; exact (c_R_descends_loop hI e k (by omega) hk).to (by simp [rDesc, *]) rfl)
      | exact (c_R_descends_loop hI 0 k (by omega) hk).to (by simp [rDesc, ix0, *]) rfl
  · refine k_iconst (v := 0) d_R_descends_11 (by decide) ?_
    refine k_goto d_R_descends_12 ?_
    refine k_istore d_R_descends_21 (by decide) ?_
    obtain ⟨e, he, he2⟩ := vp_in_of (hI.depth hk) (by decide)
    have h2 := ix_nI (n := e) (by omega)
    first
      | (rw [he2]; exact (c_R_descends_loop hI e k (by omega) hk).to (by simp [rDesc, *]) rfl)
      | exact (c_R_descends_loop hI 0 k (by omega) hk).to (by simp [rDesc, ix0, *]) rfl

theorem c_R_descendants_loop {l : Launch} {D : va_G} {cI cB cT : ClassId} {ad : Nat → Nat} {d : Nat} {u : kSt} {z : Int32} (hI : rInv u) (N : Nat) (hN : N = 96) : ∀ (n k : Nat) (a : Int32), k + n = N → a = rCount u z k → KAt (kWl lyR l D cI cB cT ad) m_R_descendants (d + 1) 4 [some (.ref 0), some (.int z), some (.int a), some (.int (nI k))] [] u (some (.int (rCount u z N))) u := by
  intro n
  induction n with
  | zero =>
    intro k a hk ha
    subst ha
    obtain rfl : k = N := by omega
    have h0 : ¬ ¬ (96 : Int32) ≤ nI k := by rw [hN]; decide
    refine k_iload_n d_R_descendants_4 rfl ?_
    refine k_bipush (v := 96) d_R_descendants_5 (by decide) ?_
    refine k_icmp_ge d_R_descendants_7 (fun h7 => ?_) (fun h7 => absurd h7 h0)
    refine k_iload_n d_R_descendants_33 rfl ?_
    exact k_iret d_R_descendants_34 rfl (by first | rfl | (simp [bI] <;> done) | (simp [bI, *] <;> done)) (by first | rfl | (simp [bI] <;> done) | (simp [bI, *] <;> done))
  | succ n ih =>
    intro k a hk ha
    subst ha
    have hk2 : k < 96 := by omega
    have h0 : ¬ (96 : Int32) ≤ nI k := nI_ge (a := k) (b := 96) hk2 (by decide)
    refine k_iload_n d_R_descendants_4 rfl ?_
    refine k_bipush (v := 96) d_R_descendants_5 (by decide) ?_
    refine k_icmp_ge d_R_descendants_7 (fun h7 => absurd h7 h0) (fun h7 => ?_)
    refine k_iload_n d_R_descendants_10 rfl ?_
    refine k_aload_n d_R_descendants_11 rfl ?_
    refine k_iload_n d_R_descendants_12 rfl ?_
    refine k_iload_n d_R_descendants_13 rfl ?_
    refine k_virt2s d_R_descendants_14 l_R_105 g_R_descends (c_R_descends hk2 hI) rcvR (Nat.le_of_ble_eq_true rfl) ?_
    refine k_if_eqB d_R_descendants_17 (fun h17 => ?_) (fun h17 => ?_)
    · refine k_iconst (v := 0) d_R_descendants_24 (by decide) ?_
      refine k_iadd d_R_descendants_25 ?_
      refine k_istore_n d_R_descendants_26 (by decide) ?_
      refine k_incN d_R_descendants_27 rfl (by decide) ?_
      refine k_goto d_R_descendants_30 ?_
      exact ih (k + 1) _ (by omega) (by simp [rCount, *])
    · refine k_iconst (v := 1) d_R_descendants_20 (by decide) ?_
      refine k_goto d_R_descendants_21 ?_
      refine k_iadd d_R_descendants_25 ?_
      refine k_istore_n d_R_descendants_26 (by decide) ?_
      refine k_incN d_R_descendants_27 rfl (by decide) ?_
      refine k_goto d_R_descendants_30 ?_
      exact ih (k + 1) _ (by omega) (by simp [rCount, *])

set_option maxRecDepth 4000 in
theorem c_R_descendants {l : Launch} {D : va_G} {cI cB cT : ClassId} {ad : Nat → Nat} {d : Nat} {u : kSt} {z : Int32} (hI : rInv u) : KSp (kWl lyR l D cI cB cT ad) y_R_descendants m_R_descendants (d + 1) [.ref 0, .int z] u (some (.int (rCount u z 96))) u := by
  refine KSp.of (by decide) rfl (Nat.le_of_ble_eq_true rfl) rfl ?_
  show KAt (kWl lyR l D cI cB cT ad) m_R_descendants (d + 1) 0 [some (.ref 0), some (.int z), none, none] [] u (some (.int (rCount u z 96))) u
  refine k_iconst (v := 0) d_R_descendants_0 (by decide) ?_
  refine k_istore_n d_R_descendants_1 (by decide) ?_
  refine k_iconst (v := 0) d_R_descendants_2 (by decide) ?_
  refine k_istore_n d_R_descendants_3 (by decide) ?_
  exact c_R_descendants_loop hI 96 rfl 96 0 _ rfl rfl

theorem c_R_removeBelow_in {l : Launch} {D : va_G} {cI cB cT : ClassId} {ad : Nat → Nat} {d : Nat} {u : kSt} {z a0 : Int32} {e : Nat} {R : Option Value} {X : kSt} (hI : rInv u) (N : Nat) (hN : N = 96) (hE : KAt (kWl lyR l D cI cB cT ad) m_R_removeBelow (d + 1) 67 [some (.ref 0), some (.int z), some (.int (rRem1N u z (nI e) a0 N)), some (.int (nI e)), none] [] (rRem1 u z (nI e) N) R X) : ∀ (n k : Nat) (a : Int32) (y : kSt), k + n = N → a = rRem1N u z (nI e) a0 k → y = rRem1 u z (nI e) k → KAt (kWl lyR l D cI cB cT ad) m_R_removeBelow (d + 1) 12 [some (.ref 0), some (.int z), some (.int a), some (.int (nI e)), some (.int (nI k))] [] y R X := by
  intro n
  induction n with
  | zero =>
    intro k a y hk ha hy
    subst ha
    subst hy
    obtain rfl : k = N := by omega
    have h0 : ¬ ¬ (96 : Int32) ≤ nI k := by rw [hN]; decide
    refine k_iload d_R_removeBelow_12 rfl ?_
    refine k_bipush (v := 96) d_R_removeBelow_14 (by decide) ?_
    refine k_icmp_ge d_R_removeBelow_16 (fun h16 => ?_) (fun h16 => absurd h16 h0)
    refine k_forget 4 ?_
    exact hE
  | succ n ih =>
    intro k a y hk ha hy
    subst ha
    subst hy
    have hk2 : k < 96 := by omega
    have h0 : ¬ (96 : Int32) ≤ nI k := nI_ge (a := k) (b := 96) hk2 (by decide)
    refine k_iload d_R_removeBelow_12 rfl ?_
    refine k_bipush (v := 96) d_R_removeBelow_14 (by decide) ?_
    refine k_icmp_ge d_R_removeBelow_16 (fun h16 => absurd h16 h0) (fun h16 => ?_)
    refine k_aload_n d_R_removeBelow_19 rfl ?_
    refine k_getr (t := 20) d_R_removeBelow_20 f_R_68 (by decide) rfl (by decide) (by decide) rfl ?_
    refine k_iload d_R_removeBelow_23 rfl ?_
    refine k_ialdN (n := 96) d_R_removeBelow_25 (by decide) rfl rfl (by first | assumption | omega) (by decide) ?_
    refine k_if_lt d_R_removeBelow_26 (fun h26 => ?_) (fun h26 => ?_)
    · refine k_incN d_R_removeBelow_61 rfl (by decide) ?_
      refine k_goto d_R_removeBelow_64 ?_
      exact ih (k + 1) _ _ (by omega) (by simp [rRem1N, rHit, *]) (by simp [rRem1, rHit, *])
    · refine k_aload_n d_R_removeBelow_29 rfl ?_
      refine k_getr (t := 22) d_R_removeBelow_30 f_R_74 (by decide) rfl (by decide) (by decide) rfl ?_
      refine k_iload d_R_removeBelow_33 rfl ?_
      refine k_ialdN (n := 96) d_R_removeBelow_35 (by decide) rfl rfl (by first | assumption | omega) (by decide) ?_
      refine k_iload_n d_R_removeBelow_36 rfl ?_
      refine k_icmp_ne d_R_removeBelow_37 (fun h37 => ?_) (fun h37 => ?_)
      · refine k_incN d_R_removeBelow_61 rfl (by decide) ?_
        refine k_goto d_R_removeBelow_64 ?_
        exact ih (k + 1) _ _ (by omega) (by simp [rRem1N, rHit, *]) (by simp [rRem1, rHit, *])
      · refine k_aload_n d_R_removeBelow_40 rfl ?_
        refine k_iload d_R_removeBelow_41 rfl ?_
        refine k_iload_n d_R_removeBelow_43 rfl ?_
        refine k_virt2s d_R_removeBelow_44 l_R_105 g_R_descends (c_R_descends hk2 (hI.rem1 k)) rcvR (Nat.le_of_ble_eq_true rfl) ?_
        refine k_if_eqB d_R_removeBelow_47 (fun h47 => ?_) (fun h47 => ?_)
        · refine k_incN d_R_removeBelow_61 rfl (by decide) ?_
          refine k_goto d_R_removeBelow_64 ?_
          exact ih (k + 1) _ _ (by omega) (by simp [rRem1N, rHit, *]) (by simp [rRem1, rHit, *])
        · refine k_aload_n d_R_removeBelow_50 rfl ?_
          refine k_getr (t := 20) d_R_removeBelow_51 f_R_68 (by decide) rfl (by decide) (by decide) rfl ?_
          refine k_iload d_R_removeBelow_54 rfl ?_
          refine k_iconst (v := (-1)) d_R_removeBelow_56 (by decide) ?_
          refine k_iastN (n := 96) d_R_removeBelow_57 (by decide) rfl rfl (by first | assumption | omega) (by decide) ?_
          refine k_inc1 d_R_removeBelow_58 rfl (by decide) ?_
          refine k_incN d_R_removeBelow_61 rfl (by decide) ?_
          refine k_goto d_R_removeBelow_64 ?_
          exact ih (k + 1) _ _ (by omega) (by simp [rRem1N, rHit, *]) (by simp [rRem1, rHit, *])
theorem c_R_removeBelow_out {l : Launch} {D : va_G} {cI cB cT : ClassId} {ad : Nat → Nat} {d : Nat} {u : kSt} {z : Int32} : ∀ (e : Nat) (a : Int32) (y : kSt), e < 100 → rInv y → KAt (kWl lyR l D cI cB cT ad) m_R_removeBelow (d + 1) 5 [some (.ref 0), some (.int z), some (.int a), some (.int (nI e)), none] [] y (some (.int (rRemN y z a 96 e))) (rRem y z 96 e) := by
  intro e
  induction e with
  | zero =>
    intro a y he hI
    refine k_iload_n d_R_removeBelow_5 rfl ?_
    refine k_if_le d_R_removeBelow_6 (fun h6 => ?_) (fun h6 => absurd h6 (fun z => z (by decide)))
    refine k_iload_n d_R_removeBelow_73 rfl ?_
    exact k_iret d_R_removeBelow_74 rfl (by simp only [rRemN]) (by simp only [rRem])
  | succ e ih =>
    intro a y he hI
    have h0 := nI_nle (n := e + 1) (by omega) (by omega)
    have hE : KAt (kWl lyR l D cI cB cT ad) m_R_removeBelow (d + 1) 67 [some (.ref 0), some (.int z), some (.int (rRem1N y z (nI (e + 1)) a 96)), some (.int (nI (e + 1))), none] [] (rRem1 y z (nI (e + 1)) 96) (some (.int (rRemN y z a 96 (e + 1)))) (rRem y z 96 (e + 1)) := by
      refine k_decN d_R_removeBelow_67 rfl (by decide) ?_
      refine k_goto d_R_removeBelow_70 ?_
      exact (ih _ _ (by omega) (hI.rem1 96)).to (by simp only [rRemN]) (by simp only [rRem])
    refine k_iload_n d_R_removeBelow_5 rfl ?_
    refine k_if_le d_R_removeBelow_6 (fun h6 => absurd h6 h0) (fun h6 => ?_)
    refine k_iconst (v := 0) d_R_removeBelow_9 (by decide) ?_
    refine k_istore d_R_removeBelow_10 (by decide) ?_
    exact c_R_removeBelow_in hI 96 rfl hE 96 0 _ _ rfl rfl rfl

set_option maxRecDepth 4000 in
theorem c_R_removeBelow {l : Launch} {D : va_G} {cI cB cT : ClassId} {ad : Nat → Nat} {d : Nat} {u : kSt} {z : Int32} (hI : rInv u) : KSp (kWl lyR l D cI cB cT ad) y_R_removeBelow m_R_removeBelow (d + 1) [.ref 0, .int z] u (some (.int (rRemN u z 0 96 12))) (rRem u z 96 12) := by
  refine KSp.of (by decide) rfl (Nat.le_of_ble_eq_true rfl) rfl ?_
  show KAt (kWl lyR l D cI cB cT ad) m_R_removeBelow (d + 1) 0 [some (.ref 0), some (.int z), none, none, none] [] u (some (.int (rRemN u z 0 96 12))) (rRem u z 96 12)
  refine k_iconst (v := 0) d_R_removeBelow_0 (by decide) ?_
  refine k_istore_n d_R_removeBelow_1 (by decide) ?_
  refine k_bipush (v := 12) d_R_removeBelow_2 (by decide) ?_
  refine k_istore_n d_R_removeBelow_4 (by decide) ?_
  exact c_R_removeBelow_out (u := u) 12 0 u (by decide) hI

theorem c_R_move_loop {l : Launch} {D : va_G} {cI cB cT : ClassId} {ad : Nat → Nat} {d : Nat} {u : kSt} {s t : Nat} (hs : s < 96) (ht : t < 96) (N : Nat) (hN : N = 96) : ∀ (n k : Nat) (y : kSt), k + n = N → y = rAdopt u (nI s) (nI t) k → KAt (kWl lyR l D cI cB cT ad) m_R_move d 57 [some (.ref 0), some (.int (nI s)), some (.int (nI t)), some (.int (nI k))] [] y none (rAdopt u (nI s) (nI t) N) := by
  intro n
  induction n with
  | zero =>
    intro k y hk hy
    subst hy
    obtain rfl : k = N := by omega
    have h0 : ¬ ¬ (96 : Int32) ≤ nI k := by rw [hN]; decide
    refine k_iload_n d_R_move_57 rfl ?_
    refine k_bipush (v := 96) d_R_move_58 (by decide) ?_
    refine k_icmp_ge d_R_move_60 (fun h60 => ?_) (fun h60 => absurd h60 h0)
    exact k_vret d_R_move_104 rfl rfl (by first | rfl | (simp [bI] <;> done) | (simp [bI, *] <;> done))
  | succ n ih =>
    intro k y hk hy
    subst hy
    have hk2 : k < 96 := by omega
    have h0 : ¬ (96 : Int32) ≤ nI k := nI_ge (a := k) (b := 96) hk2 (by decide)
    refine k_iload_n d_R_move_57 rfl ?_
    refine k_bipush (v := 96) d_R_move_58 (by decide) ?_
    refine k_icmp_ge d_R_move_60 (fun h60 => absurd h60 h0) (fun h60 => ?_)
    refine k_aload_n d_R_move_63 rfl ?_
    refine k_getr (t := 20) d_R_move_64 f_R_68 (by decide) rfl (by decide) (by decide) rfl ?_
    refine k_iload_n d_R_move_67 rfl ?_
    refine k_ialdN (n := 96) d_R_move_68 (by decide) rfl rfl (by first | assumption | omega) (by decide) ?_
    refine k_if_lt d_R_move_69 (fun h69 => ?_) (fun h69 => ?_)
    · refine k_incN d_R_move_98 rfl (by decide) ?_
      refine k_goto d_R_move_101 ?_
      exact ih (k + 1) _ (by omega) (by simp [rAdopt, rBelow, *])
    · refine k_aload_n d_R_move_72 rfl ?_
      refine k_getr (t := 22) d_R_move_73 f_R_74 (by decide) rfl (by decide) (by decide) rfl ?_
      refine k_iload_n d_R_move_76 rfl ?_
      refine k_ialdN (n := 96) d_R_move_77 (by decide) rfl rfl (by first | assumption | omega) (by decide) ?_
      refine k_if_le d_R_move_78 (fun h78 => ?_) (fun h78 => ?_)
      · refine k_incN d_R_move_98 rfl (by decide) ?_
        refine k_goto d_R_move_101 ?_
        exact ih (k + 1) _ (by omega) (by simp [rAdopt, rBelow, *])
      · refine k_aload_n d_R_move_81 rfl ?_
        refine k_getr (t := 23) d_R_move_82 f_R_77 (by decide) rfl (by decide) (by decide) rfl ?_
        refine k_iload_n d_R_move_85 rfl ?_
        refine k_ialdN (n := 96) d_R_move_86 (by decide) rfl rfl (by first | assumption | omega) (by decide) ?_
        refine k_iload_n d_R_move_87 rfl ?_
        refine k_icmp_ne d_R_move_88 (fun h88 => ?_) (fun h88 => ?_)
        · refine k_incN d_R_move_98 rfl (by decide) ?_
          refine k_goto d_R_move_101 ?_
          exact ih (k + 1) _ (by omega) (by simp [rAdopt, rBelow, *])
        · refine k_aload_n d_R_move_91 rfl ?_
          refine k_getr (t := 23) d_R_move_92 f_R_77 (by decide) rfl (by decide) (by decide) rfl ?_
          refine k_iload_n d_R_move_95 rfl ?_
          refine k_iload_n d_R_move_96 rfl ?_
          refine k_iastN (n := 96) d_R_move_97 (by decide) rfl rfl (by first | assumption | omega) (by decide) ?_
          refine k_incN d_R_move_98 rfl (by decide) ?_
          refine k_goto d_R_move_101 ?_
          exact ih (k + 1) _ (by omega) (by simp [rAdopt, rBelow, *])

set_option maxRecDepth 4000 in
theorem c_R_move {l : Launch} {D : va_G} {cI cB cT : ClassId} {ad : Nat → Nat} {d : Nat} {u : kSt} {s t : Nat} (hs : s < 96) (ht : t < 96) : KSp (kWl lyR l D cI cB cT ad) y_R_move m_R_move d [.ref 0, .int (nI s), .int (nI t)] u none (rMove u s t) := by
  refine KSp.of (by decide) rfl (Nat.le_of_ble_eq_true rfl) rfl ?_
  show KAt (kWl lyR l D cI cB cT ad) m_R_move d 0 [some (.ref 0), some (.int (nI s)), some (.int (nI t)), none] [] u none (rMove u s t)
  refine k_aload_n d_R_move_0 rfl ?_
  refine k_getr (t := 20) d_R_move_1 f_R_68 (by decide) rfl (by decide) (by decide) rfl ?_
  refine k_iload_n d_R_move_4 rfl ?_
  refine k_aload_n d_R_move_5 rfl ?_
  refine k_getr (t := 20) d_R_move_6 f_R_68 (by decide) rfl (by decide) (by decide) rfl ?_
  refine k_iload_n d_R_move_9 rfl ?_
  refine k_ialdN (n := 96) d_R_move_10 (by decide) rfl rfl (by first | assumption | omega) (by decide) ?_
  refine k_iastN (n := 96) d_R_move_11 (by decide) rfl rfl (by first | assumption | omega) (by decide) ?_
  refine k_aload_n d_R_move_12 rfl ?_
  refine k_getr (t := 21) d_R_move_13 f_R_71 (by decide) rfl (by decide) (by decide) rfl ?_
  refine k_iload_n d_R_move_16 rfl ?_
  refine k_aload_n d_R_move_17 rfl ?_
  refine k_getr (t := 21) d_R_move_18 f_R_71 (by decide) rfl (by decide) (by decide) rfl ?_
  refine k_iload_n d_R_move_21 rfl ?_
  refine k_ialdN (n := 96) d_R_move_22 (by decide) rfl rfl (by first | assumption | omega) (by decide) ?_
  refine k_iastN (n := 96) d_R_move_23 (by decide) rfl rfl (by first | assumption | omega) (by decide) ?_
  refine k_aload_n d_R_move_24 rfl ?_
  refine k_getr (t := 22) d_R_move_25 f_R_74 (by decide) rfl (by decide) (by decide) rfl ?_
  refine k_iload_n d_R_move_28 rfl ?_
  refine k_aload_n d_R_move_29 rfl ?_
  refine k_getr (t := 22) d_R_move_30 f_R_74 (by decide) rfl (by decide) (by decide) rfl ?_
  refine k_iload_n d_R_move_33 rfl ?_
  refine k_ialdN (n := 96) d_R_move_34 (by decide) rfl rfl (by first | assumption | omega) (by decide) ?_
  refine k_iastN (n := 96) d_R_move_35 (by decide) rfl rfl (by first | assumption | omega) (by decide) ?_
  refine k_aload_n d_R_move_36 rfl ?_
  refine k_getr (t := 23) d_R_move_37 f_R_77 (by decide) rfl (by decide) (by decide) rfl ?_
  refine k_iload_n d_R_move_40 rfl ?_
  refine k_aload_n d_R_move_41 rfl ?_
  refine k_getr (t := 23) d_R_move_42 f_R_77 (by decide) rfl (by decide) (by decide) rfl ?_
  refine k_iload_n d_R_move_45 rfl ?_
  refine k_ialdN (n := 96) d_R_move_46 (by decide) rfl rfl (by first | assumption | omega) (by decide) ?_
  refine k_iastN (n := 96) d_R_move_47 (by decide) rfl rfl (by first | assumption | omega) (by decide) ?_
  refine k_aload_n d_R_move_48 rfl ?_
  refine k_getr (t := 20) d_R_move_49 f_R_68 (by decide) rfl (by decide) (by decide) rfl ?_
  refine k_iload_n d_R_move_52 rfl ?_
  refine k_iconst (v := (-1)) d_R_move_53 (by decide) ?_
  refine k_iastN (n := 96) d_R_move_54 (by decide) rfl rfl (by first | assumption | omega) (by decide) ?_
  refine k_iconst (v := 0) d_R_move_55 (by decide) ?_
  refine k_istore_n d_R_move_56 (by decide) ?_
  exact (c_R_move_loop (u := kup (kup (kup (kup (kup u 20 t (u 20 s)) 21 t (u 21 s)) 22 t (u 22 s)) 23 t (u 23 s)) 20 s (-1)) hs ht 96 rfl 96 0 _ rfl (by simp [rAdopt, kup_o])).to rfl (by simp only [rMove])

theorem c_R_handOn_2 {l : Launch} {D : va_G} {cI cB cT : ClassId} {ad : Nat → Nat} {d : Nat} {u : kSt} {i s t : Nat} (hi : i < 8) (hs : s < 96) (ht : t < 96) : KAt (kWl lyR l D cI cB cT ad) m_R_handOn (d + 2) 37 [some (.ref 0), some (.int (nI i)), some (.int (nI s)), some (.int (nI t))] [] u none (rHand2 u i s t) := by
  refine k_aload_n d_R_handOn_37 rfl ?_
  refine k_getr (t := 20) d_R_handOn_38 f_R_68 (by decide) rfl (by decide) (by decide) rfl ?_
  refine k_iload_n d_R_handOn_41 rfl ?_
  refine k_ialdN (n := 96) d_R_handOn_42 (by decide) rfl rfl (by first | assumption | omega) (by decide) ?_
  refine k_if_ge d_R_handOn_43 (fun h43 => ?_) (fun h43 => ?_)
  · refine k_aload_n d_R_handOn_47 rfl ?_
    refine k_getr (t := 7) d_R_handOn_48 f_R_29 (by decide) rfl (by decide) (by decide) rfl ?_
    refine k_iload_n d_R_handOn_51 rfl ?_
    refine k_baldN (n := 8) d_R_handOn_52 (by decide) rfl rfl (by first | assumption | omega) (by decide) ?_
    refine k_if_eq d_R_handOn_53 (fun h53 => ?_) (fun h53 => ?_)
    · refine k_aload_n d_R_handOn_65 rfl ?_
      refine k_getr (t := 22) d_R_handOn_66 f_R_74 (by decide) rfl (by decide) (by decide) rfl ?_
      refine k_iload_n d_R_handOn_69 rfl ?_
      refine k_ialdN (n := 96) d_R_handOn_70 (by decide) rfl rfl (by first | assumption | omega) (by decide) ?_
      refine k_bipush (v := 12) d_R_handOn_71 (by decide) ?_
      refine k_icmp_ge d_R_handOn_73 (fun h73 => ?_) (fun h73 => ?_)
      · exact k_vret d_R_handOn_145 rfl rfl (by first | (rw [rHand2, if_pos h43, if_neg h53]) | (rw [rHand2, if_pos h43, if_pos h53, if_pos h73]) | (rw [rHand2, if_pos h43, if_pos h53, if_neg h73, rDerive]; have h := h105; simp only [kup_o (show (21 : Nat) ≠ 20 by decide), kup_o (show (6 : Nat) ≠ 20 by decide)] at h; first | rw [if_pos h] | rw [if_neg h]) <;> simp [kup_o])
      · refine k_aload_n d_R_handOn_76 rfl ?_
        refine k_getr (t := 20) d_R_handOn_77 f_R_68 (by decide) rfl (by decide) (by decide) rfl ?_
        refine k_iload_n d_R_handOn_80 rfl ?_
        refine k_aload_n d_R_handOn_81 rfl ?_
        refine k_getr (t := 20) d_R_handOn_82 f_R_68 (by decide) rfl (by decide) (by decide) rfl ?_
        refine k_iload_n d_R_handOn_85 rfl ?_
        refine k_ialdN (n := 96) d_R_handOn_86 (by decide) rfl rfl (by first | assumption | omega) (by decide) ?_
        refine k_iastN (n := 96) d_R_handOn_87 (by decide) rfl rfl (by first | assumption | omega) (by decide) ?_
        refine k_aload_n d_R_handOn_88 rfl ?_
        refine k_getr (t := 21) d_R_handOn_89 f_R_71 (by decide) rfl (by decide) (by decide) rfl ?_
        refine k_iload_n d_R_handOn_92 rfl ?_
        refine k_aload_n d_R_handOn_93 rfl ?_
        refine k_getr (t := 6) d_R_handOn_94 f_R_26 (by decide) rfl (by decide) (by decide) rfl ?_
        refine k_iload_n d_R_handOn_97 rfl ?_
        refine k_ialdN (n := 8) d_R_handOn_98 (by decide) rfl rfl (by first | assumption | omega) (by decide) ?_
        refine k_aload_n d_R_handOn_99 rfl ?_
        refine k_getr (t := 21) d_R_handOn_100 f_R_71 (by decide) rfl (by decide) (by decide) rfl ?_
        refine k_iload_n d_R_handOn_103 rfl ?_
        refine k_ialdN (n := 96) d_R_handOn_104 (by decide) rfl rfl (by first | assumption | omega) (by decide) ?_
        refine k_icmp_ge d_R_handOn_105 (fun h105 => ?_) (fun h105 => ?_)
        · refine k_aload_n d_R_handOn_117 rfl ?_
          refine k_getr (t := 21) d_R_handOn_118 f_R_71 (by decide) rfl (by decide) (by decide) rfl ?_
          refine k_iload_n d_R_handOn_121 rfl ?_
          refine k_ialdN (n := 96) d_R_handOn_122 (by decide) rfl rfl (by first | assumption | omega) (by decide) ?_
          refine k_iastN (n := 96) d_R_handOn_123 (by decide) rfl rfl (by first | assumption | omega) (by decide) ?_
          refine k_aload_n d_R_handOn_124 rfl ?_
          refine k_getr (t := 22) d_R_handOn_125 f_R_74 (by decide) rfl (by decide) (by decide) rfl ?_
          refine k_iload_n d_R_handOn_128 rfl ?_
          refine k_aload_n d_R_handOn_129 rfl ?_
          refine k_getr (t := 22) d_R_handOn_130 f_R_74 (by decide) rfl (by decide) (by decide) rfl ?_
          refine k_iload_n d_R_handOn_133 rfl ?_
          refine k_ialdN (n := 96) d_R_handOn_134 (by decide) rfl rfl (by first | assumption | omega) (by decide) ?_
          refine k_iconst (v := 1) d_R_handOn_135 (by decide) ?_
          refine k_iadd d_R_handOn_136 ?_
          refine k_iastN (n := 96) d_R_handOn_137 (by decide) rfl rfl (by first | assumption | omega) (by decide) ?_
          refine k_aload_n d_R_handOn_138 rfl ?_
          refine k_getr (t := 23) d_R_handOn_139 f_R_77 (by decide) rfl (by decide) (by decide) rfl ?_
          refine k_iload_n d_R_handOn_142 rfl ?_
          refine k_iload_n d_R_handOn_143 rfl ?_
          refine k_iastN (n := 96) d_R_handOn_144 (by decide) rfl rfl (by first | assumption | omega) (by decide) ?_
          exact k_vret d_R_handOn_145 rfl rfl (by first | (rw [rHand2, if_pos h43, if_neg h53]) | (rw [rHand2, if_pos h43, if_pos h53, if_pos h73]) | (rw [rHand2, if_pos h43, if_pos h53, if_neg h73, rDerive]; have h := h105; simp only [kup_o (show (21 : Nat) ≠ 20 by decide), kup_o (show (6 : Nat) ≠ 20 by decide)] at h; first | rw [if_pos h] | rw [if_neg h]) <;> simp [kup_o])
        · refine k_aload_n d_R_handOn_108 rfl ?_
          refine k_getr (t := 6) d_R_handOn_109 f_R_26 (by decide) rfl (by decide) (by decide) rfl ?_
          refine k_iload_n d_R_handOn_112 rfl ?_
          refine k_ialdN (n := 8) d_R_handOn_113 (by decide) rfl rfl (by first | assumption | omega) (by decide) ?_
          refine k_goto d_R_handOn_114 ?_
          refine k_iastN (n := 96) d_R_handOn_123 (by decide) rfl rfl (by first | assumption | omega) (by decide) ?_
          refine k_aload_n d_R_handOn_124 rfl ?_
          refine k_getr (t := 22) d_R_handOn_125 f_R_74 (by decide) rfl (by decide) (by decide) rfl ?_
          refine k_iload_n d_R_handOn_128 rfl ?_
          refine k_aload_n d_R_handOn_129 rfl ?_
          refine k_getr (t := 22) d_R_handOn_130 f_R_74 (by decide) rfl (by decide) (by decide) rfl ?_
          refine k_iload_n d_R_handOn_133 rfl ?_
          refine k_ialdN (n := 96) d_R_handOn_134 (by decide) rfl rfl (by first | assumption | omega) (by decide) ?_
          refine k_iconst (v := 1) d_R_handOn_135 (by decide) ?_
          refine k_iadd d_R_handOn_136 ?_
          refine k_iastN (n := 96) d_R_handOn_137 (by decide) rfl rfl (by first | assumption | omega) (by decide) ?_
          refine k_aload_n d_R_handOn_138 rfl ?_
          refine k_getr (t := 23) d_R_handOn_139 f_R_77 (by decide) rfl (by decide) (by decide) rfl ?_
          refine k_iload_n d_R_handOn_142 rfl ?_
          refine k_iload_n d_R_handOn_143 rfl ?_
          refine k_iastN (n := 96) d_R_handOn_144 (by decide) rfl rfl (by first | assumption | omega) (by decide) ?_
          exact k_vret d_R_handOn_145 rfl rfl (by first | (rw [rHand2, if_pos h43, if_neg h53]) | (rw [rHand2, if_pos h43, if_pos h53, if_pos h73]) | (rw [rHand2, if_pos h43, if_pos h53, if_neg h73, rDerive]; have h := h105; simp only [kup_o (show (21 : Nat) ≠ 20 by decide), kup_o (show (6 : Nat) ≠ 20 by decide)] at h; first | rw [if_pos h] | rw [if_neg h]) <;> simp [kup_o])
    · refine k_aload_n d_R_handOn_56 rfl ?_
      refine k_iload_n d_R_handOn_57 rfl ?_
      refine k_iload_n d_R_handOn_58 rfl ?_
      refine k_virt2v d_R_handOn_59 l_R_113 g_R_move (c_R_move hs ht) rcvR (Nat.le_of_ble_eq_true rfl) ?_
      refine k_goto d_R_handOn_62 ?_
      exact k_vret d_R_handOn_145 rfl rfl (by first | (rw [rHand2, if_pos h43, if_neg h53]) | (rw [rHand2, if_pos h43, if_pos h53, if_pos h73]) | (rw [rHand2, if_pos h43, if_pos h53, if_neg h73, rDerive]; have h := h105; simp only [kup_o (show (21 : Nat) ≠ 20 by decide), kup_o (show (6 : Nat) ≠ 20 by decide)] at h; first | rw [if_pos h] | rw [if_neg h]) <;> simp [kup_o])
  · exact k_vret d_R_handOn_46 rfl rfl (by simp [rHand2, *])

set_option maxRecDepth 4000 in
theorem c_R_handOn {l : Launch} {D : va_G} {cI cB cT : ClassId} {ad : Nat → Nat} {d : Nat} {u : kSt} {i s t : Nat} (hi : i < 8) (hs : s < 96) (ht : t < 96) (hI : rInv u) : KSp (kWl lyR l D cI cB cT ad) y_R_handOn m_R_handOn (d + 2) [.ref 0, .int (nI i), .int (nI s), .int (nI t)] u none (rHandOn u i s t) := by
  refine KSp.of (by decide) rfl (Nat.le_of_ble_eq_true rfl) rfl ?_
  show KAt (kWl lyR l D cI cB cT ad) m_R_handOn (d + 2) 0 [some (.ref 0), some (.int (nI i)), some (.int (nI s)), some (.int (nI t))] [] u none (rHandOn u i s t)
  refine k_iload_n d_R_handOn_0 rfl ?_
  refine k_iload_n d_R_handOn_1 rfl ?_
  refine k_icmp_eq d_R_handOn_2 (fun h2 => ?_) (fun h2 => ?_)
  · have hst := (nI_eq (a := s) (b := t) (by omega) (by omega)).symm
    exact k_vret d_R_handOn_14 rfl rfl (by simp [rHandOn, *])
  · have hst := (nI_eq (a := s) (b := t) (by omega) (by omega)).symm
    refine k_aload_n d_R_handOn_5 rfl ?_
    refine k_getr (t := 20) d_R_handOn_6 f_R_68 (by decide) rfl (by decide) (by decide) rfl ?_
    refine k_iload_n d_R_handOn_9 rfl ?_
    refine k_ialdN (n := 96) d_R_handOn_10 (by decide) rfl rfl (by first | assumption | omega) (by decide) ?_
    refine k_if_ge d_R_handOn_11 (fun h11 => ?_) (fun h11 => ?_)
    · refine k_aload_n d_R_handOn_15 rfl ?_
      refine k_getr (t := 20) d_R_handOn_16 f_R_68 (by decide) rfl (by decide) (by decide) rfl ?_
      refine k_iload_n d_R_handOn_19 rfl ?_
      refine k_ialdN (n := 96) d_R_handOn_20 (by decide) rfl rfl (by first | assumption | omega) (by decide) ?_
      refine k_if_lt d_R_handOn_21 (fun h21 => ?_) (fun h21 => ?_)
      · exact (c_R_handOn_2 hi hs ht).to rfl (by simp [rHandOn, rClean, *])
      · refine k_aload_n d_R_handOn_24 rfl ?_
        refine k_iload_n d_R_handOn_25 rfl ?_
        refine k_virt1s d_R_handOn_26 l_R_109 g_R_removeBelow (c_R_removeBelow hI) rcvR (Nat.le_of_ble_eq_true rfl) ?_
        refine k_pop d_R_handOn_29 rfl ?_
        refine k_aload_n d_R_handOn_30 rfl ?_
        refine k_getr (t := 20) d_R_handOn_31 f_R_68 (by decide) rfl (by decide) (by decide) rfl ?_
        refine k_iload_n d_R_handOn_34 rfl ?_
        refine k_iconst (v := (-1)) d_R_handOn_35 (by decide) ?_
        refine k_iastN (n := 96) d_R_handOn_36 (by decide) rfl rfl (by first | assumption | omega) (by decide) ?_
        exact (c_R_handOn_2 hi hs ht).to rfl (by simp [rHandOn, rClean, *])
    · have hst := (nI_eq (a := s) (b := t) (by omega) (by omega)).symm
      exact k_vret d_R_handOn_14 rfl rfl (by simp [rHandOn, *])

set_option maxRecDepth 4000 in
theorem c_R_take {l : Launch} {D : va_G} {cI cB cT : ClassId} {ad : Nat → Nat} {d : Nat} {u : kSt} {i : Nat} {s a b c e : Int32} (hi : i < 8) : KSp (kWl lyR l D cI cB cT ad) y_R_take m_R_take d [.ref 0, .int (nI i), .int s, .int a, .int b, .int c, .int e] u none (rTake u i s a b c e) := by
  refine KSp.of (by decide) rfl (Nat.le_of_ble_eq_true rfl) rfl ?_
  show KAt (kWl lyR l D cI cB cT ad) m_R_take d 0 [some (.ref 0), some (.int (nI i)), some (.int s), some (.int a), some (.int b), some (.int c), some (.int e)] [] u none (rTake u i s a b c e)
  refine k_aload_n d_R_take_0 rfl ?_
  refine k_getr (t := 4) d_R_take_1 f_R_20 (by decide) rfl (by decide) (by decide) rfl ?_
  refine k_iconst (v := 4) d_R_take_4 (by decide) ?_
  refine k_iload_n d_R_take_5 rfl ?_
  refine k_imul d_R_take_6 ?_
  rw [rg_eq0]
  refine k_iload_n d_R_take_7 rfl ?_
  refine k_iastN (n := 32) d_R_take_8 (by decide) rfl rfl (by first | assumption | omega) (by decide) ?_
  refine k_aload_n d_R_take_9 rfl ?_
  refine k_getr (t := 4) d_R_take_10 f_R_20 (by decide) rfl (by decide) (by decide) rfl ?_
  refine k_iconst (v := 4) d_R_take_13 (by decide) ?_
  refine k_iload_n d_R_take_14 rfl ?_
  refine k_imul d_R_take_15 ?_
  refine k_iconst (v := 1) d_R_take_16 (by decide) ?_
  refine k_iadd d_R_take_17 ?_
  rw [show (1 : Int32) = nI 1 from rfl, rg_eq hi (by decide)]
  refine k_iload d_R_take_18 rfl ?_
  refine k_iastN (n := 32) d_R_take_20 (by decide) rfl rfl (by first | assumption | omega) (by decide) ?_
  refine k_aload_n d_R_take_21 rfl ?_
  refine k_getr (t := 4) d_R_take_22 f_R_20 (by decide) rfl (by decide) (by decide) rfl ?_
  refine k_iconst (v := 4) d_R_take_25 (by decide) ?_
  refine k_iload_n d_R_take_26 rfl ?_
  refine k_imul d_R_take_27 ?_
  refine k_iconst (v := 2) d_R_take_28 (by decide) ?_
  refine k_iadd d_R_take_29 ?_
  rw [show (2 : Int32) = nI 2 from rfl, rg_eq hi (by decide)]
  refine k_iload d_R_take_30 rfl ?_
  refine k_iastN (n := 32) d_R_take_32 (by decide) rfl rfl (by first | assumption | omega) (by decide) ?_
  refine k_aload_n d_R_take_33 rfl ?_
  refine k_getr (t := 4) d_R_take_34 f_R_20 (by decide) rfl (by decide) (by decide) rfl ?_
  refine k_iconst (v := 4) d_R_take_37 (by decide) ?_
  refine k_iload_n d_R_take_38 rfl ?_
  refine k_imul d_R_take_39 ?_
  refine k_iconst (v := 3) d_R_take_40 (by decide) ?_
  refine k_iadd d_R_take_41 ?_
  rw [show (3 : Int32) = nI 3 from rfl, rg_eq hi (by decide)]
  refine k_iload d_R_take_42 rfl ?_
  refine k_iastN (n := 32) d_R_take_44 (by decide) rfl rfl (by first | assumption | omega) (by decide) ?_
  refine k_aload_n d_R_take_45 rfl ?_
  refine k_getr (t := 10) d_R_take_46 f_R_38 (by decide) rfl (by decide) (by decide) rfl ?_
  refine k_iload_n d_R_take_49 rfl ?_
  refine k_iload_n d_R_take_50 rfl ?_
  refine k_iastN (n := 8) d_R_take_51 (by decide) rfl rfl (by first | assumption | omega) (by decide) ?_
  refine k_aload_n d_R_take_52 rfl ?_
  refine k_getr (t := 12) d_R_take_53 f_R_44 (by decide) rfl (by decide) (by decide) rfl ?_
  refine k_iload_n d_R_take_56 rfl ?_
  refine k_dup2 d_R_take_57 rfl rfl ?_
  refine k_ialdN (n := 8) d_R_take_58 (by decide) rfl rfl (by first | assumption | omega) (by decide) ?_
  refine k_iconst (v := 1) d_R_take_59 (by decide) ?_
  refine k_iadd d_R_take_60 ?_
  refine k_iastN (n := 8) d_R_take_61 (by decide) rfl rfl (by first | assumption | omega) (by decide) ?_
  exact k_vret d_R_take_62 rfl rfl (by simp [rTake, kup_o])

end KRA
end
section
section KRB
/-- the longest waiting one waits -/
theorem rBest_waits {v : kSt} {t fr : Int32} : ∀ n, n ≤ 8 → ¬ rBest v t fr n < 0 → ix (rBest v t fr n) < 8 ∧ rWaits v (ix (rBest v t fr n)) t = true
  | 0, _, h => absurd (show (-1 : Int32) < 0 by decide) h
  | n + 1, hn, h => by
    have hx := ix_nI (n := n) (by omega)
    have hask : rAsk v t fr n = true → rWaits v n t = true := by
      intro h
      unfold rAsk at h
      split at h
      · assumption
      · cases h
    by_cases ha : rAsk v t fr n = true
    · by_cases hb : rBest v t fr n < 0
      · have e : rBest v t fr (n + 1) = nI n := by simp [rBest, ha, hb]
        rw [e, hx]
        exact ⟨by omega, hask ha⟩
      · by_cases hc : v 16 (ix (rBest v t fr n)) ≤ v 16 n
        · have e : rBest v t fr (n + 1) = rBest v t fr n := by rw [rBest, if_pos ha, if_neg hb, if_pos hc]
          rw [e]
          exact rBest_waits n (by omega) hb
        · have e : rBest v t fr (n + 1) = nI n := by rw [rBest, if_pos ha, if_neg hb, if_neg hc]
          rw [e, hx]
          exact ⟨by omega, hask ha⟩
    · have e : rBest v t fr (n + 1) = rBest v t fr n := by simp [rBest, ha]
      rw [e] at h ⊢
      exact rBest_waits n (by omega) h
theorem rBest_w {v : kSt} {t fr : Int32} (hw : ∀ j, j < 8 → rWaits v j t = true → v 13 j = 4 → vp_in (v 3 j) 8) (n : Nat) (hn : n ≤ 8) (h : ¬ rBest v t fr n < 0) (hs : v 13 (ix (rBest v t fr n)) = 4) : vp_in (v 3 (ix (rBest v t fr n))) 8 :=
  hw _ (rBest_waits n hn h).1 (rBest_waits n hn h).2 hs
set_option maxRecDepth 4000 in
theorem c_R_report {l : Launch} {D : va_G} {cI cB cT : ClassId} {ad : Nat → Nat} {d : Nat} {u : kSt} {i : Nat} (hi : i < 8) (hp : vp_in (u 3 i) 8) : KSp (kWl lyR l D cI cB cT ad) y_R_report m_R_report (d + 1) [.ref 0, .int (nI i)] u none (rReport u i) := by
  refine KSp.of (by decide) rfl (Nat.le_of_ble_eq_true rfl) rfl ?_
  show KAt (kWl lyR l D cI cB cT ad) m_R_report (d + 1) 0 [some (.ref 0), some (.int (nI i)), none] [] u none (rReport u i)
  refine k_aload_n d_R_report_0 rfl ?_
  refine k_getr (t := 3) d_R_report_1 f_R_17 (by decide) rfl (by decide) (by decide) rfl ?_
  refine k_iload_n d_R_report_4 rfl ?_
  refine k_ialdN (n := 8) d_R_report_5 (by decide) rfl rfl (by first | assumption | omega) (by decide) ?_
  obtain ⟨p, hp1, hp2⟩ := vp_in_of hp (by decide)
  have hx := ix_nI (n := p) (by omega)
  rw [hp2]
  refine k_istore_n d_R_report_6 (by decide) ?_
  refine k_aload_n d_R_report_7 rfl ?_
  refine k_iload_n d_R_report_8 rfl ?_
  refine k_iload_n d_R_report_9 rfl ?_
  refine k_aload_n d_R_report_10 rfl ?_
  refine k_getr (t := 17) d_R_report_11 f_R_59 (by decide) rfl (by decide) (by decide) rfl ?_
  refine k_iload_n d_R_report_14 rfl ?_
  refine k_ialdN (n := 8) d_R_report_15 (by decide) rfl rfl (by first | assumption | omega) (by decide) ?_
  refine k_aload_n d_R_report_16 rfl ?_
  refine k_getr (t := 18) d_R_report_17 f_R_62 (by decide) rfl (by decide) (by decide) rfl ?_
  refine k_iload_n d_R_report_20 rfl ?_
  refine k_baldN (n := 8) d_R_report_21 (by decide) rfl rfl (by first | assumption | omega) (by decide) ?_
  refine k_if_eq d_R_report_22 (fun h22 => ?_) (fun h22 => ?_)
  · refine k_iconst (v := 1) d_R_report_29 (by decide) ?_
    refine k_iconst (v := 0) d_R_report_30 (by decide) ?_
    refine k_iconst (v := 0) d_R_report_31 (by decide) ?_
    refine k_virt6v d_R_report_32 l_R_116 g_R_take (c_R_take hp1) rcvR (Nat.le_of_ble_eq_true rfl) ?_
    refine k_aload_n d_R_report_35 rfl ?_
    refine k_getr (t := 13) d_R_report_36 f_R_47 (by decide) rfl (by decide) (by decide) rfl ?_
    refine k_iload_n d_R_report_39 rfl ?_
    refine k_iconst (v := 5) d_R_report_40 (by decide) ?_
    refine k_iastN (n := 8) d_R_report_41 (by decide) rfl rfl (by first | assumption | omega) (by decide) ?_
    refine k_aload_n d_R_report_42 rfl ?_
    refine k_getr (t := 14) d_R_report_43 f_R_50 (by decide) rfl (by decide) (by decide) rfl ?_
    refine k_iload_n d_R_report_46 rfl ?_
    refine k_iload_n d_R_report_47 rfl ?_
    refine k_iastN (n := 8) d_R_report_48 (by decide) rfl rfl (by first | assumption | omega) (by decide) ?_
    refine k_aload_n d_R_report_49 rfl ?_
    refine k_iload_n d_R_report_50 rfl ?_
    refine k_iconst (v := 0) d_R_report_51 (by decide) ?_
    refine k_virt2v d_R_report_52 l_R_98 g_R_run (c_R_run hp1) rcvR (Nat.le_of_ble_eq_true rfl) ?_
    exact k_vret d_R_report_55 rfl rfl (by simp [rReport, *])
  · refine k_iconst (v := 2) d_R_report_25 (by decide) ?_
    refine k_goto d_R_report_26 ?_
    refine k_iconst (v := 0) d_R_report_30 (by decide) ?_
    refine k_iconst (v := 0) d_R_report_31 (by decide) ?_
    refine k_virt6v d_R_report_32 l_R_116 g_R_take (c_R_take hp1) rcvR (Nat.le_of_ble_eq_true rfl) ?_
    refine k_aload_n d_R_report_35 rfl ?_
    refine k_getr (t := 13) d_R_report_36 f_R_47 (by decide) rfl (by decide) (by decide) rfl ?_
    refine k_iload_n d_R_report_39 rfl ?_
    refine k_iconst (v := 5) d_R_report_40 (by decide) ?_
    refine k_iastN (n := 8) d_R_report_41 (by decide) rfl rfl (by first | assumption | omega) (by decide) ?_
    refine k_aload_n d_R_report_42 rfl ?_
    refine k_getr (t := 14) d_R_report_43 f_R_50 (by decide) rfl (by decide) (by decide) rfl ?_
    refine k_iload_n d_R_report_46 rfl ?_
    refine k_iload_n d_R_report_47 rfl ?_
    refine k_iastN (n := 8) d_R_report_48 (by decide) rfl rfl (by first | assumption | omega) (by decide) ?_
    refine k_aload_n d_R_report_49 rfl ?_
    refine k_iload_n d_R_report_50 rfl ?_
    refine k_iconst (v := 0) d_R_report_51 (by decide) ?_
    refine k_virt2v d_R_report_52 l_R_98 g_R_run (c_R_run hp1) rcvR (Nat.le_of_ble_eq_true rfl) ?_
    exact k_vret d_R_report_55 rfl rfl (by simp [rReport, *])

theorem c_R_attempt_2 {l : Launch} {D : va_G} {cI cB cT : ClassId} {ad : Nat → Nat} {d : Nat} {u : kSt} {i : Nat} (hi : i < 8) (hI : rInv u) : KAt (kWl lyR l D cI cB cT ad) m_R_attempt (d + 2) 104 [some (.ref 0), some (.int (nI i)), none, none] [] u none (rAttempt2 u i) := by
  refine k_aload_n d_R_attempt_104 rfl ?_
  refine k_getr (t := 3) d_R_attempt_105 f_R_17 (by decide) rfl (by decide) (by decide) rfl ?_
  refine k_iload_n d_R_attempt_108 rfl ?_
  refine k_ialdN (n := 8) d_R_attempt_109 (by decide) rfl rfl (by first | assumption | omega) (by decide) ?_
  refine k_if_ge d_R_attempt_110 (fun h110 => ?_) (fun h110 => ?_)
  · have hp := or_ge' (hI.pager hi) h110
    obtain ⟨p, hp1, hp2⟩ := vp_in_of hp (by decide)
    have hx := ix_nI (n := p) (by omega)
    have hp0 : (0 : Int32) ≤ nI p := hp2 ▸ h110
    have hq : rLinger u i 4 (nI p) (-1) 3 i = nI p := by rw [← hp2]; simp [rLinger, kup_o]
    have hv : vp_in (rLinger u i 4 (nI p) (-1) 3 i) 8 := by rw [hq]; exact vin_n hp1
    refine k_aload_n d_R_attempt_124 rfl ?_
    refine k_getr (t := 3) d_R_attempt_125 f_R_17 (by decide) rfl (by decide) (by decide) rfl ?_
    refine k_iload_n d_R_attempt_128 rfl ?_
    refine k_ialdN (n := 8) d_R_attempt_129 (by decide) rfl rfl (by first | assumption | omega) (by decide) ?_
    rw [hp2]
    refine k_istore_n d_R_attempt_130 (by decide) ?_
    refine k_aload_n d_R_attempt_131 rfl ?_
    refine k_iload_n d_R_attempt_132 rfl ?_
    refine k_iconst (v := 4) d_R_attempt_133 (by decide) ?_
    refine k_iload_n d_R_attempt_134 rfl ?_
    refine k_iconst (v := (-1)) d_R_attempt_135 (by decide) ?_
    refine k_virt4v d_R_attempt_136 l_R_123 g_R_linger (c_R_linger hi) rcvR (Nat.le_of_ble_eq_true rfl) ?_
    refine k_aload_n d_R_attempt_139 rfl ?_
    refine k_getr (t := 13) d_R_attempt_140 f_R_47 (by decide) rfl (by decide) (by decide) rfl ?_
    refine k_iload_n d_R_attempt_143 rfl ?_
    refine k_ialdN (n := 8) d_R_attempt_144 (by decide) rfl rfl (by first | assumption | omega) (by decide) ?_
    refine k_iconst (v := 2) d_R_attempt_145 (by decide) ?_
    refine k_icmp_ne d_R_attempt_146 (fun h146 => ?_) (fun h146 => ?_)
    · exact k_vret d_R_attempt_173 rfl rfl (by simp [rAttempt2, rAttempt3, *])
    · refine k_aload_n d_R_attempt_149 rfl ?_
      refine k_getr (t := 14) d_R_attempt_150 f_R_50 (by decide) rfl (by decide) (by decide) rfl ?_
      refine k_iload_n d_R_attempt_153 rfl ?_
      refine k_ialdN (n := 8) d_R_attempt_154 (by decide) rfl rfl (by first | assumption | omega) (by decide) ?_
      refine k_iload_n d_R_attempt_155 rfl ?_
      refine k_icmp_eq d_R_attempt_156 (fun h156 => ?_) (fun h156 => ?_)
      · refine k_aload_n d_R_attempt_168 rfl ?_
        refine k_iload_n d_R_attempt_169 rfl ?_
        refine k_virt1v d_R_attempt_170 l_R_131 g_R_report (c_R_report hi hv) rcvR (Nat.le_of_ble_eq_true rfl) ?_
        exact k_vret d_R_attempt_173 rfl rfl (by simp [rAttempt2, rAttempt3, *])
      · refine k_aload_n d_R_attempt_159 rfl ?_
        refine k_getr (t := 14) d_R_attempt_160 f_R_50 (by decide) rfl (by decide) (by decide) rfl ?_
        refine k_iload_n d_R_attempt_163 rfl ?_
        refine k_ialdN (n := 8) d_R_attempt_164 (by decide) rfl rfl (by first | assumption | omega) (by decide) ?_
        refine k_if_ge d_R_attempt_165 (fun h165 => ?_) (fun h165 => ?_)
        · exact k_vret d_R_attempt_173 rfl rfl (by simp [rAttempt2, rAttempt3, *])
        · refine k_aload_n d_R_attempt_168 rfl ?_
          refine k_iload_n d_R_attempt_169 rfl ?_
          refine k_virt1v d_R_attempt_170 l_R_131 g_R_report (c_R_report hi hv) rcvR (Nat.le_of_ble_eq_true rfl) ?_
          exact k_vret d_R_attempt_173 rfl rfl (by simp [rAttempt2, rAttempt3, *])
  · refine k_aload_n d_R_attempt_113 rfl ?_
    refine k_getr (t := 13) d_R_attempt_114 f_R_47 (by decide) rfl (by decide) (by decide) rfl ?_
    refine k_iload_n d_R_attempt_117 rfl ?_
    refine k_bipush (v := 6) d_R_attempt_118 (by decide) ?_
    refine k_iastN (n := 8) d_R_attempt_120 (by decide) rfl rfl (by first | assumption | omega) (by decide) ?_
    refine k_goto d_R_attempt_121 ?_
    exact k_vret d_R_attempt_173 rfl rfl (by simp [rAttempt2, rAttempt3, *])

set_option maxRecDepth 4000 in
theorem c_R_attempt {l : Launch} {D : va_G} {cI cB cT : ClassId} {ad : Nat → Nat} {d : Nat} {u : kSt} {i : Nat} (hi : i < 8) (hI : rInv u) : KSp (kWl lyR l D cI cB cT ad) y_R_attempt m_R_attempt (d + 2) [.ref 0, .int (nI i)] u none (rAttempt u i) := by
  refine KSp.of (by decide) rfl (Nat.le_of_ble_eq_true rfl) rfl ?_
  show KAt (kWl lyR l D cI cB cT ad) m_R_attempt (d + 2) 0 [some (.ref 0), some (.int (nI i)), none, none] [] u none (rAttempt u i)
  refine k_bipush (v := 16) d_R_attempt_0 (by decide) ?_
  refine k_aload_n d_R_attempt_2 rfl ?_
  refine k_getr (t := 2) d_R_attempt_3 f_R_13 (by decide) rfl (by decide) (by decide) rfl ?_
  refine k_iload_n d_R_attempt_6 rfl ?_
  refine k_ialdN (n := 8) d_R_attempt_7 (by decide) rfl rfl (by first | assumption | omega) (by decide) ?_
  refine k_imul d_R_attempt_8 ?_
  refine k_aload_n d_R_attempt_9 rfl ?_
  refine k_getr (t := 17) d_R_attempt_10 f_R_59 (by decide) rfl (by decide) (by decide) rfl ?_
  refine k_iload_n d_R_attempt_13 rfl ?_
  refine k_ialdN (n := 8) d_R_attempt_14 (by decide) rfl rfl (by first | assumption | omega) (by decide) ?_
  refine k_iadd d_R_attempt_15 ?_
  have hs := (rsl_eq (hI.space hi) (hI.wanted hi)).2
  rw [(rsl_eq (hI.space hi) (hI.wanted hi)).1]
  refine k_istore_n d_R_attempt_16 (by decide) ?_
  refine k_aload_n d_R_attempt_17 rfl ?_
  refine k_getr (t := 20) d_R_attempt_18 f_R_68 (by decide) rfl (by decide) (by decide) rfl ?_
  refine k_iload_n d_R_attempt_21 rfl ?_
  refine k_ialdN (n := 96) d_R_attempt_22 (by decide) rfl rfl (by first | assumption | omega) (by decide) ?_
  refine k_if_lt d_R_attempt_23 (fun h23 => ?_) (fun h23 => ?_)
  · refine k_forget 2 ?_
    exact (c_R_attempt_2 hi hI).to rfl (by simp [rAttempt, rOk, *])
  · refine k_aload_n d_R_attempt_26 rfl ?_
    refine k_getr (t := 21) d_R_attempt_27 f_R_71 (by decide) rfl (by decide) (by decide) rfl ?_
    refine k_iload_n d_R_attempt_30 rfl ?_
    refine k_ialdN (n := 96) d_R_attempt_31 (by decide) rfl rfl (by first | assumption | omega) (by decide) ?_
    refine k_aload_n d_R_attempt_32 rfl ?_
    refine k_getr (t := 18) d_R_attempt_33 f_R_62 (by decide) rfl (by decide) (by decide) rfl ?_
    refine k_iload_n d_R_attempt_36 rfl ?_
    refine k_baldN (n := 8) d_R_attempt_37 (by decide) rfl rfl (by first | assumption | omega) (by decide) ?_
    refine k_if_eq d_R_attempt_38 (fun h38 => ?_) (fun h38 => ?_)
    · refine k_iconst (v := 1) d_R_attempt_45 (by decide) ?_
      refine k_icmp_lt d_R_attempt_46 (fun h46 => ?_) (fun h46 => ?_)
      · refine k_forget 2 ?_
        exact (c_R_attempt_2 hi hI).to rfl (by simp [rAttempt, rOk, *])
      · refine k_aload_n d_R_attempt_49 rfl ?_
        refine k_getr (t := 18) d_R_attempt_50 f_R_62 (by decide) rfl (by decide) (by decide) rfl ?_
        refine k_iload_n d_R_attempt_53 rfl ?_
        refine k_baldN (n := 8) d_R_attempt_54 (by decide) rfl rfl (by first | assumption | omega) (by decide) ?_
        refine k_if_eq d_R_attempt_55 (fun h55 => ?_) (fun h55 => ?_)
        · refine k_aload_n d_R_attempt_78 rfl ?_
          refine k_getr (t := 11) d_R_attempt_79 f_R_41 (by decide) rfl (by decide) (by decide) rfl ?_
          refine k_iload_n d_R_attempt_82 rfl ?_
          refine k_aload_n d_R_attempt_83 rfl ?_
          refine k_getr (t := 24) d_R_attempt_84 f_R_80 (by decide) rfl (by decide) (by decide) rfl ?_
          refine k_aload_n d_R_attempt_87 rfl ?_
          refine k_getr (t := 20) d_R_attempt_88 f_R_68 (by decide) rfl (by decide) (by decide) rfl ?_
          refine k_iload_n d_R_attempt_91 rfl ?_
          refine k_ialdN (n := 96) d_R_attempt_92 (by decide) rfl rfl (by first | assumption | omega) (by decide) ?_
          refine k_iald d_R_attempt_93 (by decide) rfl (or_ge (hI.frame hs) h23) ?_
          refine k_iastN (n := 8) d_R_attempt_94 (by decide) rfl rfl (by first | assumption | omega) (by decide) ?_
          refine k_aload_n d_R_attempt_95 rfl ?_
          refine k_iload_n d_R_attempt_96 rfl ?_
          refine k_iconst (v := 0) d_R_attempt_97 (by decide) ?_
          refine k_virt2v d_R_attempt_98 l_R_98 g_R_run (c_R_run hi) rcvR (Nat.le_of_ble_eq_true rfl) ?_
          refine k_goto d_R_attempt_101 ?_
          exact k_vret d_R_attempt_173 rfl rfl (by first | exact absurd h38 h55 | exact absurd h55 h38 | simp [rAttempt, rOk, rDo, *])
        · refine k_aload_n d_R_attempt_58 rfl ?_
          refine k_getr (t := 24) d_R_attempt_59 f_R_80 (by decide) rfl (by decide) (by decide) rfl ?_
          refine k_aload_n d_R_attempt_62 rfl ?_
          refine k_getr (t := 20) d_R_attempt_63 f_R_68 (by decide) rfl (by decide) (by decide) rfl ?_
          refine k_iload_n d_R_attempt_66 rfl ?_
          refine k_ialdN (n := 96) d_R_attempt_67 (by decide) rfl rfl (by first | assumption | omega) (by decide) ?_
          refine k_aload_n d_R_attempt_68 rfl ?_
          refine k_getr (t := 19) d_R_attempt_69 f_R_65 (by decide) rfl (by decide) (by decide) rfl ?_
          refine k_iload_n d_R_attempt_72 rfl ?_
          refine k_ialdN (n := 8) d_R_attempt_73 (by decide) rfl rfl (by first | assumption | omega) (by decide) ?_
          refine k_iast d_R_attempt_74 (by decide) rfl (or_ge (hI.frame hs) h23) ?_
          refine k_goto d_R_attempt_75 ?_
          refine k_aload_n d_R_attempt_95 rfl ?_
          refine k_iload_n d_R_attempt_96 rfl ?_
          refine k_iconst (v := 0) d_R_attempt_97 (by decide) ?_
          refine k_virt2v d_R_attempt_98 l_R_98 g_R_run (c_R_run hi) rcvR (Nat.le_of_ble_eq_true rfl) ?_
          refine k_goto d_R_attempt_101 ?_
          exact k_vret d_R_attempt_173 rfl rfl (by first | exact absurd h38 h55 | exact absurd h55 h38 | simp [rAttempt, rOk, rDo, *])
    · refine k_iconst (v := 2) d_R_attempt_41 (by decide) ?_
      refine k_goto d_R_attempt_42 ?_
      refine k_icmp_lt d_R_attempt_46 (fun h46 => ?_) (fun h46 => ?_)
      · refine k_forget 2 ?_
        exact (c_R_attempt_2 hi hI).to rfl (by simp [rAttempt, rOk, *])
      · refine k_aload_n d_R_attempt_49 rfl ?_
        refine k_getr (t := 18) d_R_attempt_50 f_R_62 (by decide) rfl (by decide) (by decide) rfl ?_
        refine k_iload_n d_R_attempt_53 rfl ?_
        refine k_baldN (n := 8) d_R_attempt_54 (by decide) rfl rfl (by first | assumption | omega) (by decide) ?_
        refine k_if_eq d_R_attempt_55 (fun h55 => ?_) (fun h55 => ?_)
        · refine k_aload_n d_R_attempt_78 rfl ?_
          refine k_getr (t := 11) d_R_attempt_79 f_R_41 (by decide) rfl (by decide) (by decide) rfl ?_
          refine k_iload_n d_R_attempt_82 rfl ?_
          refine k_aload_n d_R_attempt_83 rfl ?_
          refine k_getr (t := 24) d_R_attempt_84 f_R_80 (by decide) rfl (by decide) (by decide) rfl ?_
          refine k_aload_n d_R_attempt_87 rfl ?_
          refine k_getr (t := 20) d_R_attempt_88 f_R_68 (by decide) rfl (by decide) (by decide) rfl ?_
          refine k_iload_n d_R_attempt_91 rfl ?_
          refine k_ialdN (n := 96) d_R_attempt_92 (by decide) rfl rfl (by first | assumption | omega) (by decide) ?_
          refine k_iald d_R_attempt_93 (by decide) rfl (or_ge (hI.frame hs) h23) ?_
          refine k_iastN (n := 8) d_R_attempt_94 (by decide) rfl rfl (by first | assumption | omega) (by decide) ?_
          refine k_aload_n d_R_attempt_95 rfl ?_
          refine k_iload_n d_R_attempt_96 rfl ?_
          refine k_iconst (v := 0) d_R_attempt_97 (by decide) ?_
          refine k_virt2v d_R_attempt_98 l_R_98 g_R_run (c_R_run hi) rcvR (Nat.le_of_ble_eq_true rfl) ?_
          refine k_goto d_R_attempt_101 ?_
          exact k_vret d_R_attempt_173 rfl rfl (by first | exact absurd h38 h55 | exact absurd h55 h38 | simp [rAttempt, rOk, rDo, *])
        · refine k_aload_n d_R_attempt_58 rfl ?_
          refine k_getr (t := 24) d_R_attempt_59 f_R_80 (by decide) rfl (by decide) (by decide) rfl ?_
          refine k_aload_n d_R_attempt_62 rfl ?_
          refine k_getr (t := 20) d_R_attempt_63 f_R_68 (by decide) rfl (by decide) (by decide) rfl ?_
          refine k_iload_n d_R_attempt_66 rfl ?_
          refine k_ialdN (n := 96) d_R_attempt_67 (by decide) rfl rfl (by first | assumption | omega) (by decide) ?_
          refine k_aload_n d_R_attempt_68 rfl ?_
          refine k_getr (t := 19) d_R_attempt_69 f_R_65 (by decide) rfl (by decide) (by decide) rfl ?_
          refine k_iload_n d_R_attempt_72 rfl ?_
          refine k_ialdN (n := 8) d_R_attempt_73 (by decide) rfl rfl (by first | assumption | omega) (by decide) ?_
          refine k_iast d_R_attempt_74 (by decide) rfl (or_ge (hI.frame hs) h23) ?_
          refine k_goto d_R_attempt_75 ?_
          refine k_aload_n d_R_attempt_95 rfl ?_
          refine k_iload_n d_R_attempt_96 rfl ?_
          refine k_iconst (v := 0) d_R_attempt_97 (by decide) ?_
          refine k_virt2v d_R_attempt_98 l_R_98 g_R_run (c_R_run hi) rcvR (Nat.le_of_ble_eq_true rfl) ?_
          refine k_goto d_R_attempt_101 ?_
          exact k_vret d_R_attempt_173 rfl rfl (by first | exact absurd h38 h55 | exact absurd h55 h38 | simp [rAttempt, rOk, rDo, *])

theorem c_R_message_4 {l : Launch} {D : va_G} {cI cB cT : ClassId} {ad : Nat → Nat} {d : Nat} {u : kSt} {s r : Nat} {a : Int32} {b : Bool} (hs : s < 8) (hr : r < 8) (hI : rInv u) : KAt (kWl lyR l D cI cB cT ad) m_R_message (d + 3) 163 [some (.ref 0), some (.int (nI s)), some (.int (nI r)), some (.int a), some (.int (bI b)), none] [] u none (rMsg4 u r b) := by
  refine k_iload d_R_message_163 rfl ?_
  refine k_if_eqB d_R_message_165 (fun h165 => ?_) (fun h165 => ?_)
  · refine k_aload_n d_R_message_176 rfl ?_
    refine k_iload_n d_R_message_177 rfl ?_
    refine k_iconst (v := 0) d_R_message_178 (by decide) ?_
    refine k_virt2v d_R_message_179 l_R_98 g_R_run (c_R_run hr) rcvR (Nat.le_of_ble_eq_true rfl) ?_
    exact k_vret d_R_message_182 rfl rfl (by first | rfl | (simp [rMsg4] <;> done) | (simp [rMsg4, *] <;> done))
  · refine k_aload_n d_R_message_168 rfl ?_
    refine k_iload_n d_R_message_169 rfl ?_
    refine k_virt1v d_R_message_170 l_R_127 g_R_attempt (c_R_attempt hr hI) rcvR (Nat.le_of_ble_eq_true rfl) ?_
    refine k_goto d_R_message_173 ?_
    exact k_vret d_R_message_182 rfl rfl (by first | rfl | (simp [rMsg4] <;> done) | (simp [rMsg4, *] <;> done))
theorem c_R_message_3 {l : Launch} {D : va_G} {cI cB cT : ClassId} {ad : Nat → Nat} {d : Nat} {u : kSt} {s r : Nat} {a : Int32} {b : Bool} (hs : s < 8) (hr : r < 8) (hI : rInv u) : KAt (kWl lyR l D cI cB cT ad) m_R_message (d + 3) 135 [some (.ref 0), some (.int (nI s)), some (.int (nI r)), some (.int a), some (.int (bI b)), none] [] u none (rMsg4 (rMsg3 (kup u 5 s (-1)) s r a) r b) := by
  have hI2 : rInv (kup u 5 s (-1)) := hI.up (rOk_5 (Or.inl rfl))
  refine k_aload_n d_R_message_135 rfl ?_
  refine k_getr (t := 5) d_R_message_136 f_R_23 (by decide) rfl (by decide) (by decide) rfl ?_
  refine k_iload_n d_R_message_139 rfl ?_
  refine k_iconst (v := (-1)) d_R_message_140 (by decide) ?_
  refine k_iastN (n := 8) d_R_message_141 (by decide) rfl rfl (by first | assumption | omega) (by decide) ?_
  refine k_iload_n d_R_message_142 rfl ?_
  refine k_if_eq d_R_message_143 (fun h143 => ?_) (fun h143 => ?_)
  · refine k_aload_n d_R_message_157 rfl ?_
    refine k_iload_n d_R_message_158 rfl ?_
    refine k_iconst (v := 0) d_R_message_159 (by decide) ?_
    refine k_virt2v d_R_message_160 l_R_98 g_R_run (c_R_run hs) rcvR (Nat.le_of_ble_eq_true rfl) ?_
    first
      | exact (c_R_message_4 hs hr hI2.linger).to rfl (by simp [rMsg3, *])
      | exact (c_R_message_4 hs hr hI2.run).to rfl (by simp [rMsg3, *])
  · refine k_aload_n d_R_message_146 rfl ?_
    refine k_iload_n d_R_message_147 rfl ?_
    refine k_iconst (v := 2) d_R_message_148 (by decide) ?_
    refine k_iload_n d_R_message_149 rfl ?_
    refine k_iconst (v := (-1)) d_R_message_150 (by decide) ?_
    refine k_virt4v d_R_message_151 l_R_123 g_R_linger (c_R_linger hs) rcvR (Nat.le_of_ble_eq_true rfl) ?_
    refine k_goto d_R_message_154 ?_
    first
      | exact (c_R_message_4 hs hr hI2.linger).to rfl (by simp [rMsg3, *])
      | exact (c_R_message_4 hs hr hI2.run).to rfl (by simp [rMsg3, *])
theorem c_R_message_2 {l : Launch} {D : va_G} {cI cB cT : ClassId} {ad : Nat → Nat} {d : Nat} {u : kSt} {s r : Nat} {a : Int32} {b : Bool} (hs : s < 8) (hr : r < 8) (hI : rInv u) {p : Int32} (hp : p = -1 ∨ vp_in p 16) : KAt (kWl lyR l D cI cB cT ad) m_R_message (d + 3) 88 [some (.ref 0), some (.int (nI s)), some (.int (nI r)), some (.int a), some (.int (bI b)), some (.int p)] [] u none (rMsg4 (rMsg3 (kup (rMsg2 u s r p) 5 s (-1)) s r a) r b) := by
  have hI3 := hI.msg2 hs hr hp
  refine k_aload_n d_R_message_88 rfl ?_
  refine k_getr (t := 5) d_R_message_89 f_R_23 (by decide) rfl (by decide) (by decide) rfl ?_
  refine k_iload_n d_R_message_92 rfl ?_
  refine k_ialdN (n := 8) d_R_message_93 (by decide) rfl rfl (by first | assumption | omega) (by decide) ?_
  refine k_if_lt d_R_message_94 (fun h94 => ?_) (fun h94 => ?_)
  · refine k_forget 5 ?_
    first
      | exact (c_R_message_3 hs hr hI).to rfl (by simp [rMsg2, *])
      | exact (c_R_message_3 hs hr (hI.handOn ha.2 hb.2)).to rfl (by simp [rMsg2, *])
  · refine k_iload d_R_message_97 rfl ?_
    refine k_if_lt d_R_message_99 (fun h99 => ?_) (fun h99 => ?_)
    · refine k_forget 5 ?_
      first
        | exact (c_R_message_3 hs hr hI).to rfl (by simp [rMsg2, *])
        | exact (c_R_message_3 hs hr (hI.handOn ha.2 hb.2)).to rfl (by simp [rMsg2, *])
    · refine k_aload_n d_R_message_102 rfl ?_
      refine k_iload_n d_R_message_103 rfl ?_
      refine k_bipush (v := 16) d_R_message_104 (by decide) ?_
      refine k_aload_n d_R_message_106 rfl ?_
      refine k_getr (t := 2) d_R_message_107 f_R_13 (by decide) rfl (by decide) (by decide) rfl ?_
      refine k_iload_n d_R_message_110 rfl ?_
      refine k_ialdN (n := 8) d_R_message_111 (by decide) rfl rfl (by first | assumption | omega) (by decide) ?_
      refine k_imul d_R_message_112 ?_
      refine k_aload_n d_R_message_113 rfl ?_
      refine k_getr (t := 5) d_R_message_114 f_R_23 (by decide) rfl (by decide) (by decide) rfl ?_
      refine k_iload_n d_R_message_117 rfl ?_
      refine k_ialdN (n := 8) d_R_message_118 (by decide) rfl rfl (by first | assumption | omega) (by decide) ?_
      refine k_iadd d_R_message_119 ?_
      have ha := rsl_eq (hI.space hs) (or_ge (hI.offer hs) h94)
      rw [ha.1]
      refine k_bipush (v := 16) d_R_message_120 (by decide) ?_
      refine k_aload_n d_R_message_122 rfl ?_
      refine k_getr (t := 2) d_R_message_123 f_R_13 (by decide) rfl (by decide) (by decide) rfl ?_
      refine k_iload_n d_R_message_126 rfl ?_
      refine k_ialdN (n := 8) d_R_message_127 (by decide) rfl rfl (by first | assumption | omega) (by decide) ?_
      refine k_imul d_R_message_128 ?_
      refine k_iload d_R_message_129 rfl ?_
      refine k_iadd d_R_message_131 ?_
      have hb := rsl_eq (hI.space hr) (or_ge hp h99)
      rw [hb.1]
      refine k_virt3v d_R_message_132 l_R_120 g_R_handOn (c_R_handOn hs ha.2 hb.2 hI) rcvR (Nat.le_of_ble_eq_true rfl) ?_
      refine k_forget 5 ?_
      first
        | exact (c_R_message_3 hs hr hI).to rfl (by simp [rMsg2, *])
        | exact (c_R_message_3 hs hr (hI.handOn ha.2 hb.2)).to rfl (by simp [rMsg2, *])
theorem c_R_message_1 {l : Launch} {D : va_G} {cI cB cT : ClassId} {ad : Nat → Nat} {d : Nat} {u : kSt} {s r : Nat} {a : Int32} {b : Bool} (hs : s < 8) (hr : r < 8) (hI : rInv u) : KAt (kWl lyR l D cI cB cT ad) m_R_message (d + 3) 66 [some (.ref 0), some (.int (nI s)), some (.int (nI r)), some (.int a), some (.int (bI b)), none] [] u none (rMsgB u s r a b) := by
  refine k_iload d_R_message_66 rfl ?_
  refine k_if_eqB d_R_message_68 (fun h68 => ?_) (fun h68 => ?_)
  · refine k_aload_n d_R_message_80 rfl ?_
    refine k_getr (t := 8) d_R_message_81 f_R_32 (by decide) rfl (by decide) (by decide) rfl ?_
    refine k_iload_n d_R_message_84 rfl ?_
    refine k_ialdN (n := 8) d_R_message_85 (by decide) rfl rfl (by first | assumption | omega) (by decide) ?_
    refine k_istore d_R_message_86 (by decide) ?_
    first
      | exact (c_R_message_2 hs hr hI (Or.inr (hI.wanted hr))).to rfl (by simp [rMsgB, rPage, *])
      | exact (c_R_message_2 hs hr hI (hI.window hr)).to rfl (by simp [rMsgB, rPage, *])
  · refine k_aload_n d_R_message_71 rfl ?_
    refine k_getr (t := 17) d_R_message_72 f_R_59 (by decide) rfl (by decide) (by decide) rfl ?_
    refine k_iload_n d_R_message_75 rfl ?_
    refine k_ialdN (n := 8) d_R_message_76 (by decide) rfl rfl (by first | assumption | omega) (by decide) ?_
    refine k_goto d_R_message_77 ?_
    refine k_istore d_R_message_86 (by decide) ?_
    first
      | exact (c_R_message_2 hs hr hI (Or.inr (hI.wanted hr))).to rfl (by simp [rMsgB, rPage, *])
      | exact (c_R_message_2 hs hr hI (hI.window hr)).to rfl (by simp [rMsgB, rPage, *])

set_option maxRecDepth 4000 in
theorem c_R_message {l : Launch} {D : va_G} {cI cB cT : ClassId} {ad : Nat → Nat} {d : Nat} {u : kSt} {s r : Nat} {a : Int32} (hs : s < 8) (hr : r < 8) (hI : rInv u) : KSp (kWl lyR l D cI cB cT ad) y_R_message m_R_message (d + 3) [.ref 0, .int (nI s), .int (nI r), .int a] u none (rMessage u s r a) := by
  refine KSp.of (by decide) rfl (Nat.le_of_ble_eq_true rfl) rfl ?_
  show KAt (kWl lyR l D cI cB cT ad) m_R_message (d + 3) 0 [some (.ref 0), some (.int (nI s)), some (.int (nI r)), some (.int a), none, none] [] u none (rMessage u s r a)
  refine k_aload_n d_R_message_0 rfl ?_
  refine k_getr (t := 13) d_R_message_1 f_R_47 (by decide) rfl (by decide) (by decide) rfl ?_
  refine k_iload_n d_R_message_4 rfl ?_
  refine k_ialdN (n := 8) d_R_message_5 (by decide) rfl rfl (by first | assumption | omega) (by decide) ?_
  refine k_iconst (v := 5) d_R_message_6 (by decide) ?_
  refine k_icmp_ne d_R_message_7 (fun h7 => ?_) (fun h7 => ?_)
  · refine k_iconst (v := 0) d_R_message_14 (by decide) ?_
    refine k_istore d_R_message_15 (by decide) ?_
    refine k_iload d_R_message_17 rfl ?_
    refine k_if_ne d_R_message_19 (fun h => absurd h (by decide)) (fun _ => ?_)
    refine k_aload_n d_R_message_22 rfl ?_
    refine k_iload_n d_R_message_23 rfl ?_
    refine k_iload_n d_R_message_24 rfl ?_
    refine k_aload_n d_R_message_25 rfl ?_
    refine k_getr (t := 4) d_R_message_26 f_R_20 (by decide) rfl (by decide) (by decide) rfl ?_
    refine k_iconst (v := 4) d_R_message_29 (by decide) ?_
    refine k_iload_n d_R_message_30 rfl ?_
    refine k_imul d_R_message_31 ?_
    rw [rg_eq0]
    refine k_ialdN (n := 32) d_R_message_32 (by decide) rfl rfl (by first | assumption | omega) (by decide) ?_
    refine k_aload_n d_R_message_33 rfl ?_
    refine k_getr (t := 4) d_R_message_34 f_R_20 (by decide) rfl (by decide) (by decide) rfl ?_
    refine k_iconst (v := 4) d_R_message_37 (by decide) ?_
    refine k_iload_n d_R_message_38 rfl ?_
    refine k_imul d_R_message_39 ?_
    refine k_iconst (v := 1) d_R_message_40 (by decide) ?_
    refine k_iadd d_R_message_41 ?_
    rw [show (1 : Int32) = nI 1 from rfl, rg_eq hs (by decide)]
    refine k_ialdN (n := 32) d_R_message_42 (by decide) rfl rfl (by first | assumption | omega) (by decide) ?_
    refine k_aload_n d_R_message_43 rfl ?_
    refine k_getr (t := 4) d_R_message_44 f_R_20 (by decide) rfl (by decide) (by decide) rfl ?_
    refine k_iconst (v := 4) d_R_message_47 (by decide) ?_
    refine k_iload_n d_R_message_48 rfl ?_
    refine k_imul d_R_message_49 ?_
    refine k_iconst (v := 2) d_R_message_50 (by decide) ?_
    refine k_iadd d_R_message_51 ?_
    rw [show (2 : Int32) = nI 2 from rfl, rg_eq hs (by decide)]
    refine k_ialdN (n := 32) d_R_message_52 (by decide) rfl rfl (by first | assumption | omega) (by decide) ?_
    refine k_aload_n d_R_message_53 rfl ?_
    refine k_getr (t := 4) d_R_message_54 f_R_20 (by decide) rfl (by decide) (by decide) rfl ?_
    refine k_iconst (v := 4) d_R_message_57 (by decide) ?_
    refine k_iload_n d_R_message_58 rfl ?_
    refine k_imul d_R_message_59 ?_
    refine k_iconst (v := 3) d_R_message_60 (by decide) ?_
    refine k_iadd d_R_message_61 ?_
    rw [show (3 : Int32) = nI 3 from rfl, rg_eq hs (by decide)]
    refine k_ialdN (n := 32) d_R_message_62 (by decide) rfl rfl (by first | assumption | omega) (by decide) ?_
    refine k_virt6v d_R_message_63 l_R_116 g_R_take (c_R_take hr) rcvR (Nat.le_of_ble_eq_true rfl) ?_
    first
      | exact (c_R_message_1 (b := true) hs hr hI).to rfl (by simp [rMessage, rMsg1, *])
      | exact (c_R_message_1 (b := false) hs hr hI.take).to rfl (by simp [rMessage, rMsg1, *])
  · refine k_iconst (v := 1) d_R_message_10 (by decide) ?_
    refine k_goto d_R_message_11 ?_
    refine k_istore d_R_message_15 (by decide) ?_
    refine k_iload d_R_message_17 rfl ?_
    refine k_if_ne d_R_message_19 (fun _ => ?_) (fun h => absurd h (by decide))
    first
      | exact (c_R_message_1 (b := true) hs hr hI).to rfl (by simp [rMessage, rMsg1, *])
      | exact (c_R_message_1 (b := false) hs hr hI.take).to rfl (by simp [rMessage, rMsg1, *])

set_option maxRecDepth 4000 in
theorem c_R_takes {l : Launch} {D : va_G} {cI cB cT : ClassId} {ad : Nat → Nat} {d : Nat} {u : kSt} {r s : Nat} (hr : r < 8) (hs : s < 8) : KSp (kWl lyR l D cI cB cT ad) y_R_takes m_R_takes d [.ref 0, .int (nI r), .int (nI s)] u (some (.int (bI (rTakes u r s)))) u := by
  refine KSp.of (by decide) rfl (Nat.le_of_ble_eq_true rfl) rfl ?_
  show KAt (kWl lyR l D cI cB cT ad) m_R_takes d 0 [some (.ref 0), some (.int (nI r)), some (.int (nI s))] [] u (some (.int (bI (rTakes u r s)))) u
  refine k_aload_n d_R_takes_0 rfl ?_
  refine k_getr (t := 13) d_R_takes_1 f_R_47 (by decide) rfl (by decide) (by decide) rfl ?_
  refine k_iload_n d_R_takes_4 rfl ?_
  refine k_ialdN (n := 8) d_R_takes_5 (by decide) rfl rfl (by first | assumption | omega) (by decide) ?_
  refine k_iconst (v := 2) d_R_takes_6 (by decide) ?_
  refine k_icmp_ne d_R_takes_7 (fun h7 => ?_) (fun h7 => ?_)
  · refine k_aload_n d_R_takes_29 rfl ?_
    refine k_getr (t := 13) d_R_takes_30 f_R_47 (by decide) rfl (by decide) (by decide) rfl ?_
    refine k_iload_n d_R_takes_33 rfl ?_
    refine k_ialdN (n := 8) d_R_takes_34 (by decide) rfl rfl (by first | assumption | omega) (by decide) ?_
    refine k_iconst (v := 5) d_R_takes_35 (by decide) ?_
    refine k_icmp_ne d_R_takes_36 (fun h36 => ?_) (fun h36 => ?_)
    · refine k_iconst (v := 0) d_R_takes_53 (by decide) ?_
      exact k_zret d_R_takes_54 rfl (by first | rfl | exact nb_bI _) (by first | rfl | (simp [rTakes, bI] <;> done) | (simp [rTakes, bI, *] <;> done)) (by first | rfl | (simp [rTakes, bI] <;> done) | (simp [rTakes, bI, *] <;> done))
    · refine k_aload_n d_R_takes_39 rfl ?_
      refine k_getr (t := 14) d_R_takes_40 f_R_50 (by decide) rfl (by decide) (by decide) rfl ?_
      refine k_iload_n d_R_takes_43 rfl ?_
      refine k_ialdN (n := 8) d_R_takes_44 (by decide) rfl rfl (by first | assumption | omega) (by decide) ?_
      refine k_iload_n d_R_takes_45 rfl ?_
      refine k_icmp_ne d_R_takes_46 (fun h46 => ?_) (fun h46 => ?_)
      · refine k_iconst (v := 0) d_R_takes_53 (by decide) ?_
        exact k_zret d_R_takes_54 rfl (by first | rfl | exact nb_bI _) (by first | rfl | (simp [rTakes, bI] <;> done) | (simp [rTakes, bI, *] <;> done)) (by first | rfl | (simp [rTakes, bI] <;> done) | (simp [rTakes, bI, *] <;> done))
      · refine k_iconst (v := 1) d_R_takes_49 (by decide) ?_
        refine k_goto d_R_takes_50 ?_
        exact k_zret d_R_takes_54 rfl (by first | rfl | exact nb_bI _) (by first | rfl | (simp [rTakes, bI] <;> done) | (simp [rTakes, bI, *] <;> done)) (by first | rfl | (simp [rTakes, bI] <;> done) | (simp [rTakes, bI, *] <;> done))
  · refine k_aload_n d_R_takes_10 rfl ?_
    refine k_getr (t := 14) d_R_takes_11 f_R_50 (by decide) rfl (by decide) (by decide) rfl ?_
    refine k_iload_n d_R_takes_14 rfl ?_
    refine k_ialdN (n := 8) d_R_takes_15 (by decide) rfl rfl (by first | assumption | omega) (by decide) ?_
    refine k_iload_n d_R_takes_16 rfl ?_
    refine k_icmp_eq d_R_takes_17 (fun h17 => ?_) (fun h17 => ?_)
    · refine k_iconst (v := 1) d_R_takes_49 (by decide) ?_
      refine k_goto d_R_takes_50 ?_
      exact k_zret d_R_takes_54 rfl (by first | rfl | exact nb_bI _) (by first | rfl | (simp [rTakes, bI] <;> done) | (simp [rTakes, bI, *] <;> done)) (by first | rfl | (simp [rTakes, bI] <;> done) | (simp [rTakes, bI, *] <;> done))
    · refine k_aload_n d_R_takes_20 rfl ?_
      refine k_getr (t := 14) d_R_takes_21 f_R_50 (by decide) rfl (by decide) (by decide) rfl ?_
      refine k_iload_n d_R_takes_24 rfl ?_
      refine k_ialdN (n := 8) d_R_takes_25 (by decide) rfl rfl (by first | assumption | omega) (by decide) ?_
      refine k_if_lt d_R_takes_26 (fun h26 => ?_) (fun h26 => ?_)
      · refine k_iconst (v := 1) d_R_takes_49 (by decide) ?_
        refine k_goto d_R_takes_50 ?_
        exact k_zret d_R_takes_54 rfl (by first | rfl | exact nb_bI _) (by first | rfl | (simp [rTakes, bI] <;> done) | (simp [rTakes, bI, *] <;> done)) (by first | rfl | (simp [rTakes, bI] <;> done) | (simp [rTakes, bI, *] <;> done))
      · refine k_aload_n d_R_takes_29 rfl ?_
        refine k_getr (t := 13) d_R_takes_30 f_R_47 (by decide) rfl (by decide) (by decide) rfl ?_
        refine k_iload_n d_R_takes_33 rfl ?_
        refine k_ialdN (n := 8) d_R_takes_34 (by decide) rfl rfl (by first | assumption | omega) (by decide) ?_
        refine k_iconst (v := 5) d_R_takes_35 (by decide) ?_
        refine k_icmp_ne d_R_takes_36 (fun h36 => ?_) (fun h36 => ?_)
        · refine k_iconst (v := 0) d_R_takes_53 (by decide) ?_
          exact k_zret d_R_takes_54 rfl (by first | rfl | exact nb_bI _) (by first | rfl | (simp [rTakes, bI] <;> done) | (simp [rTakes, bI, *] <;> done)) (by first | rfl | (simp [rTakes, bI] <;> done) | (simp [rTakes, bI, *] <;> done))
        · refine k_aload_n d_R_takes_39 rfl ?_
          refine k_getr (t := 14) d_R_takes_40 f_R_50 (by decide) rfl (by decide) (by decide) rfl ?_
          refine k_iload_n d_R_takes_43 rfl ?_
          refine k_ialdN (n := 8) d_R_takes_44 (by decide) rfl rfl (by first | assumption | omega) (by decide) ?_
          refine k_iload_n d_R_takes_45 rfl ?_
          refine k_icmp_ne d_R_takes_46 (fun h46 => ?_) (fun h46 => ?_)
          · refine k_iconst (v := 0) d_R_takes_53 (by decide) ?_
            exact k_zret d_R_takes_54 rfl (by first | rfl | exact nb_bI _) (by first | rfl | (simp [rTakes, bI] <;> done) | (simp [rTakes, bI, *] <;> done)) (by first | rfl | (simp [rTakes, bI] <;> done) | (simp [rTakes, bI, *] <;> done))
          · refine k_iconst (v := 1) d_R_takes_49 (by decide) ?_
            refine k_goto d_R_takes_50 ?_
            exact k_zret d_R_takes_54 rfl (by first | rfl | exact nb_bI _) (by first | rfl | (simp [rTakes, bI] <;> done) | (simp [rTakes, bI, *] <;> done)) (by first | rfl | (simp [rTakes, bI] <;> done) | (simp [rTakes, bI, *] <;> done))

theorem c_R_speak_2 {l : Launch} {D : va_G} {cI cB cT : ClassId} {ad : Nat → Nat} {d : Nat} {u : kSt} {i j : Nat} {n a : Int32} (hi : i < 8) (hj : j < 8) (hI : rInv u) : KAt (kWl lyR l D cI cB cT ad) m_R_speak (d + 4) 34 [some (.ref 0), some (.int (nI i)), some (.int (nI j)), some (.int n), some (.int a)] [] u (some (.int (rSpk u i j n a).1)) (rSpk u i j n a).2 := by
  refine k_aload_n d_R_speak_34 rfl ?_
  refine k_iload_n d_R_speak_35 rfl ?_
  refine k_iload_n d_R_speak_36 rfl ?_
  refine k_virt2s d_R_speak_37 l_R_134 g_R_takes (c_R_takes hj hi) rcvR (Nat.le_of_ble_eq_true rfl) ?_
  refine k_if_eqB d_R_speak_40 (fun h40 => ?_) (fun h40 => ?_)
  · refine k_iload_n d_R_speak_62 rfl ?_
    refine k_if_ne d_R_speak_63 (fun h63 => ?_) (fun h63 => ?_)
    · refine k_aload_n d_R_speak_75 rfl ?_
      refine k_iload_n d_R_speak_76 rfl ?_
      refine k_iload d_R_speak_77 rfl ?_
      refine k_if_eq d_R_speak_79 (fun h79 => ?_) (fun h79 => ?_)
      · refine k_iconst (v := 1) d_R_speak_86 (by decide) ?_
        refine k_iload_n d_R_speak_87 rfl ?_
        refine k_iload_n d_R_speak_88 rfl ?_
        refine k_virt4v d_R_speak_89 l_R_123 g_R_linger (c_R_linger hi) rcvR (Nat.le_of_ble_eq_true rfl) ?_
        refine k_iconst (v := 1) d_R_speak_92 (by decide) ?_
        exact k_iret d_R_speak_93 rfl (by first | rfl | (simp [rSpk] <;> done) | (simp [rSpk, *] <;> done)) (by first | rfl | (simp [rSpk] <;> done) | (simp [rSpk, *] <;> done))
      · refine k_iconst (v := 3) d_R_speak_82 (by decide) ?_
        refine k_goto d_R_speak_83 ?_
        refine k_iload_n d_R_speak_87 rfl ?_
        refine k_iload_n d_R_speak_88 rfl ?_
        refine k_virt4v d_R_speak_89 l_R_123 g_R_linger (c_R_linger hi) rcvR (Nat.le_of_ble_eq_true rfl) ?_
        refine k_iconst (v := 1) d_R_speak_92 (by decide) ?_
        exact k_iret d_R_speak_93 rfl (by first | rfl | (simp [rSpk] <;> done) | (simp [rSpk, *] <;> done)) (by first | rfl | (simp [rSpk] <;> done) | (simp [rSpk, *] <;> done))
    · refine k_aload_n d_R_speak_66 rfl ?_
      refine k_getr (t := 9) d_R_speak_67 f_R_35 (by decide) rfl (by decide) (by decide) rfl ?_
      refine k_iload_n d_R_speak_70 rfl ?_
      refine k_iconst (v := 1) d_R_speak_71 (by decide) ?_
      refine k_iastN (n := 8) d_R_speak_72 (by decide) rfl rfl (by first | assumption | omega) (by decide) ?_
      refine k_iconst (v := 2) d_R_speak_73 (by decide) ?_
      exact k_iret d_R_speak_74 rfl (by first | rfl | (simp [rSpk] <;> done) | (simp [rSpk, *] <;> done)) (by first | rfl | (simp [rSpk] <;> done) | (simp [rSpk, *] <;> done))
  · refine k_aload_n d_R_speak_43 rfl ?_
    refine k_iload_n d_R_speak_44 rfl ?_
    refine k_iload_n d_R_speak_45 rfl ?_
    refine k_iload d_R_speak_46 rfl ?_
    refine k_virt3v d_R_speak_48 l_R_137 g_R_message (c_R_message hi hj hI) rcvR (Nat.le_of_ble_eq_true rfl) ?_
    refine k_iload d_R_speak_51 rfl ?_
    refine k_if_eq d_R_speak_53 (fun h53 => ?_) (fun h53 => ?_)
    · refine k_iconst (v := 0) d_R_speak_60 (by decide) ?_
      exact k_iret d_R_speak_61 rfl (by first | rfl | (simp [rSpk] <;> done) | (simp [rSpk, *] <;> done)) (by first | rfl | (simp [rSpk] <;> done) | (simp [rSpk, *] <;> done))
    · refine k_iconst (v := 1) d_R_speak_56 (by decide) ?_
      refine k_goto d_R_speak_57 ?_
      exact k_iret d_R_speak_61 rfl (by first | rfl | (simp [rSpk] <;> done) | (simp [rSpk, *] <;> done)) (by first | rfl | (simp [rSpk] <;> done) | (simp [rSpk, *] <;> done))

set_option maxRecDepth 4000 in
theorem c_R_speak {l : Launch} {D : va_G} {cI cB cT : ClassId} {ad : Nat → Nat} {d : Nat} {u : kSt} {t o n a : Int32} (hI : rInv u) : KSp (kWl lyR l D cI cB cT ad) y_R_speak m_R_speak (d + 4) [.ref 0, .int t, .int o, .int n, .int a] u (some (.int (rSpeak u t o n a).1)) (rSpeak u t o n a).2 := by
  refine KSp.of (by decide) rfl (Nat.le_of_ble_eq_true rfl) rfl ?_
  show KAt (kWl lyR l D cI cB cT ad) m_R_speak (d + 4) 0 [some (.ref 0), some (.int t), some (.int o), some (.int n), some (.int a)] [] u (some (.int (rSpeak u t o n a).1)) (rSpeak u t o n a).2
  refine k_aload_n d_R_speak_0 rfl ?_
  refine k_iload_n d_R_speak_1 rfl ?_
  refine k_virt1s d_R_speak_2 l_R_102 g_R_running c_R_running rcvR (Nat.le_of_ble_eq_true rfl) ?_
  refine k_if_eqB d_R_speak_5 (fun h5 => ?_) (fun h5 => ?_)
  · refine k_iconst (v := (-1)) d_R_speak_32 (by decide) ?_
    exact k_iret d_R_speak_33 rfl (by simp [rSpeak, *]) (by simp [rSpeak, *])
  · refine k_iload_n d_R_speak_8 rfl ?_
    refine k_iload_n d_R_speak_9 rfl ?_
    refine k_icmp_eq d_R_speak_10 (fun h10 => ?_) (fun h10 => ?_)
    · refine k_iconst (v := (-1)) d_R_speak_32 (by decide) ?_
      exact k_iret d_R_speak_33 rfl (by simp [rSpeak, *]) (by simp [rSpeak, *])
    · refine k_aload_n d_R_speak_13 rfl ?_
      refine k_iload_n d_R_speak_14 rfl ?_
      refine k_virt1s d_R_speak_15 l_R_87 g_R_thread c_R_thread rcvR (Nat.le_of_ble_eq_true rfl) ?_
      refine k_if_eqB d_R_speak_18 (fun h18 => ?_) (fun h18 => ?_)
      · refine k_iconst (v := (-1)) d_R_speak_32 (by decide) ?_
        exact k_iret d_R_speak_33 rfl (by simp [rSpeak, *]) (by simp [rSpeak, *])
      · refine k_iload_n d_R_speak_21 rfl ?_
        refine k_iconst (v := (-1)) d_R_speak_22 (by decide) ?_
        refine k_icmp_lt d_R_speak_23 (fun h23 => ?_) (fun h23 => ?_)
        · refine k_iconst (v := (-1)) d_R_speak_32 (by decide) ?_
          exact k_iret d_R_speak_33 rfl (by simp [rSpeak, *]) (by simp [rSpeak, *])
        · refine k_iload_n d_R_speak_26 rfl ?_
          refine k_bipush (v := 100) d_R_speak_27 (by decide) ?_
          refine k_icmp_le d_R_speak_29 (fun h29 => ?_) (fun h29 => ?_)
          · have e1 : rSpeak u t o n a = rSpk u (ix t) (ix o) n a := by simp [rSpeak, *]
            rw [e1]
            have ht := rRunning_in h5
            have ho := rThread_in h18
            have h9 := c_R_speak_2 (l := l) (D := D) (cI := cI) (cB := cB) (cT := cT) (ad := ad) (d := d) (n := n) (a := a) (vin_lt ht) (vin_lt ho) hI
            rw [← vin_eq ht, ← vin_eq ho] at h9
            exact h9
          · refine k_iconst (v := (-1)) d_R_speak_32 (by decide) ?_
            exact k_iret d_R_speak_33 rfl (by simp [rSpeak, *]) (by simp [rSpeak, *])

set_option maxRecDepth 4000 in
theorem c_R_send {l : Launch} {D : va_G} {cI cB cT : ClassId} {ad : Nat → Nat} {d : Nat} {u : kSt} {t o n : Int32} (hI : rInv u) : KSp (kWl lyR l D cI cB cT ad) y_R_send m_R_send (d + 5) [.ref 0, .int t, .int o, .int n] u (some (.int (rSpeak u t o n 0).1)) (rSpeak u t o n 0).2 := by
  refine KSp.of (by decide) rfl (Nat.le_of_ble_eq_true rfl) rfl ?_
  show KAt (kWl lyR l D cI cB cT ad) m_R_send (d + 5) 0 [some (.ref 0), some (.int t), some (.int o), some (.int n)] [] u (some (.int (rSpeak u t o n 0).1)) (rSpeak u t o n 0).2
  refine k_aload_n d_R_send_0 rfl ?_
  refine k_iload_n d_R_send_1 rfl ?_
  refine k_iload_n d_R_send_2 rfl ?_
  refine k_iload_n d_R_send_3 rfl ?_
  refine k_iconst (v := 0) d_R_send_4 (by decide) ?_
  refine k_virt4s d_R_send_5 l_R_141 g_R_speak (c_R_speak hI) rcvR (Nat.le_of_ble_eq_true rfl) ?_
  exact k_iret d_R_send_8 rfl (by first | rfl | (simp [bI] <;> done) | (simp [bI, *] <;> done)) (by first | rfl | (simp [bI] <;> done) | (simp [bI, *] <;> done))

set_option maxRecDepth 4000 in
theorem c_R_call {l : Launch} {D : va_G} {cI cB cT : ClassId} {ad : Nat → Nat} {d : Nat} {u : kSt} {t o n : Int32} (hI : rInv u) : KSp (kWl lyR l D cI cB cT ad) y_R_call m_R_call (d + 5) [.ref 0, .int t, .int o, .int n] u (some (.int (rSpeak u t o n 1).1)) (rSpeak u t o n 1).2 := by
  refine KSp.of (by decide) rfl (Nat.le_of_ble_eq_true rfl) rfl ?_
  show KAt (kWl lyR l D cI cB cT ad) m_R_call (d + 5) 0 [some (.ref 0), some (.int t), some (.int o), some (.int n)] [] u (some (.int (rSpeak u t o n 1).1)) (rSpeak u t o n 1).2
  refine k_aload_n d_R_call_0 rfl ?_
  refine k_iload_n d_R_call_1 rfl ?_
  refine k_iload_n d_R_call_2 rfl ?_
  refine k_iload_n d_R_call_3 rfl ?_
  refine k_iconst (v := 1) d_R_call_4 (by decide) ?_
  refine k_virt4s d_R_call_5 l_R_141 g_R_speak (c_R_speak hI) rcvR (Nat.le_of_ble_eq_true rfl) ?_
  exact k_iret d_R_call_8 rfl (by first | rfl | (simp [bI] <;> done) | (simp [bI, *] <;> done)) (by first | rfl | (simp [bI] <;> done) | (simp [bI, *] <;> done))

set_option maxRecDepth 4000 in
theorem c_R_waitsFor {l : Launch} {D : va_G} {cI cB cT : ClassId} {ad : Nat → Nat} {d : Nat} {u : kSt} {i : Nat} {t : Int32} (hi : i < 8) : KSp (kWl lyR l D cI cB cT ad) y_R_waitsFor m_R_waitsFor d [.ref 0, .int (nI i), .int t] u (some (.int (bI (rWaits u i t)))) u := by
  refine KSp.of (by decide) rfl (Nat.le_of_ble_eq_true rfl) rfl ?_
  show KAt (kWl lyR l D cI cB cT ad) m_R_waitsFor d 0 [some (.ref 0), some (.int (nI i)), some (.int t)] [] u (some (.int (bI (rWaits u i t)))) u
  refine k_aload_n d_R_waitsFor_0 rfl ?_
  refine k_getr (t := 1) d_R_waitsFor_1 f_R_7 (by decide) rfl (by decide) (by decide) rfl ?_
  refine k_iload_n d_R_waitsFor_4 rfl ?_
  refine k_baldN (n := 8) d_R_waitsFor_5 (by decide) rfl rfl (by first | assumption | omega) (by decide) ?_
  refine k_if_eq d_R_waitsFor_6 (fun h6 => ?_) (fun h6 => ?_)
  · refine k_iconst (v := 0) d_R_waitsFor_53 (by decide) ?_
    exact k_zret d_R_waitsFor_54 rfl (by first | rfl | exact nb_bI _) (by first | rfl | (simp [rWaits, bI] <;> done) | (simp [rWaits, bI, *] <;> done)) (by first | rfl | (simp [rWaits, bI] <;> done) | (simp [rWaits, bI, *] <;> done))
  · refine k_aload_n d_R_waitsFor_9 rfl ?_
    refine k_getr (t := 13) d_R_waitsFor_10 f_R_47 (by decide) rfl (by decide) (by decide) rfl ?_
    refine k_iload_n d_R_waitsFor_13 rfl ?_
    refine k_ialdN (n := 8) d_R_waitsFor_14 (by decide) rfl rfl (by first | assumption | omega) (by decide) ?_
    refine k_iconst (v := 1) d_R_waitsFor_15 (by decide) ?_
    refine k_icmp_eq d_R_waitsFor_16 (fun h16 => ?_) (fun h16 => ?_)
    · refine k_aload_n d_R_waitsFor_39 rfl ?_
      refine k_getr (t := 14) d_R_waitsFor_40 f_R_50 (by decide) rfl (by decide) (by decide) rfl ?_
      refine k_iload_n d_R_waitsFor_43 rfl ?_
      refine k_ialdN (n := 8) d_R_waitsFor_44 (by decide) rfl rfl (by first | assumption | omega) (by decide) ?_
      refine k_iload_n d_R_waitsFor_45 rfl ?_
      refine k_icmp_ne d_R_waitsFor_46 (fun h46 => ?_) (fun h46 => ?_)
      · refine k_iconst (v := 0) d_R_waitsFor_53 (by decide) ?_
        exact k_zret d_R_waitsFor_54 rfl (by first | rfl | exact nb_bI _) (by first | rfl | (simp [rWaits, bI] <;> done) | (simp [rWaits, bI, *] <;> done)) (by first | rfl | (simp [rWaits, bI] <;> done) | (simp [rWaits, bI, *] <;> done))
      · refine k_iconst (v := 1) d_R_waitsFor_49 (by decide) ?_
        refine k_goto d_R_waitsFor_50 ?_
        exact k_zret d_R_waitsFor_54 rfl (by first | rfl | exact nb_bI _) (by first | rfl | (simp [rWaits, bI] <;> done) | (simp [rWaits, bI, *] <;> done)) (by first | rfl | (simp [rWaits, bI] <;> done) | (simp [rWaits, bI, *] <;> done))
    · refine k_aload_n d_R_waitsFor_19 rfl ?_
      refine k_getr (t := 13) d_R_waitsFor_20 f_R_47 (by decide) rfl (by decide) (by decide) rfl ?_
      refine k_iload_n d_R_waitsFor_23 rfl ?_
      refine k_ialdN (n := 8) d_R_waitsFor_24 (by decide) rfl rfl (by first | assumption | omega) (by decide) ?_
      refine k_iconst (v := 3) d_R_waitsFor_25 (by decide) ?_
      refine k_icmp_eq d_R_waitsFor_26 (fun h26 => ?_) (fun h26 => ?_)
      · refine k_aload_n d_R_waitsFor_39 rfl ?_
        refine k_getr (t := 14) d_R_waitsFor_40 f_R_50 (by decide) rfl (by decide) (by decide) rfl ?_
        refine k_iload_n d_R_waitsFor_43 rfl ?_
        refine k_ialdN (n := 8) d_R_waitsFor_44 (by decide) rfl rfl (by first | assumption | omega) (by decide) ?_
        refine k_iload_n d_R_waitsFor_45 rfl ?_
        refine k_icmp_ne d_R_waitsFor_46 (fun h46 => ?_) (fun h46 => ?_)
        · refine k_iconst (v := 0) d_R_waitsFor_53 (by decide) ?_
          exact k_zret d_R_waitsFor_54 rfl (by first | rfl | exact nb_bI _) (by first | rfl | (simp [rWaits, bI] <;> done) | (simp [rWaits, bI, *] <;> done)) (by first | rfl | (simp [rWaits, bI] <;> done) | (simp [rWaits, bI, *] <;> done))
        · refine k_iconst (v := 1) d_R_waitsFor_49 (by decide) ?_
          refine k_goto d_R_waitsFor_50 ?_
          exact k_zret d_R_waitsFor_54 rfl (by first | rfl | exact nb_bI _) (by first | rfl | (simp [rWaits, bI] <;> done) | (simp [rWaits, bI, *] <;> done)) (by first | rfl | (simp [rWaits, bI] <;> done) | (simp [rWaits, bI, *] <;> done))
      · refine k_aload_n d_R_waitsFor_29 rfl ?_
        refine k_getr (t := 13) d_R_waitsFor_30 f_R_47 (by decide) rfl (by decide) (by decide) rfl ?_
        refine k_iload_n d_R_waitsFor_33 rfl ?_
        refine k_ialdN (n := 8) d_R_waitsFor_34 (by decide) rfl rfl (by first | assumption | omega) (by decide) ?_
        refine k_iconst (v := 4) d_R_waitsFor_35 (by decide) ?_
        refine k_icmp_ne d_R_waitsFor_36 (fun h36 => ?_) (fun h36 => ?_)
        · refine k_iconst (v := 0) d_R_waitsFor_53 (by decide) ?_
          exact k_zret d_R_waitsFor_54 rfl (by first | rfl | exact nb_bI _) (by first | rfl | (simp [rWaits, bI] <;> done) | (simp [rWaits, bI, *] <;> done)) (by first | rfl | (simp [rWaits, bI] <;> done) | (simp [rWaits, bI, *] <;> done))
        · refine k_aload_n d_R_waitsFor_39 rfl ?_
          refine k_getr (t := 14) d_R_waitsFor_40 f_R_50 (by decide) rfl (by decide) (by decide) rfl ?_
          refine k_iload_n d_R_waitsFor_43 rfl ?_
          refine k_ialdN (n := 8) d_R_waitsFor_44 (by decide) rfl rfl (by first | assumption | omega) (by decide) ?_
          refine k_iload_n d_R_waitsFor_45 rfl ?_
          refine k_icmp_ne d_R_waitsFor_46 (fun h46 => ?_) (fun h46 => ?_)
          · refine k_iconst (v := 0) d_R_waitsFor_53 (by decide) ?_
            exact k_zret d_R_waitsFor_54 rfl (by first | rfl | exact nb_bI _) (by first | rfl | (simp [rWaits, bI] <;> done) | (simp [rWaits, bI, *] <;> done)) (by first | rfl | (simp [rWaits, bI] <;> done) | (simp [rWaits, bI, *] <;> done))
          · refine k_iconst (v := 1) d_R_waitsFor_49 (by decide) ?_
            refine k_goto d_R_waitsFor_50 ?_
            exact k_zret d_R_waitsFor_54 rfl (by first | rfl | exact nb_bI _) (by first | rfl | (simp [rWaits, bI] <;> done) | (simp [rWaits, bI, *] <;> done)) (by first | rfl | (simp [rWaits, bI] <;> done) | (simp [rWaits, bI, *] <;> done))

theorem c_R_receive_2 {l : Launch} {D : va_G} {cI cB cT : ClassId} {ad : Nat → Nat} {d : Nat} {u : kSt} {i : Nat} {e n b : Int32} (hi : i < 8) (hI : rInv u) (hb : b = -1 ∨ vp_in b 8) (hw : ¬ b < 0 → u 13 (ix b) = 4 → vp_in (u 3 (ix b)) 8) : KAt (kWl lyR l D cI cB cT ad) m_R_receive (d + 4) 109 [some (.ref 0), some (.int (nI i)), some (.int e), some (.int n), some (.int b), none] [] u (some (.int (rRec2 u i e n b).1)) (rRec2 u i e n b).2 := by
  refine k_iload d_R_receive_109 rfl ?_
  refine k_if_lt d_R_receive_111 (fun h111 => ?_) (fun h111 => ?_)
  · refine k_iload_n d_R_receive_159 rfl ?_
    refine k_if_ne d_R_receive_160 (fun h160 => ?_) (fun h160 => ?_)
    · refine k_aload_n d_R_receive_172 rfl ?_
      refine k_iload_n d_R_receive_173 rfl ?_
      refine k_iconst (v := 2) d_R_receive_174 (by decide) ?_
      refine k_iload_n d_R_receive_175 rfl ?_
      refine k_iload_n d_R_receive_176 rfl ?_
      refine k_virt4v d_R_receive_177 l_R_123 g_R_linger (c_R_linger hi) rcvR (Nat.le_of_ble_eq_true rfl) ?_
      refine k_iconst (v := 1) d_R_receive_180 (by decide) ?_
      exact k_iret d_R_receive_181 rfl (by simp [rRec2, *]) (by simp [rRec2, *])
    · refine k_aload_n d_R_receive_163 rfl ?_
      refine k_getr (t := 9) d_R_receive_164 f_R_35 (by decide) rfl (by decide) (by decide) rfl ?_
      refine k_iload_n d_R_receive_167 rfl ?_
      refine k_iconst (v := 1) d_R_receive_168 (by decide) ?_
      refine k_iastN (n := 8) d_R_receive_169 (by decide) rfl rfl (by first | assumption | omega) (by decide) ?_
      refine k_iconst (v := 2) d_R_receive_170 (by decide) ?_
      exact k_iret d_R_receive_171 rfl (by simp [rRec2, *]) (by simp [rRec2, *])
  · obtain ⟨j, hj, rfl⟩ := vp_in_of (or_ge hb h111) (by decide)
    have hx := ix_nI (n := j) (by omega)
    refine k_aload_n d_R_receive_114 rfl ?_
    refine k_getr (t := 13) d_R_receive_115 f_R_47 (by decide) rfl (by decide) (by decide) rfl ?_
    refine k_iload d_R_receive_118 rfl ?_
    refine k_ialdN (n := 8) d_R_receive_120 (by decide) rfl rfl (by first | assumption | omega) (by decide) ?_
    refine k_iconst (v := 4) d_R_receive_121 (by decide) ?_
    refine k_icmp_ne d_R_receive_122 (fun h122 => ?_) (fun h122 => ?_)
    · refine k_aload_n d_R_receive_134 rfl ?_
      refine k_iload d_R_receive_135 rfl ?_
      refine k_iload_n d_R_receive_137 rfl ?_
      refine k_aload_n d_R_receive_138 rfl ?_
      refine k_getr (t := 13) d_R_receive_139 f_R_47 (by decide) rfl (by decide) (by decide) rfl ?_
      refine k_iload d_R_receive_142 rfl ?_
      refine k_ialdN (n := 8) d_R_receive_144 (by decide) rfl rfl (by first | assumption | omega) (by decide) ?_
      refine k_iconst (v := 3) d_R_receive_145 (by decide) ?_
      refine k_icmp_ne d_R_receive_146 (fun h146 => ?_) (fun h146 => ?_)
      · refine k_iconst (v := 0) d_R_receive_153 (by decide) ?_
        refine k_virt3v d_R_receive_154 l_R_137 g_R_message (c_R_message hj hi hI) rcvR (Nat.le_of_ble_eq_true rfl) ?_
        refine k_iconst (v := 0) d_R_receive_157 (by decide) ?_
        exact k_iret d_R_receive_158 rfl (by simp [rRec2, *]) (by simp [rRec2, *])
      · refine k_iconst (v := 1) d_R_receive_149 (by decide) ?_
        refine k_goto d_R_receive_150 ?_
        refine k_virt3v d_R_receive_154 l_R_137 g_R_message (c_R_message hj hi hI) rcvR (Nat.le_of_ble_eq_true rfl) ?_
        refine k_iconst (v := 0) d_R_receive_157 (by decide) ?_
        exact k_iret d_R_receive_158 rfl (by simp [rRec2, *]) (by simp [rRec2, *])
    · refine k_aload_n d_R_receive_125 rfl ?_
      refine k_iload d_R_receive_126 rfl ?_
      refine k_virt1v d_R_receive_128 l_R_131 g_R_report (c_R_report hj (by have := hw h111 (by rw [hx]; exact h122); rw [hx] at this; exact this)) rcvR (Nat.le_of_ble_eq_true rfl) ?_
      refine k_goto d_R_receive_131 ?_
      refine k_iconst (v := 0) d_R_receive_157 (by decide) ?_
      exact k_iret d_R_receive_158 rfl (by simp [rRec2, *]) (by simp [rRec2, *])
theorem c_R_receive_loop {l : Launch} {D : va_G} {cI cB cT : ClassId} {ad : Nat → Nat} {d : Nat} {u : kSt} {i : Nat} {t e n : Int32} {R : Option Value} {X : kSt} (N : Nat) (hN : N = 8) (hE : KAt (kWl lyR l D cI cB cT ad) m_R_receive (d + 4) 109 [some (.ref 0), some (.int t), some (.int e), some (.int n), some (.int (rBest u t e N)), none] [] u R X) : ∀ (m k : Nat) (b : Int32), k + m = N → b = rBest u t e k → KAt (kWl lyR l D cI cB cT ad) m_R_receive (d + 4) 45 [some (.ref 0), some (.int t), some (.int e), some (.int n), some (.int b), some (.int (nI k))] [] u R X := by
  intro m
  induction m with
  | zero =>
    intro k b hk hb
    subst hb
    obtain rfl : k = N := by omega
    have h0 : ¬ ¬ (8 : Int32) ≤ nI k := by rw [hN]; decide
    refine k_iload d_R_receive_45 rfl ?_
    refine k_bipush (v := 8) d_R_receive_47 (by decide) ?_
    refine k_icmp_ge d_R_receive_49 (fun h49 => ?_) (fun h49 => absurd h49 h0)
    refine k_forget 5 ?_
    exact hE
  | succ m ih =>
    intro k b hk hb
    subst hb
    have hk2 : k < 8 := by omega
    have h0 : ¬ (8 : Int32) ≤ nI k := nI_ge (a := k) (b := 8) hk2 (by decide)
    have hin := rBest_in (v := u) (t := t) (fr := e) k (by omega)
    refine k_iload d_R_receive_45 rfl ?_
    refine k_bipush (v := 8) d_R_receive_47 (by decide) ?_
    refine k_icmp_ge d_R_receive_49 (fun h49 => absurd h49 h0) (fun h49 => ?_)
    refine k_aload_n d_R_receive_52 rfl ?_
    refine k_iload d_R_receive_53 rfl ?_
    refine k_iload_n d_R_receive_55 rfl ?_
    refine k_virt2s d_R_receive_56 l_R_145 g_R_waitsFor (c_R_waitsFor hk2) rcvR (Nat.le_of_ble_eq_true rfl) ?_
    refine k_if_eqB d_R_receive_59 (fun h59 => ?_) (fun h59 => ?_)
    · refine k_incN d_R_receive_103 rfl (by decide) ?_
      refine k_goto d_R_receive_106 ?_
      exact ih (k + 1) _ (by omega) (by simp [rBest, rAsk, *])
    · refine k_iload_n d_R_receive_62 rfl ?_
      refine k_if_lt d_R_receive_63 (fun h63 => ?_) (fun h63 => ?_)
      · refine k_iload d_R_receive_72 rfl ?_
        refine k_if_lt d_R_receive_74 (fun h74 => ?_) (fun h74 => ?_)
        · refine k_iload d_R_receive_94 rfl ?_
          refine k_goto d_R_receive_96 ?_
          refine k_istore d_R_receive_101 (by decide) ?_
          refine k_incN d_R_receive_103 rfl (by decide) ?_
          refine k_goto d_R_receive_106 ?_
          exact ih (k + 1) _ (by omega) (by simp [rBest, rAsk, *])
        · refine k_aload_n d_R_receive_77 rfl ?_
          refine k_getr (t := 16) d_R_receive_78 f_R_56 (by decide) rfl (by decide) (by decide) rfl ?_
          refine k_iload d_R_receive_81 rfl ?_
          refine k_ialdN (n := 8) d_R_receive_83 (by decide) rfl rfl (by first | assumption | omega) (by decide) ?_
          refine k_aload_n d_R_receive_84 rfl ?_
          refine k_getr (t := 16) d_R_receive_85 f_R_56 (by decide) rfl (by decide) (by decide) rfl ?_
          refine k_iload d_R_receive_88 rfl ?_
          refine k_iald d_R_receive_90 (by decide) rfl (or_ge hin h74) ?_
          refine k_icmp_ge d_R_receive_91 (fun h91 => ?_) (fun h91 => ?_)
          · refine k_iload d_R_receive_99 rfl ?_
            refine k_istore d_R_receive_101 (by decide) ?_
            refine k_incN d_R_receive_103 rfl (by decide) ?_
            refine k_goto d_R_receive_106 ?_
            exact ih (k + 1) _ (by omega) (by simp [rBest, rAsk, *])
          · refine k_iload d_R_receive_94 rfl ?_
            refine k_goto d_R_receive_96 ?_
            refine k_istore d_R_receive_101 (by decide) ?_
            refine k_incN d_R_receive_103 rfl (by decide) ?_
            refine k_goto d_R_receive_106 ?_
            exact ih (k + 1) _ (by omega) (by simp [rBest, rAsk, *])
      · refine k_iload d_R_receive_66 rfl ?_
        refine k_iload_n d_R_receive_68 rfl ?_
        refine k_icmp_ne d_R_receive_69 (fun h69 => ?_) (fun h69 => ?_)
        · refine k_incN d_R_receive_103 rfl (by decide) ?_
          refine k_goto d_R_receive_106 ?_
          exact ih (k + 1) _ (by omega) (by simp [rBest, rAsk, *])
        · refine k_iload d_R_receive_72 rfl ?_
          refine k_if_lt d_R_receive_74 (fun h74 => ?_) (fun h74 => ?_)
          · refine k_iload d_R_receive_94 rfl ?_
            refine k_goto d_R_receive_96 ?_
            refine k_istore d_R_receive_101 (by decide) ?_
            refine k_incN d_R_receive_103 rfl (by decide) ?_
            refine k_goto d_R_receive_106 ?_
            exact ih (k + 1) _ (by omega) (by simp [rBest, rAsk, *])
          · refine k_aload_n d_R_receive_77 rfl ?_
            refine k_getr (t := 16) d_R_receive_78 f_R_56 (by decide) rfl (by decide) (by decide) rfl ?_
            refine k_iload d_R_receive_81 rfl ?_
            refine k_ialdN (n := 8) d_R_receive_83 (by decide) rfl rfl (by first | assumption | omega) (by decide) ?_
            refine k_aload_n d_R_receive_84 rfl ?_
            refine k_getr (t := 16) d_R_receive_85 f_R_56 (by decide) rfl (by decide) (by decide) rfl ?_
            refine k_iload d_R_receive_88 rfl ?_
            refine k_iald d_R_receive_90 (by decide) rfl (or_ge hin h74) ?_
            refine k_icmp_ge d_R_receive_91 (fun h91 => ?_) (fun h91 => ?_)
            · refine k_iload d_R_receive_99 rfl ?_
              refine k_istore d_R_receive_101 (by decide) ?_
              refine k_incN d_R_receive_103 rfl (by decide) ?_
              refine k_goto d_R_receive_106 ?_
              exact ih (k + 1) _ (by omega) (by simp [rBest, rAsk, *])
            · refine k_iload d_R_receive_94 rfl ?_
              refine k_goto d_R_receive_96 ?_
              refine k_istore d_R_receive_101 (by decide) ?_
              refine k_incN d_R_receive_103 rfl (by decide) ?_
              refine k_goto d_R_receive_106 ?_
              exact ih (k + 1) _ (by omega) (by simp [rBest, rAsk, *])

set_option maxRecDepth 4000 in
theorem c_R_receive {l : Launch} {D : va_G} {cI cB cT : ClassId} {ad : Nat → Nat} {d : Nat} {u : kSt} {t e n : Int32} (hI : rInv u) (hw : ∀ j, j < 8 → rWaits u j t = true → u 13 j = 4 → vp_in (u 3 j) 8) : KSp (kWl lyR l D cI cB cT ad) y_R_receive m_R_receive (d + 4) [.ref 0, .int t, .int e, .int n] u (some (.int (rReceive u t e n).1)) (rReceive u t e n).2 := by
  refine KSp.of (by decide) rfl (Nat.le_of_ble_eq_true rfl) rfl ?_
  show KAt (kWl lyR l D cI cB cT ad) m_R_receive (d + 4) 0 [some (.ref 0), some (.int t), some (.int e), some (.int n), none, none] [] u (some (.int (rReceive u t e n).1)) (rReceive u t e n).2
  refine k_aload_n d_R_receive_0 rfl ?_
  refine k_iload_n d_R_receive_1 rfl ?_
  refine k_virt1s d_R_receive_2 l_R_102 g_R_running c_R_running rcvR (Nat.le_of_ble_eq_true rfl) ?_
  refine k_if_eqB d_R_receive_5 (fun h5 => ?_) (fun h5 => ?_)
  · refine k_iconst (v := (-1)) d_R_receive_37 (by decide) ?_
    exact k_iret d_R_receive_38 rfl (by simp [rReceive, *]) (by simp [rReceive, *])
  · refine k_iload_n d_R_receive_8 rfl ?_
    refine k_iload_n d_R_receive_9 rfl ?_
    refine k_icmp_eq d_R_receive_10 (fun h10 => ?_) (fun h10 => ?_)
    · refine k_iconst (v := (-1)) d_R_receive_37 (by decide) ?_
      exact k_iret d_R_receive_38 rfl (by simp [rReceive, *]) (by simp [rReceive, *])
    · refine k_iload_n d_R_receive_13 rfl ?_
      refine k_iconst (v := (-1)) d_R_receive_14 (by decide) ?_
      refine k_icmp_eq d_R_receive_15 (fun h15 => ?_) (fun h15 => ?_)
      · refine k_iload_n d_R_receive_26 rfl ?_
        refine k_iconst (v := (-1)) d_R_receive_27 (by decide) ?_
        refine k_icmp_lt d_R_receive_28 (fun h28 => ?_) (fun h28 => ?_)
        · refine k_iconst (v := (-1)) d_R_receive_37 (by decide) ?_
          exact k_iret d_R_receive_38 rfl (by simp [rReceive, *]) (by simp [rReceive, *])
        · refine k_iload_n d_R_receive_31 rfl ?_
          refine k_bipush (v := 100) d_R_receive_32 (by decide) ?_
          refine k_icmp_le d_R_receive_34 (fun h34 => ?_) (fun h34 => ?_)
          · refine k_iconst (v := (-1)) d_R_receive_39 (by decide) ?_
            refine k_istore d_R_receive_40 (by decide) ?_
            refine k_iconst (v := 0) d_R_receive_42 (by decide) ?_
            refine k_istore d_R_receive_43 (by decide) ?_
            have e1 : rReceive u t e n = rRec2 u (ix t) e n (rBest u t e 8) := by rw [rReceive, if_pos h5, if_neg h10, if_neg (by simp [*]), if_neg h28, if_pos h34]
            rw [e1]
            have ht := rRunning_in h5
            have h9 := c_R_receive_2 (l := l) (D := D) (cI := cI) (cB := cB) (cT := cT) (ad := ad) (d := d) (e := e) (n := n) (b := rBest u t e 8) (vin_lt ht) hI (rBest_in 8 (by decide)) (fun hb hs => rBest_w hw 8 (by decide) hb hs)
            rw [← vin_eq ht] at h9
            exact c_R_receive_loop (i := 0) 8 rfl h9 8 0 _ rfl rfl
          · refine k_iconst (v := (-1)) d_R_receive_37 (by decide) ?_
            exact k_iret d_R_receive_38 rfl (by simp [rReceive, *]) (by simp [rReceive, *])
      · refine k_aload_n d_R_receive_18 rfl ?_
        refine k_iload_n d_R_receive_19 rfl ?_
        refine k_virt1s d_R_receive_20 l_R_87 g_R_thread c_R_thread rcvR (Nat.le_of_ble_eq_true rfl) ?_
        refine k_if_eqB d_R_receive_23 (fun h23 => ?_) (fun h23 => ?_)
        · refine k_iconst (v := (-1)) d_R_receive_37 (by decide) ?_
          exact k_iret d_R_receive_38 rfl (by simp [rReceive, *]) (by simp [rReceive, *])
        · refine k_iload_n d_R_receive_26 rfl ?_
          refine k_iconst (v := (-1)) d_R_receive_27 (by decide) ?_
          refine k_icmp_lt d_R_receive_28 (fun h28 => ?_) (fun h28 => ?_)
          · refine k_iconst (v := (-1)) d_R_receive_37 (by decide) ?_
            exact k_iret d_R_receive_38 rfl (by simp [rReceive, *]) (by simp [rReceive, *])
          · refine k_iload_n d_R_receive_31 rfl ?_
            refine k_bipush (v := 100) d_R_receive_32 (by decide) ?_
            refine k_icmp_le d_R_receive_34 (fun h34 => ?_) (fun h34 => ?_)
            · refine k_iconst (v := (-1)) d_R_receive_39 (by decide) ?_
              refine k_istore d_R_receive_40 (by decide) ?_
              refine k_iconst (v := 0) d_R_receive_42 (by decide) ?_
              refine k_istore d_R_receive_43 (by decide) ?_
              have e1 : rReceive u t e n = rRec2 u (ix t) e n (rBest u t e 8) := by rw [rReceive, if_pos h5, if_neg h10, if_neg (by simp [*]), if_neg h28, if_pos h34]
              rw [e1]
              have ht := rRunning_in h5
              have h9 := c_R_receive_2 (l := l) (D := D) (cI := cI) (cB := cB) (cT := cT) (ad := ad) (d := d) (e := e) (n := n) (b := rBest u t e 8) (vin_lt ht) hI (rBest_in 8 (by decide)) (fun hb hs => rBest_w hw 8 (by decide) hb hs)
              rw [← vin_eq ht] at h9
              exact c_R_receive_loop (i := 0) 8 rfl h9 8 0 _ rfl rfl
            · refine k_iconst (v := (-1)) d_R_receive_37 (by decide) ?_
              exact k_iret d_R_receive_38 rfl (by simp [rReceive, *]) (by simp [rReceive, *])

theorem rInv.want {v : kSt} (h : rInv v) {i : Nat} {p a x : Int32} (hp : vp_in p 16) : rInv (rWant v i p a x) := ((h.up (rOk_17 hp)).up (rOk_any (by decide))).up (rOk_any (by decide))
theorem c_R_access_2 {l : Launch} {D : va_G} {cI cB cT : ClassId} {ad : Nat → Nat} {d : Nat} {u : kSt} {i : Nat} {p a x : Int32} (hi : i < 8) (hI : rInv u) : KAt (kWl lyR l D cI cB cT ad) m_R_access (d + 3) 42 [some (.ref 0), some (.int (nI i)), some (.int p), some (.int a), some (.int x)] [] u (some (.int (rAcc2 u i).1)) (rAcc2 u i).2 := by
  refine k_aload_n d_R_access_42 rfl ?_
  refine k_iload_n d_R_access_43 rfl ?_
  refine k_virt1v d_R_access_44 l_R_127 g_R_attempt (c_R_attempt hi hI) rcvR (Nat.le_of_ble_eq_true rfl) ?_
  refine k_aload_n d_R_access_47 rfl ?_
  refine k_getr (t := 13) d_R_access_48 f_R_47 (by decide) rfl (by decide) (by decide) rfl ?_
  refine k_iload_n d_R_access_51 rfl ?_
  refine k_ialdN (n := 8) d_R_access_52 (by decide) rfl rfl (by first | assumption | omega) (by decide) ?_
  refine k_if_ne d_R_access_53 (fun h53 => ?_) (fun h53 => ?_)
  · refine k_aload_n d_R_access_60 rfl ?_
    refine k_getr (t := 13) d_R_access_61 f_R_47 (by decide) rfl (by decide) (by decide) rfl ?_
    refine k_iload_n d_R_access_64 rfl ?_
    refine k_ialdN (n := 8) d_R_access_65 (by decide) rfl rfl (by first | assumption | omega) (by decide) ?_
    refine k_bipush (v := 6) d_R_access_66 (by decide) ?_
    refine k_icmp_ne d_R_access_68 (fun h68 => ?_) (fun h68 => ?_)
    · refine k_iconst (v := 1) d_R_access_75 (by decide) ?_
      exact k_iret d_R_access_76 rfl (by first | rfl | (simp [rAcc2] <;> done) | (simp [rAcc2, *] <;> done)) (by first | rfl | (simp [rAcc2] <;> done) | (simp [rAcc2, *] <;> done))
    · refine k_iconst (v := 2) d_R_access_71 (by decide) ?_
      refine k_goto d_R_access_72 ?_
      exact k_iret d_R_access_76 rfl (by first | rfl | (simp [rAcc2] <;> done) | (simp [rAcc2, *] <;> done)) (by first | rfl | (simp [rAcc2] <;> done) | (simp [rAcc2, *] <;> done))
  · refine k_iconst (v := 0) d_R_access_56 (by decide) ?_
    refine k_goto d_R_access_57 ?_
    exact k_iret d_R_access_76 rfl (by first | rfl | (simp [rAcc2] <;> done) | (simp [rAcc2, *] <;> done)) (by first | rfl | (simp [rAcc2] <;> done) | (simp [rAcc2, *] <;> done))

set_option maxRecDepth 4000 in
theorem c_R_access {l : Launch} {D : va_G} {cI cB cT : ClassId} {ad : Nat → Nat} {d : Nat} {u : kSt} {t p a x : Int32} (hI : rInv u) (ha : a = 0 ∨ a = 1) : KSp (kWl lyR l D cI cB cT ad) y_R_access m_R_access (d + 3) [.ref 0, .int t, .int p, .int a, .int x] u (some (.int (rAccess u t p a x).1)) (rAccess u t p a x).2 := by
  refine KSp.of (by decide) rfl (Nat.le_of_ble_eq_true rfl) rfl ?_
  show KAt (kWl lyR l D cI cB cT ad) m_R_access (d + 3) 0 [some (.ref 0), some (.int t), some (.int p), some (.int a), some (.int x)] [] u (some (.int (rAccess u t p a x).1)) (rAccess u t p a x).2
  refine k_aload_n d_R_access_0 rfl ?_
  refine k_iload_n d_R_access_1 rfl ?_
  refine k_virt1s d_R_access_2 l_R_102 g_R_running c_R_running rcvR (Nat.le_of_ble_eq_true rfl) ?_
  refine k_if_eqB d_R_access_5 (fun h5 => ?_) (fun h5 => ?_)
  · refine k_iconst (v := (-1)) d_R_access_18 (by decide) ?_
    exact k_iret d_R_access_19 rfl (by simp [rAccess, *]) (by simp [rAccess, *])
  · refine k_iload_n d_R_access_8 rfl ?_
    refine k_if_lt d_R_access_9 (fun h9 => ?_) (fun h9 => ?_)
    · refine k_iconst (v := (-1)) d_R_access_18 (by decide) ?_
      exact k_iret d_R_access_19 rfl (by simp [rAccess, *]) (by simp [rAccess, *])
    · refine k_iload_n d_R_access_12 rfl ?_
      refine k_bipush (v := 15) d_R_access_13 (by decide) ?_
      refine k_icmp_le d_R_access_15 (fun h15 => ?_) (fun h15 => ?_)
      · refine k_aload_n d_R_access_20 rfl ?_
        refine k_getr (t := 17) d_R_access_21 f_R_59 (by decide) rfl (by decide) (by decide) rfl ?_
        refine k_iload_n d_R_access_24 rfl ?_
        refine k_iload_n d_R_access_25 rfl ?_
        refine k_iast d_R_access_26 (by decide) rfl (rRunning_in h5) ?_
        refine k_aload_n d_R_access_27 rfl ?_
        refine k_getr (t := 18) d_R_access_28 f_R_62 (by decide) rfl (by decide) (by decide) rfl ?_
        refine k_iload_n d_R_access_31 rfl ?_
        refine k_iload_n d_R_access_32 rfl ?_
        refine k_bast d_R_access_33 (by decide) rfl (rRunning_in h5) (by rcases ha with rfl | rfl <;> rfl) ?_
        refine k_aload_n d_R_access_34 rfl ?_
        refine k_getr (t := 19) d_R_access_35 f_R_65 (by decide) rfl (by decide) (by decide) rfl ?_
        refine k_iload_n d_R_access_38 rfl ?_
        refine k_iload d_R_access_39 rfl ?_
        refine k_iast d_R_access_41 (by decide) rfl (rRunning_in h5) ?_
        have hp : vp_in p 16 := vin_le (m := 15) h9 (Int32.not_lt.mpr h15)
        have e1 : rAccess u t p a x = rAcc2 (rWant u (ix t) p a x) (ix t) := by simp [rAccess, *]
        rw [e1]
        have ht := rRunning_in h5
        have h9 := c_R_access_2 (l := l) (D := D) (cI := cI) (cB := cB) (cT := cT) (ad := ad) (d := d) (p := p) (a := a) (x := x) (vin_lt ht) (hI.want (i := ix t) (a := a) (x := x) hp)
        rw [← vin_eq ht] at h9
        exact h9
      · refine k_iconst (v := (-1)) d_R_access_18 (by decide) ?_
        exact k_iret d_R_access_19 rfl (by simp [rAccess, *]) (by simp [rAccess, *])

theorem rInv.soft {v : kSt} (h : rInv v) {z a : Int32} : ∀ n, rInv (rSoft v z a n)
  | 0 => h
  | n + 1 => by
    unfold rSoft
    split
    · exact (rInv.soft h n).up (rOk_any (by decide))
    · exact rInv.soft h n
theorem c_R_unmap_loop {l : Launch} {D : va_G} {cI cB cT : ClassId} {ad : Nat → Nat} {d : Nat} {u : kSt} {k : Nat} {t p m a : Int32} (hk : k < 96) (hI : rInv u) (N : Nat) (hN : N = 96) : ∀ (n j : Nat) (b : Int32) (y : kSt), j + n = N → b = rSoftN u (nI k) a j → y = rSoft u (nI k) a j → KAt (kWl lyR l D cI cB cT ad) m_R_unmap (d + 2) 111 [some (.ref 0), some (.int t), some (.int p), some (.int m), some (.int a), some (.int (nI k)), some (.int b), some (.int (nI j))] [] y (some (.int (rSoftN u (nI k) a N))) (rSoft u (nI k) a N) := by
  intro n
  induction n with
  | zero =>
    intro j b y hj hb hy
    subst hb
    subst hy
    obtain rfl : j = N := by omega
    have h0 : ¬ ¬ (96 : Int32) ≤ nI j := by rw [hN]; decide
    refine k_iload d_R_unmap_111 rfl ?_
    refine k_bipush (v := 96) d_R_unmap_113 (by decide) ?_
    refine k_icmp_ge d_R_unmap_115 (fun h115 => ?_) (fun h115 => absurd h115 h0)
    refine k_iload d_R_unmap_179 rfl ?_
    exact k_iret d_R_unmap_181 rfl (by first | rfl | (simp [bI] <;> done) | (simp [bI, *] <;> done)) (by first | rfl | (simp [bI] <;> done) | (simp [bI, *] <;> done))
  | succ n ih =>
    intro j b y hj hb hy
    subst hb
    subst hy
    have hj2 : j < 96 := by omega
    have h0 : ¬ (96 : Int32) ≤ nI j := nI_ge (a := j) (b := 96) hj2 (by decide)
    refine k_iload d_R_unmap_111 rfl ?_
    refine k_bipush (v := 96) d_R_unmap_113 (by decide) ?_
    refine k_icmp_ge d_R_unmap_115 (fun h115 => absurd h115 h0) (fun h115 => ?_)
    refine k_aload_n d_R_unmap_118 rfl ?_
    refine k_getr (t := 20) d_R_unmap_119 f_R_68 (by decide) rfl (by decide) (by decide) rfl ?_
    refine k_iload d_R_unmap_122 rfl ?_
    refine k_ialdN (n := 96) d_R_unmap_124 (by decide) rfl rfl (by first | assumption | omega) (by decide) ?_
    refine k_if_lt d_R_unmap_125 (fun h125 => ?_) (fun h125 => ?_)
    · refine k_incN d_R_unmap_173 rfl (by decide) ?_
      refine k_goto d_R_unmap_176 ?_
      try subst h152
      exact ih (j + 1) _ _ (by omega) (by simp [rSoftN, rSoftB, *]) (by simp [rSoft, rSoftB, *])
    · refine k_aload_n d_R_unmap_128 rfl ?_
      refine k_getr (t := 21) d_R_unmap_129 f_R_71 (by decide) rfl (by decide) (by decide) rfl ?_
      refine k_iload d_R_unmap_132 rfl ?_
      refine k_ialdN (n := 96) d_R_unmap_134 (by decide) rfl rfl (by first | assumption | omega) (by decide) ?_
      refine k_iconst (v := 2) d_R_unmap_135 (by decide) ?_
      refine k_icmp_ne d_R_unmap_136 (fun h136 => ?_) (fun h136 => ?_)
      · refine k_incN d_R_unmap_173 rfl (by decide) ?_
        refine k_goto d_R_unmap_176 ?_
        try subst h152
        exact ih (j + 1) _ _ (by omega) (by simp [rSoftN, rSoftB, *]) (by simp [rSoft, rSoftB, *])
      · refine k_aload_n d_R_unmap_139 rfl ?_
        refine k_iload d_R_unmap_140 rfl ?_
        refine k_iload d_R_unmap_142 rfl ?_
        refine k_virt2s d_R_unmap_144 l_R_105 g_R_descends (c_R_descends hj2 (hI.soft j)) rcvR (Nat.le_of_ble_eq_true rfl) ?_
        refine k_if_neB d_R_unmap_147 (fun h147 => ?_) (fun h147 => ?_)
        · refine k_aload_n d_R_unmap_162 rfl ?_
          refine k_getr (t := 21) d_R_unmap_163 f_R_71 (by decide) rfl (by decide) (by decide) rfl ?_
          refine k_iload d_R_unmap_166 rfl ?_
          refine k_iconst (v := 1) d_R_unmap_168 (by decide) ?_
          refine k_iastN (n := 96) d_R_unmap_169 (by decide) rfl rfl (by first | assumption | omega) (by decide) ?_
          refine k_inc1 d_R_unmap_170 rfl (by decide) ?_
          refine k_incN d_R_unmap_173 rfl (by decide) ?_
          refine k_goto d_R_unmap_176 ?_
          try subst h152
          exact ih (j + 1) _ _ (by omega) (by simp [rSoftN, rSoftB, *]) (by simp [rSoft, rSoftB, *])
        · refine k_iload d_R_unmap_150 rfl ?_
          refine k_if_eq d_R_unmap_152 (fun h152 => ?_) (fun h152 => ?_)
          · refine k_incN d_R_unmap_173 rfl (by decide) ?_
            refine k_goto d_R_unmap_176 ?_
            try subst h152
            exact ih (j + 1) _ _ (by omega) (by simp [rSoftN, rSoftB, *]) (by simp [rSoft, rSoftB, *])
          · refine k_iload d_R_unmap_155 rfl ?_
            refine k_iload d_R_unmap_157 rfl ?_
            refine k_icmp_ne d_R_unmap_159 (fun h159 => ?_) (fun h159 => ?_)
            · refine k_incN d_R_unmap_173 rfl (by decide) ?_
              refine k_goto d_R_unmap_176 ?_
              try subst h152
              exact ih (j + 1) _ _ (by omega) (by simp [rSoftN, rSoftB, *]) (by simp [rSoft, rSoftB, *])
            · refine k_aload_n d_R_unmap_162 rfl ?_
              refine k_getr (t := 21) d_R_unmap_163 f_R_71 (by decide) rfl (by decide) (by decide) rfl ?_
              refine k_iload d_R_unmap_166 rfl ?_
              refine k_iconst (v := 1) d_R_unmap_168 (by decide) ?_
              refine k_iastN (n := 96) d_R_unmap_169 (by decide) rfl rfl (by first | assumption | omega) (by decide) ?_
              refine k_inc1 d_R_unmap_170 rfl (by decide) ?_
              refine k_incN d_R_unmap_173 rfl (by decide) ?_
              refine k_goto d_R_unmap_176 ?_
              try subst h152
              exact ih (j + 1) _ _ (by omega) (by simp [rSoftN, rSoftB, *]) (by simp [rSoft, rSoftB, *])
theorem c_R_unmap_2 {l : Launch} {D : va_G} {cI cB cT : ClassId} {ad : Nat → Nat} {d : Nat} {u : kSt} {k : Nat} {t p m a : Int32} (hk : k < 96) (hI : rInv u) : KAt (kWl lyR l D cI cB cT ad) m_R_unmap (d + 2) 43 [some (.ref 0), some (.int t), some (.int p), some (.int m), some (.int a), some (.int (nI k)), none, none] [] u (some (.int (rUnm u k m a).1)) (rUnm u k m a).2 := by
  refine k_aload_n d_R_unmap_43 rfl ?_
  refine k_getr (t := 20) d_R_unmap_44 f_R_68 (by decide) rfl (by decide) (by decide) rfl ?_
  refine k_iload d_R_unmap_47 rfl ?_
  refine k_ialdN (n := 96) d_R_unmap_49 (by decide) rfl rfl (by first | assumption | omega) (by decide) ?_
  refine k_if_ge d_R_unmap_50 (fun h50 => ?_) (fun h50 => ?_)
  · refine k_iconst (v := 0) d_R_unmap_55 (by decide) ?_
    refine k_istore d_R_unmap_56 (by decide) ?_
    refine k_iload_n d_R_unmap_58 rfl ?_
    refine k_iconst (v := 1) d_R_unmap_59 (by decide) ?_
    refine k_icmp_ne d_R_unmap_60 (fun h60 => ?_) (fun h60 => ?_)
    · refine k_iconst (v := 0) d_R_unmap_108 (by decide) ?_
      refine k_istore d_R_unmap_109 (by decide) ?_
      exact (c_R_unmap_loop hk hI 96 rfl 96 0 _ _ rfl rfl rfl).to (by simp [rUnm, *]) (by simp [rUnm, *])
    · refine k_aload_n d_R_unmap_63 rfl ?_
      refine k_iload d_R_unmap_64 rfl ?_
      refine k_virt1s d_R_unmap_66 l_R_109 g_R_removeBelow (c_R_removeBelow hI) rcvR (Nat.le_of_ble_eq_true rfl) ?_
      refine k_iload d_R_unmap_69 rfl ?_
      refine k_if_eq d_R_unmap_71 (fun h71 => ?_) (fun h71 => ?_)
      · refine k_iconst (v := 0) d_R_unmap_78 (by decide) ?_
        refine k_iadd d_R_unmap_79 ?_
        refine k_istore d_R_unmap_80 (by decide) ?_
        refine k_aload_n d_R_unmap_82 rfl ?_
        refine k_getr (t := 20) d_R_unmap_83 f_R_68 (by decide) rfl (by decide) (by decide) rfl ?_
        refine k_iload d_R_unmap_86 rfl ?_
        refine k_iload d_R_unmap_88 rfl ?_
        refine k_if_eq d_R_unmap_90 (fun h90 => ?_) (fun h90 => ?_)
        · refine k_aload_n d_R_unmap_97 rfl ?_
          refine k_getr (t := 20) d_R_unmap_98 f_R_68 (by decide) rfl (by decide) (by decide) rfl ?_
          refine k_iload d_R_unmap_101 rfl ?_
          refine k_ialdN (n := 96) d_R_unmap_103 (by decide) rfl rfl (by first | assumption | omega) (by decide) ?_
          refine k_iastN (n := 96) d_R_unmap_104 (by decide) rfl rfl (by first | assumption | omega) (by decide) ?_
          refine k_iload d_R_unmap_105 rfl ?_
          exact k_iret d_R_unmap_107 rfl (by first | exact absurd h71 h90 | exact absurd h90 h71 | simp [rUnm, *]) (by first | exact absurd h71 h90 | exact absurd h90 h71 | simp [rUnm, *])
        · refine k_iconst (v := (-1)) d_R_unmap_93 (by decide) ?_
          refine k_goto d_R_unmap_94 ?_
          refine k_iastN (n := 96) d_R_unmap_104 (by decide) rfl rfl (by first | assumption | omega) (by decide) ?_
          refine k_iload d_R_unmap_105 rfl ?_
          exact k_iret d_R_unmap_107 rfl (by first | exact absurd h71 h90 | exact absurd h90 h71 | simp [rUnm, *]) (by first | exact absurd h71 h90 | exact absurd h90 h71 | simp [rUnm, *])
      · refine k_iconst (v := 1) d_R_unmap_74 (by decide) ?_
        refine k_goto d_R_unmap_75 ?_
        refine k_iadd d_R_unmap_79 ?_
        refine k_istore d_R_unmap_80 (by decide) ?_
        refine k_aload_n d_R_unmap_82 rfl ?_
        refine k_getr (t := 20) d_R_unmap_83 f_R_68 (by decide) rfl (by decide) (by decide) rfl ?_
        refine k_iload d_R_unmap_86 rfl ?_
        refine k_iload d_R_unmap_88 rfl ?_
        refine k_if_eq d_R_unmap_90 (fun h90 => ?_) (fun h90 => ?_)
        · refine k_aload_n d_R_unmap_97 rfl ?_
          refine k_getr (t := 20) d_R_unmap_98 f_R_68 (by decide) rfl (by decide) (by decide) rfl ?_
          refine k_iload d_R_unmap_101 rfl ?_
          refine k_ialdN (n := 96) d_R_unmap_103 (by decide) rfl rfl (by first | assumption | omega) (by decide) ?_
          refine k_iastN (n := 96) d_R_unmap_104 (by decide) rfl rfl (by first | assumption | omega) (by decide) ?_
          refine k_iload d_R_unmap_105 rfl ?_
          exact k_iret d_R_unmap_107 rfl (by first | exact absurd h71 h90 | exact absurd h90 h71 | simp [rUnm, *]) (by first | exact absurd h71 h90 | exact absurd h90 h71 | simp [rUnm, *])
        · refine k_iconst (v := (-1)) d_R_unmap_93 (by decide) ?_
          refine k_goto d_R_unmap_94 ?_
          refine k_iastN (n := 96) d_R_unmap_104 (by decide) rfl rfl (by first | assumption | omega) (by decide) ?_
          refine k_iload d_R_unmap_105 rfl ?_
          exact k_iret d_R_unmap_107 rfl (by first | exact absurd h71 h90 | exact absurd h90 h71 | simp [rUnm, *]) (by first | exact absurd h71 h90 | exact absurd h90 h71 | simp [rUnm, *])
  · refine k_iconst (v := 0) d_R_unmap_53 (by decide) ?_
    exact k_iret d_R_unmap_54 rfl (by simp [rUnm, *]) (by simp [rUnm, *])

set_option maxRecDepth 4000 in
theorem c_R_unmap {l : Launch} {D : va_G} {cI cB cT : ClassId} {ad : Nat → Nat} {d : Nat} {u : kSt} {t p m a : Int32} (hI : rInv u) : KSp (kWl lyR l D cI cB cT ad) y_R_unmap m_R_unmap (d + 2) [.ref 0, .int t, .int p, .int m, .int a] u (some (.int (rUnmap u t p m a).1)) (rUnmap u t p m a).2 := by
  refine KSp.of (by decide) rfl (Nat.le_of_ble_eq_true rfl) rfl ?_
  show KAt (kWl lyR l D cI cB cT ad) m_R_unmap (d + 2) 0 [some (.ref 0), some (.int t), some (.int p), some (.int m), some (.int a), none, none, none] [] u (some (.int (rUnmap u t p m a).1)) (rUnmap u t p m a).2
  refine k_aload_n d_R_unmap_0 rfl ?_
  refine k_iload_n d_R_unmap_1 rfl ?_
  refine k_virt1s d_R_unmap_2 l_R_102 g_R_running c_R_running rcvR (Nat.le_of_ble_eq_true rfl) ?_
  refine k_if_eqB d_R_unmap_5 (fun h5 => ?_) (fun h5 => ?_)
  · refine k_iconst (v := (-1)) d_R_unmap_28 (by decide) ?_
    exact k_iret d_R_unmap_29 rfl (by simp [rUnmap, *]) (by simp [rUnmap, *])
  · refine k_iload_n d_R_unmap_8 rfl ?_
    refine k_if_lt d_R_unmap_9 (fun h9 => ?_) (fun h9 => ?_)
    · refine k_iconst (v := (-1)) d_R_unmap_28 (by decide) ?_
      exact k_iret d_R_unmap_29 rfl (by simp [rUnmap, *]) (by simp [rUnmap, *])
    · refine k_iload_n d_R_unmap_12 rfl ?_
      refine k_bipush (v := 15) d_R_unmap_13 (by decide) ?_
      refine k_icmp_gt d_R_unmap_15 (fun h15 => ?_) (fun h15 => ?_)
      · refine k_iconst (v := (-1)) d_R_unmap_28 (by decide) ?_
        exact k_iret d_R_unmap_29 rfl (by simp [rUnmap, *]) (by simp [rUnmap, *])
      · refine k_iload_n d_R_unmap_18 rfl ?_
        refine k_iconst (v := 1) d_R_unmap_19 (by decide) ?_
        refine k_icmp_eq d_R_unmap_20 (fun h20 => ?_) (fun h20 => ?_)
        · refine k_bipush (v := 16) d_R_unmap_30 (by decide) ?_
          refine k_aload_n d_R_unmap_32 rfl ?_
          refine k_getr (t := 2) d_R_unmap_33 f_R_13 (by decide) rfl (by decide) (by decide) rfl ?_
          refine k_iload_n d_R_unmap_36 rfl ?_
          refine k_iald d_R_unmap_37 (by decide) rfl (rRunning_in h5) ?_
          refine k_imul d_R_unmap_38 ?_
          refine k_iload_n d_R_unmap_39 rfl ?_
          refine k_iadd d_R_unmap_40 ?_
          refine k_istore d_R_unmap_41 (by decide) ?_
          have ht := rRunning_in h5
          have hs := rsl_eq (hI.space (vin_lt ht)) (vin_le (m := 15) h9 h15)
          have e1 : rUnmap u t p m a = rUnm u (rsl (u 2 (ix t)) p) m a := by rw [rUnmap, if_pos h5, if_neg h9, if_neg h15, if_neg (by simp [*])]
          rw [e1, hs.1]
          exact c_R_unmap_2 hs.2 hI
        · refine k_iload_n d_R_unmap_23 rfl ?_
          refine k_iconst (v := 2) d_R_unmap_24 (by decide) ?_
          refine k_icmp_eq d_R_unmap_25 (fun h25 => ?_) (fun h25 => ?_)
          · refine k_bipush (v := 16) d_R_unmap_30 (by decide) ?_
            refine k_aload_n d_R_unmap_32 rfl ?_
            refine k_getr (t := 2) d_R_unmap_33 f_R_13 (by decide) rfl (by decide) (by decide) rfl ?_
            refine k_iload_n d_R_unmap_36 rfl ?_
            refine k_iald d_R_unmap_37 (by decide) rfl (rRunning_in h5) ?_
            refine k_imul d_R_unmap_38 ?_
            refine k_iload_n d_R_unmap_39 rfl ?_
            refine k_iadd d_R_unmap_40 ?_
            refine k_istore d_R_unmap_41 (by decide) ?_
            have ht := rRunning_in h5
            have hs := rsl_eq (hI.space (vin_lt ht)) (vin_le (m := 15) h9 h15)
            have e1 : rUnmap u t p m a = rUnm u (rsl (u 2 (ix t)) p) m a := by rw [rUnmap, if_pos h5, if_neg h9, if_neg h15, if_neg (by simp [*])]
            rw [e1, hs.1]
            exact c_R_unmap_2 hs.2 hI
          · refine k_iconst (v := (-1)) d_R_unmap_28 (by decide) ?_
            exact k_iret d_R_unmap_29 rfl (by simp [rUnmap, *]) (by simp [rUnmap, *])

theorem c_R_tick_loop {l : Launch} {D : va_G} {cI cB cT : ClassId} {ad : Nat → Nat} {d : Nat} {u : kSt} (N : Nat) (hN : N = 8) : ∀ (n k : Nat) (a : Int32) (y : kSt), k + n = N → a = rTickN u k → y = rTickS u k → KAt (kWl lyR l D cI cB cT ad) m_R_tick (d + 1) 14 [some (.ref 0), some (.int a), some (.int (nI k)), none] [] y (some (.int (rTickN u N))) (rTickS u N) := by
  intro n
  induction n with
  | zero =>
    intro k a y hk ha hy
    subst ha
    subst hy
    obtain rfl : k = N := by omega
    have h0 : ¬ ¬ (8 : Int32) ≤ nI k := by rw [hN]; decide
    refine k_iload_n d_R_tick_14 rfl ?_
    refine k_bipush (v := 8) d_R_tick_15 (by decide) ?_
    refine k_icmp_ge d_R_tick_17 (fun h17 => ?_) (fun h17 => absurd h17 h0)
    refine k_iload_n d_R_tick_106 rfl ?_
    exact k_iret d_R_tick_107 rfl (by first | rfl | (simp [bI] <;> done) | (simp [bI, *] <;> done)) (by first | rfl | (simp [bI] <;> done) | (simp [bI, *] <;> done))
  | succ n ih =>
    intro k a y hk ha hy
    subst ha
    subst hy
    have hk2 : k < 8 := by omega
    have h0 : ¬ (8 : Int32) ≤ nI k := nI_ge (a := k) (b := 8) hk2 (by decide)
    refine k_iload_n d_R_tick_14 rfl ?_
    refine k_bipush (v := 8) d_R_tick_15 (by decide) ?_
    refine k_icmp_ge d_R_tick_17 (fun h17 => absurd h17 h0) (fun h17 => ?_)
    refine k_aload_n d_R_tick_20 rfl ?_
    refine k_getr (t := 1) d_R_tick_21 f_R_7 (by decide) rfl (by decide) (by decide) rfl ?_
    refine k_iload_n d_R_tick_24 rfl ?_
    refine k_baldN (n := 8) d_R_tick_25 (by decide) rfl rfl (by first | assumption | omega) (by decide) ?_
    refine k_if_eq d_R_tick_26 (fun h26 => ?_) (fun h26 => ?_)
    · refine k_iconst (v := 0) d_R_tick_63 (by decide) ?_
      refine k_istore_n d_R_tick_64 (by decide) ?_
      refine k_iload_n d_R_tick_65 rfl ?_
      refine k_if_eq d_R_tick_66 (fun _ => ?_) (fun h => absurd h (by decide))
      refine k_incN d_R_tick_100 rfl (by decide) ?_
      refine k_goto d_R_tick_103 ?_
      refine k_forget 3 ?_
      exact ih (k + 1) _ _ (by omega) (by simp [rTickN, rTickB, *]) (by simp [rTickS, rTickB, *])
    · refine k_aload_n d_R_tick_29 rfl ?_
      refine k_getr (t := 13) d_R_tick_30 f_R_47 (by decide) rfl (by decide) (by decide) rfl ?_
      refine k_iload_n d_R_tick_33 rfl ?_
      refine k_ialdN (n := 8) d_R_tick_34 (by decide) rfl rfl (by first | assumption | omega) (by decide) ?_
      refine k_iconst (v := 1) d_R_tick_35 (by decide) ?_
      refine k_icmp_eq d_R_tick_36 (fun h36 => ?_) (fun h36 => ?_)
      · refine k_iconst (v := 1) d_R_tick_59 (by decide) ?_
        refine k_goto d_R_tick_60 ?_
        refine k_istore_n d_R_tick_64 (by decide) ?_
        refine k_iload_n d_R_tick_65 rfl ?_
        refine k_if_eq d_R_tick_66 (fun h => absurd h (by decide)) (fun _ => ?_)
        refine k_aload_n d_R_tick_69 rfl ?_
        refine k_getr (t := 15) d_R_tick_70 f_R_53 (by decide) rfl (by decide) (by decide) rfl ?_
        refine k_iload_n d_R_tick_73 rfl ?_
        refine k_ialdN (n := 8) d_R_tick_74 (by decide) rfl rfl (by first | assumption | omega) (by decide) ?_
        refine k_if_lt d_R_tick_75 (fun h75 => ?_) (fun h75 => ?_)
        · refine k_incN d_R_tick_100 rfl (by decide) ?_
          refine k_goto d_R_tick_103 ?_
          refine k_forget 3 ?_
          exact ih (k + 1) _ _ (by omega) (by simp [rTickN, rTickB, *]) (by simp [rTickS, rTickB, *])
        · refine k_aload_n d_R_tick_78 rfl ?_
          refine k_getr (t := 15) d_R_tick_79 f_R_53 (by decide) rfl (by decide) (by decide) rfl ?_
          refine k_iload_n d_R_tick_82 rfl ?_
          refine k_ialdN (n := 8) d_R_tick_83 (by decide) rfl rfl (by first | assumption | omega) (by decide) ?_
          refine k_aload_n d_R_tick_84 rfl ?_
          refine k_getf d_R_tick_85 f_R_91 (by decide) rfl (by decide) (by decide) rfl ?_
          refine k_icmp_gt d_R_tick_88 (fun h88 => ?_) (fun h88 => ?_)
          · refine k_incN d_R_tick_100 rfl (by decide) ?_
            refine k_goto d_R_tick_103 ?_
            refine k_forget 3 ?_
            exact ih (k + 1) _ _ (by omega) (by simp [rTickN, rTickB, *]) (by simp [rTickS, rTickB, *])
          · refine k_aload_n d_R_tick_91 rfl ?_
            refine k_iload_n d_R_tick_92 rfl ?_
            refine k_iconst (v := 1) d_R_tick_93 (by decide) ?_
            refine k_virt2v d_R_tick_94 l_R_98 g_R_run (c_R_run hk2) rcvR (Nat.le_of_ble_eq_true rfl) ?_
            refine k_inc1 d_R_tick_97 rfl (by decide) ?_
            refine k_incN d_R_tick_100 rfl (by decide) ?_
            refine k_goto d_R_tick_103 ?_
            refine k_forget 3 ?_
            exact ih (k + 1) _ _ (by omega) (by simp [rTickN, rTickB, *]) (by simp [rTickS, rTickB, *])
      · refine k_aload_n d_R_tick_39 rfl ?_
        refine k_getr (t := 13) d_R_tick_40 f_R_47 (by decide) rfl (by decide) (by decide) rfl ?_
        refine k_iload_n d_R_tick_43 rfl ?_
        refine k_ialdN (n := 8) d_R_tick_44 (by decide) rfl rfl (by first | assumption | omega) (by decide) ?_
        refine k_iconst (v := 3) d_R_tick_45 (by decide) ?_
        refine k_icmp_eq d_R_tick_46 (fun h46 => ?_) (fun h46 => ?_)
        · refine k_iconst (v := 1) d_R_tick_59 (by decide) ?_
          refine k_goto d_R_tick_60 ?_
          refine k_istore_n d_R_tick_64 (by decide) ?_
          refine k_iload_n d_R_tick_65 rfl ?_
          refine k_if_eq d_R_tick_66 (fun h => absurd h (by decide)) (fun _ => ?_)
          refine k_aload_n d_R_tick_69 rfl ?_
          refine k_getr (t := 15) d_R_tick_70 f_R_53 (by decide) rfl (by decide) (by decide) rfl ?_
          refine k_iload_n d_R_tick_73 rfl ?_
          refine k_ialdN (n := 8) d_R_tick_74 (by decide) rfl rfl (by first | assumption | omega) (by decide) ?_
          refine k_if_lt d_R_tick_75 (fun h75 => ?_) (fun h75 => ?_)
          · refine k_incN d_R_tick_100 rfl (by decide) ?_
            refine k_goto d_R_tick_103 ?_
            refine k_forget 3 ?_
            exact ih (k + 1) _ _ (by omega) (by simp [rTickN, rTickB, *]) (by simp [rTickS, rTickB, *])
          · refine k_aload_n d_R_tick_78 rfl ?_
            refine k_getr (t := 15) d_R_tick_79 f_R_53 (by decide) rfl (by decide) (by decide) rfl ?_
            refine k_iload_n d_R_tick_82 rfl ?_
            refine k_ialdN (n := 8) d_R_tick_83 (by decide) rfl rfl (by first | assumption | omega) (by decide) ?_
            refine k_aload_n d_R_tick_84 rfl ?_
            refine k_getf d_R_tick_85 f_R_91 (by decide) rfl (by decide) (by decide) rfl ?_
            refine k_icmp_gt d_R_tick_88 (fun h88 => ?_) (fun h88 => ?_)
            · refine k_incN d_R_tick_100 rfl (by decide) ?_
              refine k_goto d_R_tick_103 ?_
              refine k_forget 3 ?_
              exact ih (k + 1) _ _ (by omega) (by simp [rTickN, rTickB, *]) (by simp [rTickS, rTickB, *])
            · refine k_aload_n d_R_tick_91 rfl ?_
              refine k_iload_n d_R_tick_92 rfl ?_
              refine k_iconst (v := 1) d_R_tick_93 (by decide) ?_
              refine k_virt2v d_R_tick_94 l_R_98 g_R_run (c_R_run hk2) rcvR (Nat.le_of_ble_eq_true rfl) ?_
              refine k_inc1 d_R_tick_97 rfl (by decide) ?_
              refine k_incN d_R_tick_100 rfl (by decide) ?_
              refine k_goto d_R_tick_103 ?_
              refine k_forget 3 ?_
              exact ih (k + 1) _ _ (by omega) (by simp [rTickN, rTickB, *]) (by simp [rTickS, rTickB, *])
        · refine k_aload_n d_R_tick_49 rfl ?_
          refine k_getr (t := 13) d_R_tick_50 f_R_47 (by decide) rfl (by decide) (by decide) rfl ?_
          refine k_iload_n d_R_tick_53 rfl ?_
          refine k_ialdN (n := 8) d_R_tick_54 (by decide) rfl rfl (by first | assumption | omega) (by decide) ?_
          refine k_iconst (v := 2) d_R_tick_55 (by decide) ?_
          refine k_icmp_ne d_R_tick_56 (fun h56 => ?_) (fun h56 => ?_)
          · refine k_iconst (v := 0) d_R_tick_63 (by decide) ?_
            refine k_istore_n d_R_tick_64 (by decide) ?_
            refine k_iload_n d_R_tick_65 rfl ?_
            refine k_if_eq d_R_tick_66 (fun _ => ?_) (fun h => absurd h (by decide))
            refine k_incN d_R_tick_100 rfl (by decide) ?_
            refine k_goto d_R_tick_103 ?_
            refine k_forget 3 ?_
            exact ih (k + 1) _ _ (by omega) (by simp [rTickN, rTickB, *]) (by simp [rTickS, rTickB, *])
          · refine k_iconst (v := 1) d_R_tick_59 (by decide) ?_
            refine k_goto d_R_tick_60 ?_
            refine k_istore_n d_R_tick_64 (by decide) ?_
            refine k_iload_n d_R_tick_65 rfl ?_
            refine k_if_eq d_R_tick_66 (fun h => absurd h (by decide)) (fun _ => ?_)
            refine k_aload_n d_R_tick_69 rfl ?_
            refine k_getr (t := 15) d_R_tick_70 f_R_53 (by decide) rfl (by decide) (by decide) rfl ?_
            refine k_iload_n d_R_tick_73 rfl ?_
            refine k_ialdN (n := 8) d_R_tick_74 (by decide) rfl rfl (by first | assumption | omega) (by decide) ?_
            refine k_if_lt d_R_tick_75 (fun h75 => ?_) (fun h75 => ?_)
            · refine k_incN d_R_tick_100 rfl (by decide) ?_
              refine k_goto d_R_tick_103 ?_
              refine k_forget 3 ?_
              exact ih (k + 1) _ _ (by omega) (by simp [rTickN, rTickB, *]) (by simp [rTickS, rTickB, *])
            · refine k_aload_n d_R_tick_78 rfl ?_
              refine k_getr (t := 15) d_R_tick_79 f_R_53 (by decide) rfl (by decide) (by decide) rfl ?_
              refine k_iload_n d_R_tick_82 rfl ?_
              refine k_ialdN (n := 8) d_R_tick_83 (by decide) rfl rfl (by first | assumption | omega) (by decide) ?_
              refine k_aload_n d_R_tick_84 rfl ?_
              refine k_getf d_R_tick_85 f_R_91 (by decide) rfl (by decide) (by decide) rfl ?_
              refine k_icmp_gt d_R_tick_88 (fun h88 => ?_) (fun h88 => ?_)
              · refine k_incN d_R_tick_100 rfl (by decide) ?_
                refine k_goto d_R_tick_103 ?_
                refine k_forget 3 ?_
                exact ih (k + 1) _ _ (by omega) (by simp [rTickN, rTickB, *]) (by simp [rTickS, rTickB, *])
              · refine k_aload_n d_R_tick_91 rfl ?_
                refine k_iload_n d_R_tick_92 rfl ?_
                refine k_iconst (v := 1) d_R_tick_93 (by decide) ?_
                refine k_virt2v d_R_tick_94 l_R_98 g_R_run (c_R_run hk2) rcvR (Nat.le_of_ble_eq_true rfl) ?_
                refine k_inc1 d_R_tick_97 rfl (by decide) ?_
                refine k_incN d_R_tick_100 rfl (by decide) ?_
                refine k_goto d_R_tick_103 ?_
                refine k_forget 3 ?_
                exact ih (k + 1) _ _ (by omega) (by simp [rTickN, rTickB, *]) (by simp [rTickS, rTickB, *])

set_option maxRecDepth 4000 in
theorem c_R_tick {l : Launch} {D : va_G} {cI cB cT : ClassId} {ad : Nat → Nat} {d : Nat} {u : kSt}  : KSp (kWl lyR l D cI cB cT ad) y_R_tick m_R_tick (d + 1) [.ref 0] u (some (.int (rTick u).1)) (rTick u).2 := by
  refine KSp.of (by decide) rfl (Nat.le_of_ble_eq_true rfl) rfl ?_
  show KAt (kWl lyR l D cI cB cT ad) m_R_tick (d + 1) 0 [some (.ref 0), none, none, none] [] u (some (.int (rTick u).1)) (rTick u).2
  refine k_aload_n d_R_tick_0 rfl ?_
  refine k_dup d_R_tick_1 rfl ?_
  refine k_getf d_R_tick_2 f_R_91 (by decide) rfl (by decide) (by decide) rfl ?_
  refine k_iconst (v := 1) d_R_tick_5 (by decide) ?_
  refine k_iadd d_R_tick_6 ?_
  refine k_putf d_R_tick_7 p_R_91 (by decide) rfl (by decide) (by decide) rfl rfl rfl ?_
  refine k_iconst (v := 0) d_R_tick_10 (by decide) ?_
  refine k_istore_n d_R_tick_11 (by decide) ?_
  refine k_iconst (v := 0) d_R_tick_12 (by decide) ?_
  refine k_istore_n d_R_tick_13 (by decide) ?_
  exact (c_R_tick_loop (u := kup u 0 0 (u 0 0 + 1)) 8 rfl 8 0 _ _ rfl rfl rfl).to (by simp only [rTick]) (by simp only [rTick])

set_option maxRecDepth 4000 in
theorem c_R_state {l : Launch} {D : va_G} {cI cB cT : ClassId} {ad : Nat → Nat} {d : Nat} {u : kSt} {t : Int32} : KSp (kWl lyR l D cI cB cT ad) y_R_state m_R_state (d + 1) [.ref 0, .int t] u (some (.int (rState u t))) u := by
  refine KSp.of (by decide) rfl (Nat.le_of_ble_eq_true rfl) rfl ?_
  show KAt (kWl lyR l D cI cB cT ad) m_R_state (d + 1) 0 [some (.ref 0), some (.int t)] [] u (some (.int (rState u t))) u
  refine k_aload_n d_R_state_0 rfl ?_
  refine k_iload_n d_R_state_1 rfl ?_
  refine k_virt1s d_R_state_2 l_R_87 g_R_thread c_R_thread rcvR (Nat.le_of_ble_eq_true rfl) ?_
  refine k_if_eqB d_R_state_5 (fun h5 => ?_) (fun h5 => ?_)
  · refine k_iconst (v := (-1)) d_R_state_17 (by decide) ?_
    exact k_iret d_R_state_18 rfl (by first | rfl | (simp [rState] <;> done) | (simp [rState, *] <;> done)) (by first | rfl | (simp [rState] <;> done) | (simp [rState, *] <;> done))
  · refine k_aload_n d_R_state_8 rfl ?_
    refine k_getr (t := 13) d_R_state_9 f_R_47 (by decide) rfl (by decide) (by decide) rfl ?_
    refine k_iload_n d_R_state_12 rfl ?_
    refine k_iald d_R_state_13 (by decide) rfl (rThread_in h5) ?_
    refine k_goto d_R_state_14 ?_
    exact k_iret d_R_state_18 rfl (by first | rfl | (simp [rState] <;> done) | (simp [rState, *] <;> done)) (by first | rfl | (simp [rState] <;> done) | (simp [rState, *] <;> done))

set_option maxRecDepth 4000 in
theorem c_R_outcome {l : Launch} {D : va_G} {cI cB cT : ClassId} {ad : Nat → Nat} {d : Nat} {u : kSt} {t : Int32} : KSp (kWl lyR l D cI cB cT ad) y_R_outcome m_R_outcome (d + 1) [.ref 0, .int t] u (some (.int (rOutcome u t))) u := by
  refine KSp.of (by decide) rfl (Nat.le_of_ble_eq_true rfl) rfl ?_
  show KAt (kWl lyR l D cI cB cT ad) m_R_outcome (d + 1) 0 [some (.ref 0), some (.int t)] [] u (some (.int (rOutcome u t))) u
  refine k_aload_n d_R_outcome_0 rfl ?_
  refine k_iload_n d_R_outcome_1 rfl ?_
  refine k_virt1s d_R_outcome_2 l_R_87 g_R_thread c_R_thread rcvR (Nat.le_of_ble_eq_true rfl) ?_
  refine k_if_eqB d_R_outcome_5 (fun h5 => ?_) (fun h5 => ?_)
  · refine k_iconst (v := (-1)) d_R_outcome_17 (by decide) ?_
    exact k_iret d_R_outcome_18 rfl (by first | rfl | (simp [rOutcome] <;> done) | (simp [rOutcome, *] <;> done)) (by first | rfl | (simp [rOutcome] <;> done) | (simp [rOutcome, *] <;> done))
  · refine k_aload_n d_R_outcome_8 rfl ?_
    refine k_getr (t := 9) d_R_outcome_9 f_R_35 (by decide) rfl (by decide) (by decide) rfl ?_
    refine k_iload_n d_R_outcome_12 rfl ?_
    refine k_iald d_R_outcome_13 (by decide) rfl (rThread_in h5) ?_
    refine k_goto d_R_outcome_14 ?_
    exact k_iret d_R_outcome_18 rfl (by first | rfl | (simp [rOutcome] <;> done) | (simp [rOutcome, *] <;> done)) (by first | rfl | (simp [rOutcome] <;> done) | (simp [rOutcome, *] <;> done))

set_option maxRecDepth 4000 in
theorem c_R_value {l : Launch} {D : va_G} {cI cB cT : ClassId} {ad : Nat → Nat} {d : Nat} {u : kSt} {t : Int32} : KSp (kWl lyR l D cI cB cT ad) y_R_value m_R_value (d + 1) [.ref 0, .int t] u (some (.int (rValue u t))) u := by
  refine KSp.of (by decide) rfl (Nat.le_of_ble_eq_true rfl) rfl ?_
  show KAt (kWl lyR l D cI cB cT ad) m_R_value (d + 1) 0 [some (.ref 0), some (.int t)] [] u (some (.int (rValue u t))) u
  refine k_aload_n d_R_value_0 rfl ?_
  refine k_iload_n d_R_value_1 rfl ?_
  refine k_virt1s d_R_value_2 l_R_87 g_R_thread c_R_thread rcvR (Nat.le_of_ble_eq_true rfl) ?_
  refine k_if_eqB d_R_value_5 (fun h5 => ?_) (fun h5 => ?_)
  · refine k_iconst (v := 0) d_R_value_17 (by decide) ?_
    exact k_iret d_R_value_18 rfl (by first | rfl | (simp [rValue] <;> done) | (simp [rValue, *] <;> done)) (by first | rfl | (simp [rValue] <;> done) | (simp [rValue, *] <;> done))
  · refine k_aload_n d_R_value_8 rfl ?_
    refine k_getr (t := 11) d_R_value_9 f_R_41 (by decide) rfl (by decide) (by decide) rfl ?_
    refine k_iload_n d_R_value_12 rfl ?_
    refine k_iald d_R_value_13 (by decide) rfl (rThread_in h5) ?_
    refine k_goto d_R_value_14 ?_
    exact k_iret d_R_value_18 rfl (by first | rfl | (simp [rValue] <;> done) | (simp [rValue, *] <;> done)) (by first | rfl | (simp [rValue] <;> done) | (simp [rValue, *] <;> done))

set_option maxRecDepth 4000 in
theorem c_R_sender {l : Launch} {D : va_G} {cI cB cT : ClassId} {ad : Nat → Nat} {d : Nat} {u : kSt} {t : Int32} : KSp (kWl lyR l D cI cB cT ad) y_R_sender m_R_sender (d + 1) [.ref 0, .int t] u (some (.int (rSender u t))) u := by
  refine KSp.of (by decide) rfl (Nat.le_of_ble_eq_true rfl) rfl ?_
  show KAt (kWl lyR l D cI cB cT ad) m_R_sender (d + 1) 0 [some (.ref 0), some (.int t)] [] u (some (.int (rSender u t))) u
  refine k_aload_n d_R_sender_0 rfl ?_
  refine k_iload_n d_R_sender_1 rfl ?_
  refine k_virt1s d_R_sender_2 l_R_87 g_R_thread c_R_thread rcvR (Nat.le_of_ble_eq_true rfl) ?_
  refine k_if_eqB d_R_sender_5 (fun h5 => ?_) (fun h5 => ?_)
  · refine k_iconst (v := (-1)) d_R_sender_17 (by decide) ?_
    exact k_iret d_R_sender_18 rfl (by first | rfl | (simp [rSender] <;> done) | (simp [rSender, *] <;> done)) (by first | rfl | (simp [rSender] <;> done) | (simp [rSender, *] <;> done))
  · refine k_aload_n d_R_sender_8 rfl ?_
    refine k_getr (t := 10) d_R_sender_9 f_R_38 (by decide) rfl (by decide) (by decide) rfl ?_
    refine k_iload_n d_R_sender_12 rfl ?_
    refine k_iald d_R_sender_13 (by decide) rfl (rThread_in h5) ?_
    refine k_goto d_R_sender_14 ?_
    exact k_iret d_R_sender_18 rfl (by first | rfl | (simp [rSender] <;> done) | (simp [rSender, *] <;> done)) (by first | rfl | (simp [rSender] <;> done) | (simp [rSender, *] <;> done))

set_option maxRecDepth 4000 in
theorem c_R_register {l : Launch} {D : va_G} {cI cB cT : ClassId} {ad : Nat → Nat} {d : Nat} {u : kSt} {t k : Int32} : KSp (kWl lyR l D cI cB cT ad) y_R_register m_R_register (d + 1) [.ref 0, .int t, .int k] u (some (.int (rRegister u t k))) u := by
  refine KSp.of (by decide) rfl (Nat.le_of_ble_eq_true rfl) rfl ?_
  show KAt (kWl lyR l D cI cB cT ad) m_R_register (d + 1) 0 [some (.ref 0), some (.int t), some (.int k)] [] u (some (.int (rRegister u t k))) u
  refine k_aload_n d_R_register_0 rfl ?_
  refine k_iload_n d_R_register_1 rfl ?_
  refine k_virt1s d_R_register_2 l_R_87 g_R_thread c_R_thread rcvR (Nat.le_of_ble_eq_true rfl) ?_
  refine k_if_eqB d_R_register_5 (fun h5 => ?_) (fun h5 => ?_)
  · refine k_iconst (v := 0) d_R_register_17 (by decide) ?_
    exact k_iret d_R_register_18 rfl (by first | rfl | (simp [rRegister] <;> done) | (simp [rRegister, *] <;> done)) (by first | rfl | (simp [rRegister] <;> done) | (simp [rRegister, *] <;> done))
  · refine k_iload_n d_R_register_8 rfl ?_
    refine k_if_lt d_R_register_9 (fun h9 => ?_) (fun h9 => ?_)
    · refine k_iconst (v := 0) d_R_register_17 (by decide) ?_
      exact k_iret d_R_register_18 rfl (by first | rfl | (simp [rRegister] <;> done) | (simp [rRegister, *] <;> done)) (by first | rfl | (simp [rRegister] <;> done) | (simp [rRegister, *] <;> done))
    · refine k_iload_n d_R_register_12 rfl ?_
      refine k_iconst (v := 4) d_R_register_13 (by decide) ?_
      refine k_icmp_le d_R_register_14 (fun h14 => ?_) (fun h14 => ?_)
      · refine k_iload_n d_R_register_19 rfl ?_
        refine k_iconst (v := 4) d_R_register_20 (by decide) ?_
        refine k_icmp_ne d_R_register_21 (fun h21 => ?_) (fun h21 => ?_)
        · refine k_aload_n d_R_register_33 rfl ?_
          refine k_getr (t := 4) d_R_register_34 f_R_20 (by decide) rfl (by decide) (by decide) rfl ?_
          refine k_iconst (v := 4) d_R_register_37 (by decide) ?_
          refine k_iload_n d_R_register_38 rfl ?_
          refine k_imul d_R_register_39 ?_
          refine k_iload_n d_R_register_40 rfl ?_
          refine k_iadd d_R_register_41 ?_
          refine k_iald d_R_register_42 (by decide) rfl (rg_in (rThread_in h5) (vin (m := 4) h9 (fun e => h21 (Int32.le_antisymm h14 e)))) ?_
          exact k_iret d_R_register_43 rfl (by first | rfl | (simp [rRegister] <;> done) | (simp [rRegister, *] <;> done)) (by first | rfl | (simp [rRegister] <;> done) | (simp [rRegister, *] <;> done))
        · refine k_aload_n d_R_register_24 rfl ?_
          refine k_getr (t := 12) d_R_register_25 f_R_44 (by decide) rfl (by decide) (by decide) rfl ?_
          refine k_iload_n d_R_register_28 rfl ?_
          refine k_iald d_R_register_29 (by decide) rfl (rThread_in h5) ?_
          refine k_goto d_R_register_30 ?_
          exact k_iret d_R_register_43 rfl (by first | rfl | (simp [rRegister] <;> done) | (simp [rRegister, *] <;> done)) (by first | rfl | (simp [rRegister] <;> done) | (simp [rRegister, *] <;> done))
      · refine k_iconst (v := 0) d_R_register_17 (by decide) ?_
        exact k_iret d_R_register_18 rfl (by first | rfl | (simp [rRegister] <;> done) | (simp [rRegister, *] <;> done)) (by first | rfl | (simp [rRegister] <;> done) | (simp [rRegister, *] <;> done))

set_option maxRecDepth 4000 in
theorem c_R_word {l : Launch} {D : va_G} {cI cB cT : ClassId} {ad : Nat → Nat} {d : Nat} {u : kSt} {n : Int32} : KSp (kWl lyR l D cI cB cT ad) y_R_word m_R_word d [.ref 0, .int n] u (some (.int (rWord u n))) u := by
  refine KSp.of (by decide) rfl (Nat.le_of_ble_eq_true rfl) rfl ?_
  show KAt (kWl lyR l D cI cB cT ad) m_R_word d 0 [some (.ref 0), some (.int n)] [] u (some (.int (rWord u n))) u
  refine k_iload_n d_R_word_0 rfl ?_
  refine k_if_lt d_R_word_1 (fun h1 => ?_) (fun h1 => ?_)
  · refine k_iconst (v := 0) d_R_word_10 (by decide) ?_
    refine k_goto d_R_word_11 ?_
    exact k_iret d_R_word_20 rfl (by first | rfl | (simp [rWord] <;> done) | (simp [rWord, *] <;> done)) (by first | rfl | (simp [rWord] <;> done) | (simp [rWord, *] <;> done))
  · refine k_iload_n d_R_word_4 rfl ?_
    refine k_bipush (v := 15) d_R_word_5 (by decide) ?_
    refine k_icmp_le d_R_word_7 (fun h7 => ?_) (fun h7 => ?_)
    · refine k_aload_n d_R_word_14 rfl ?_
      refine k_getr (t := 24) d_R_word_15 f_R_80 (by decide) rfl (by decide) (by decide) rfl ?_
      refine k_iload_n d_R_word_18 rfl ?_
      refine k_iald d_R_word_19 (by decide) rfl (vin_le (m := 15) h1 (Int32.not_lt.mpr h7)) ?_
      exact k_iret d_R_word_20 rfl (by first | rfl | (simp [rWord] <;> done) | (simp [rWord, *] <;> done)) (by first | rfl | (simp [rWord] <;> done) | (simp [rWord, *] <;> done))
    · refine k_iconst (v := 0) d_R_word_10 (by decide) ?_
      refine k_goto d_R_word_11 ?_
      exact k_iret d_R_word_20 rfl (by first | rfl | (simp [rWord] <;> done) | (simp [rWord, *] <;> done)) (by first | rfl | (simp [rWord] <;> done) | (simp [rWord, *] <;> done))

set_option maxRecDepth 4000 in
theorem c_R_place {l : Launch} {D : va_G} {cI cB cT : ClassId} {ad : Nat → Nat} {d : Nat} {u : kSt} {a p : Int32} : KSp (kWl lyR l D cI cB cT ad) y_R_place m_R_place d [.ref 0, .int a, .int p] u (some (.int (rPlace u a p))) u := by
  refine KSp.of (by decide) rfl (Nat.le_of_ble_eq_true rfl) rfl ?_
  show KAt (kWl lyR l D cI cB cT ad) m_R_place d 0 [some (.ref 0), some (.int a), some (.int p)] [] u (some (.int (rPlace u a p))) u
  refine k_iload_n d_R_place_0 rfl ?_
  refine k_if_lt d_R_place_1 (fun h1 => ?_) (fun h1 => ?_)
  · refine k_iconst (v := (-1)) d_R_place_33 (by decide) ?_
    refine k_goto d_R_place_34 ?_
    exact k_iret d_R_place_43 rfl (by simp [rPlace, rsl, *]) rfl
  · refine k_iload_n d_R_place_4 rfl ?_
    refine k_iconst (v := 5) d_R_place_5 (by decide) ?_
    refine k_icmp_gt d_R_place_6 (fun h6 => ?_) (fun h6 => ?_)
    · refine k_iconst (v := (-1)) d_R_place_33 (by decide) ?_
      refine k_goto d_R_place_34 ?_
      exact k_iret d_R_place_43 rfl (by simp [rPlace, rsl, *]) rfl
    · refine k_iload_n d_R_place_9 rfl ?_
      refine k_if_lt d_R_place_10 (fun h10 => ?_) (fun h10 => ?_)
      · refine k_iconst (v := (-1)) d_R_place_33 (by decide) ?_
        refine k_goto d_R_place_34 ?_
        exact k_iret d_R_place_43 rfl (by simp [rPlace, rsl, *]) rfl
      · refine k_iload_n d_R_place_13 rfl ?_
        refine k_bipush (v := 15) d_R_place_14 (by decide) ?_
        refine k_icmp_gt d_R_place_16 (fun h16 => ?_) (fun h16 => ?_)
        · refine k_iconst (v := (-1)) d_R_place_33 (by decide) ?_
          refine k_goto d_R_place_34 ?_
          exact k_iret d_R_place_43 rfl (by simp [rPlace, rsl, *]) rfl
        · refine k_aload_n d_R_place_19 rfl ?_
          refine k_getr (t := 20) d_R_place_20 f_R_68 (by decide) rfl (by decide) (by decide) rfl ?_
          refine k_bipush (v := 16) d_R_place_23 (by decide) ?_
          refine k_iload_n d_R_place_25 rfl ?_
          refine k_imul d_R_place_26 ?_
          refine k_iload_n d_R_place_27 rfl ?_
          refine k_iadd d_R_place_28 ?_
          refine k_iald d_R_place_29 (by decide) rfl (by rw [(rsl_eq (vin_le (m := 5) h1 h6) (vin_le (m := 15) h10 h16)).1]; exact vin_n (rsl_eq (vin_le (m := 5) h1 h6) (vin_le (m := 15) h10 h16)).2) ?_
          refine k_if_ge d_R_place_30 (fun h30 => ?_) (fun h30 => ?_)
          · refine k_bipush (v := 16) d_R_place_37 (by decide) ?_
            refine k_iload_n d_R_place_39 rfl ?_
            refine k_imul d_R_place_40 ?_
            refine k_iload_n d_R_place_41 rfl ?_
            refine k_iadd d_R_place_42 ?_
            exact k_iret d_R_place_43 rfl (by simp [rPlace, rsl, *]) rfl
          · refine k_iconst (v := (-1)) d_R_place_33 (by decide) ?_
            refine k_goto d_R_place_34 ?_
            exact k_iret d_R_place_43 rfl (by simp [rPlace, rsl, *]) rfl

theorem rPlace_in {v : kSt} {a p : Int32} : rPlace v a p = -1 ∨ vp_in (rPlace v a p) 96 := by
  unfold rPlace
  split
  · exact Or.inl rfl
  · split
    · exact Or.inl rfl
    · split
      · exact Or.inl rfl
      · split
        · exact Or.inl rfl
        · split
          · rename_i h1 h2 h3 h4 h5
            have h := rsl_eq (vin_le (m := 5) h1 h2) (vin_le (m := 15) h3 h4)
            rw [h.1]
            exact Or.inr (vin_n h.2)
          · exact Or.inl rfl
set_option maxRecDepth 4000 in
theorem c_R_mapping {l : Launch} {D : va_G} {cI cB cT : ClassId} {ad : Nat → Nat} {d : Nat} {u : kSt} {a p : Int32} : KSp (kWl lyR l D cI cB cT ad) y_R_mapping m_R_mapping (d + 1) [.ref 0, .int a, .int p] u (some (.int (rMapping u a p))) u := by
  refine KSp.of (by decide) rfl (Nat.le_of_ble_eq_true rfl) rfl ?_
  show KAt (kWl lyR l D cI cB cT ad) m_R_mapping (d + 1) 0 [some (.ref 0), some (.int a), some (.int p), none] [] u (some (.int (rMapping u a p))) u
  refine k_aload_n d_R_mapping_0 rfl ?_
  refine k_iload_n d_R_mapping_1 rfl ?_
  refine k_iload_n d_R_mapping_2 rfl ?_
  refine k_virt2s d_R_mapping_3 l_R_148 g_R_place c_R_place rcvR (Nat.le_of_ble_eq_true rfl) ?_
  refine k_istore_n d_R_mapping_6 (by decide) ?_
  refine k_iload_n d_R_mapping_7 rfl ?_
  refine k_if_ge d_R_mapping_8 (fun h8 => ?_) (fun h8 => ?_)
  · refine k_sipush (v := 1000) d_R_mapping_15 (by decide) ?_
    refine k_aload_n d_R_mapping_18 rfl ?_
    refine k_getr (t := 22) d_R_mapping_19 f_R_74 (by decide) rfl (by decide) (by decide) rfl ?_
    refine k_iload_n d_R_mapping_22 rfl ?_
    refine k_iald d_R_mapping_23 (by decide) rfl (or_ge' rPlace_in h8) ?_
    refine k_imul d_R_mapping_24 ?_
    refine k_bipush (v := 10) d_R_mapping_25 (by decide) ?_
    refine k_aload_n d_R_mapping_27 rfl ?_
    refine k_getr (t := 20) d_R_mapping_28 f_R_68 (by decide) rfl (by decide) (by decide) rfl ?_
    refine k_iload_n d_R_mapping_31 rfl ?_
    refine k_iald d_R_mapping_32 (by decide) rfl (or_ge' rPlace_in h8) ?_
    refine k_imul d_R_mapping_33 ?_
    refine k_iadd d_R_mapping_34 ?_
    refine k_aload_n d_R_mapping_35 rfl ?_
    refine k_getr (t := 21) d_R_mapping_36 f_R_71 (by decide) rfl (by decide) (by decide) rfl ?_
    refine k_iload_n d_R_mapping_39 rfl ?_
    refine k_iald d_R_mapping_40 (by decide) rfl (or_ge' rPlace_in h8) ?_
    refine k_iadd d_R_mapping_41 ?_
    exact k_iret d_R_mapping_42 rfl (by first | rfl | (simp [rMapping] <;> done) | (simp [rMapping, *] <;> done)) (by first | rfl | (simp [rMapping] <;> done) | (simp [rMapping, *] <;> done))
  · refine k_iconst (v := (-1)) d_R_mapping_11 (by decide) ?_
    refine k_goto d_R_mapping_12 ?_
    exact k_iret d_R_mapping_42 rfl (by first | rfl | (simp [rMapping] <;> done) | (simp [rMapping, *] <;> done)) (by first | rfl | (simp [rMapping] <;> done) | (simp [rMapping, *] <;> done))

set_option maxRecDepth 4000 in
theorem c_R_heirs {l : Launch} {D : va_G} {cI cB cT : ClassId} {ad : Nat → Nat} {d : Nat} {u : kSt} {a p : Int32} (hI : rInv u) : KSp (kWl lyR l D cI cB cT ad) y_R_heirs m_R_heirs (d + 2) [.ref 0, .int a, .int p] u (some (.int (rHeirs u a p))) u := by
  refine KSp.of (by decide) rfl (Nat.le_of_ble_eq_true rfl) rfl ?_
  show KAt (kWl lyR l D cI cB cT ad) m_R_heirs (d + 2) 0 [some (.ref 0), some (.int a), some (.int p), none] [] u (some (.int (rHeirs u a p))) u
  refine k_aload_n d_R_heirs_0 rfl ?_
  refine k_iload_n d_R_heirs_1 rfl ?_
  refine k_iload_n d_R_heirs_2 rfl ?_
  refine k_virt2s d_R_heirs_3 l_R_148 g_R_place c_R_place rcvR (Nat.le_of_ble_eq_true rfl) ?_
  refine k_istore_n d_R_heirs_6 (by decide) ?_
  refine k_iload_n d_R_heirs_7 rfl ?_
  refine k_if_ge d_R_heirs_8 (fun h8 => ?_) (fun h8 => ?_)
  · refine k_aload_n d_R_heirs_15 rfl ?_
    refine k_iload_n d_R_heirs_16 rfl ?_
    refine k_virt1s d_R_heirs_17 l_R_152 g_R_descendants (c_R_descendants hI) rcvR (Nat.le_of_ble_eq_true rfl) ?_
    exact k_iret d_R_heirs_20 rfl (by first | rfl | (simp [rHeirs] <;> done) | (simp [rHeirs, *] <;> done)) (by first | rfl | (simp [rHeirs] <;> done) | (simp [rHeirs, *] <;> done))
  · refine k_iconst (v := (-1)) d_R_heirs_11 (by decide) ?_
    refine k_goto d_R_heirs_12 ?_
    exact k_iret d_R_heirs_20 rfl (by first | rfl | (simp [rHeirs] <;> done) | (simp [rHeirs, *] <;> done)) (by first | rfl | (simp [rHeirs] <;> done) | (simp [rHeirs, *] <;> done))

theorem c_R_waiting_loop {l : Launch} {D : va_G} {cI cB cT : ClassId} {ad : Nat → Nat} {d : Nat} {u : kSt} {t : Int32} (N : Nat) (hN : N = 8) : ∀ (n k : Nat) (a : Int32), k + n = N → a = rWaitCount u t k → KAt (kWl lyR l D cI cB cT ad) m_R_waiting (d + 1) 14 [some (.ref 0), some (.int t), some (.int a), some (.int (nI k))] [] u (some (.int (rWaitCount u t N))) u := by
  intro n
  induction n with
  | zero =>
    intro k a hk ha
    subst ha
    obtain rfl : k = N := by omega
    have h0 : ¬ ¬ (8 : Int32) ≤ nI k := by rw [hN]; decide
    refine k_iload_n d_R_waiting_14 rfl ?_
    refine k_bipush (v := 8) d_R_waiting_15 (by decide) ?_
    refine k_icmp_ge d_R_waiting_17 (fun h17 => ?_) (fun h17 => absurd h17 h0)
    refine k_iload_n d_R_waiting_43 rfl ?_
    exact k_iret d_R_waiting_44 rfl (by first | rfl | (simp [bI] <;> done) | (simp [bI, *] <;> done)) (by first | rfl | (simp [bI] <;> done) | (simp [bI, *] <;> done))
  | succ n ih =>
    intro k a hk ha
    subst ha
    have hk2 : k < 8 := by omega
    have h0 : ¬ (8 : Int32) ≤ nI k := nI_ge (a := k) (b := 8) hk2 (by decide)
    refine k_iload_n d_R_waiting_14 rfl ?_
    refine k_bipush (v := 8) d_R_waiting_15 (by decide) ?_
    refine k_icmp_ge d_R_waiting_17 (fun h17 => absurd h17 h0) (fun h17 => ?_)
    refine k_iload_n d_R_waiting_20 rfl ?_
    refine k_aload_n d_R_waiting_21 rfl ?_
    refine k_iload_n d_R_waiting_22 rfl ?_
    refine k_iload_n d_R_waiting_23 rfl ?_
    refine k_virt2s d_R_waiting_24 l_R_145 g_R_waitsFor (c_R_waitsFor hk2) rcvR (Nat.le_of_ble_eq_true rfl) ?_
    refine k_if_eqB d_R_waiting_27 (fun h27 => ?_) (fun h27 => ?_)
    · refine k_iconst (v := 0) d_R_waiting_34 (by decide) ?_
      refine k_iadd d_R_waiting_35 ?_
      refine k_istore_n d_R_waiting_36 (by decide) ?_
      refine k_incN d_R_waiting_37 rfl (by decide) ?_
      refine k_goto d_R_waiting_40 ?_
      exact ih (k + 1) _ (by omega) (by simp [rWaitCount, *])
    · refine k_iconst (v := 1) d_R_waiting_30 (by decide) ?_
      refine k_goto d_R_waiting_31 ?_
      refine k_iadd d_R_waiting_35 ?_
      refine k_istore_n d_R_waiting_36 (by decide) ?_
      refine k_incN d_R_waiting_37 rfl (by decide) ?_
      refine k_goto d_R_waiting_40 ?_
      exact ih (k + 1) _ (by omega) (by simp [rWaitCount, *])

set_option maxRecDepth 4000 in
theorem c_R_waiting {l : Launch} {D : va_G} {cI cB cT : ClassId} {ad : Nat → Nat} {d : Nat} {u : kSt} {t : Int32} : KSp (kWl lyR l D cI cB cT ad) y_R_waiting m_R_waiting (d + 1) [.ref 0, .int t] u (some (.int (rWaiting u t))) u := by
  refine KSp.of (by decide) rfl (Nat.le_of_ble_eq_true rfl) rfl ?_
  show KAt (kWl lyR l D cI cB cT ad) m_R_waiting (d + 1) 0 [some (.ref 0), some (.int t), none, none] [] u (some (.int (rWaiting u t))) u
  refine k_aload_n d_R_waiting_0 rfl ?_
  refine k_iload_n d_R_waiting_1 rfl ?_
  refine k_virt1s d_R_waiting_2 l_R_87 g_R_thread c_R_thread rcvR (Nat.le_of_ble_eq_true rfl) ?_
  refine k_if_neB d_R_waiting_5 (fun h5 => ?_) (fun h5 => ?_)
  · refine k_iconst (v := 0) d_R_waiting_10 (by decide) ?_
    refine k_istore_n d_R_waiting_11 (by decide) ?_
    refine k_iconst (v := 0) d_R_waiting_12 (by decide) ?_
    refine k_istore_n d_R_waiting_13 (by decide) ?_
    exact (c_R_waiting_loop 8 rfl 8 0 _ rfl rfl).to (by simp [rWaiting, *]) rfl
  · refine k_iconst (v := (-1)) d_R_waiting_8 (by decide) ?_
    exact k_iret d_R_waiting_9 rfl (by simp [rWaiting, *]) rfl

end KRB
end
section
section KRE
/-! The relation between the reference's state v and the class's state u -/
/-- thread i -/
def TR (v u : kSt) (i : Nat) : Prop :=
  (v 2 i = u (8 + i) 3 ∧ v 5 i = u (8 + i) 5 ∧ v 6 i = u (8 + i) 6 ∧ v 7 i = u (8 + i) 7 ∧ v 8 i = u (8 + i) 8 ∧ v 9 i = u (8 + i) 9 ∧ v 10 i = u (8 + i) 10 ∧ v 11 i = u (8 + i) 11 ∧ v 12 i = u (8 + i) 12 ∧ v 14 i = u (8 + i) 13 ∧ v 17 i = u (8 + i) 16 ∧ v 19 i = u (8 + i) 18) ∧
  (∀ k, k < 4 → v 4 (4 * i + k) = u (16 + i) k) ∧
  (v 1 i = 0 ↔ u (8 + i) 2 = -1) ∧
  (¬ v 1 i = 0 → v 13 i = u (8 + i) 2 ∧ v 3 i = u (8 + i) 4 ∧ (v 5 i = -1 ∨ v 6 i = 1 ∨ v 6 i = 2) ∧
    (v 13 i = 4 ∨ v 13 i = 5 → v 14 i = v 3 i ∧ ¬ v 3 i = -1 ∧ u (8 + i) 17 = (if v 18 i = 0 then 1 else 2)) ∧
    (v 13 i = 1 ∨ v 13 i = 2 ∨ v 13 i = 3 → v 15 i = u (8 + i) 14 ∧ (v 15 i = -1 ∨ v 0 0 < v 15 i)))
/-- a pager is a thread -/
def PR (v : kSt) : Prop := ∀ i, i < 8 → ¬ v 1 i = 0 → v 3 i = -1 ∨ (vp_in (v 3 i) 8 ∧ ¬ v 1 (ix (v 3 i)) = 0)
/-- thread i waits until it can send -/
def ws (v : kSt) (i : Nat) : Prop := ¬ v 1 i = 0 ∧ (v 13 i = 1 ∨ v 13 i = 3 ∨ v 13 i = 4)
/-- who came first -/
def OR (v u : kSt) : Prop := ∀ i j, i < 8 → j < 8 → ws v i → ws v j → (v 16 i ≤ v 16 j ↔ u (8 + i) 15 ≤ u (8 + j) 15)
def BD (a : Nat) (v u : kSt) : Prop := (∃ A, A ≤ a ∧ u 0 4 = nI A) ∧ (∃ B, B ≤ a ∧ v 0 1 = nI B) ∧ ∀ i, i < 8 → ws v i → u (8 + i) 15 < u 0 4 ∧ v 16 i < v 0 1
/-- the mappings, row by row: frames, levels, depths, parents; level, frame, depth, parent -/
def MR (f l d p lv fr dp pa : Nat → Int32) : Prop := ∀ k, k < 96 →
  (f k < 0 ↔ lv k = 0) ∧ (¬ lv k = 0 → f k = fr k ∧ l k = lv k ∧ d k = dp k ∧ (lv k = 1 ∨ lv k = 2) ∧ (dp k = 0 → pa k = -1) ∧ (¬ dp k = 0 → p k = pa k ∧ ∃ q, q < 96 ∧ pa k = nI q ∧ ¬ lv q = 0 ∧ dp q + 1 = dp k))
def WR (v u : kSt) : Prop := ∀ f, f < 16 → v 24 f = u 3 f
def NR (m : Nat) (v u : kSt) : Prop := ∃ k, k ≤ m ∧ v 0 0 = nI k ∧ u 0 3 = nI k
/-- a partner is none, or a number -/
def XR (v : kSt) : Prop := ∀ i, i < 8 → v 14 i = -1 ∨ 0 ≤ v 14 i
def Rel (a m : Nat) (v u : kSt) : Prop := cInv u ∧ rInv v ∧ (∀ i, i < 8 → TR v u i) ∧ PR v ∧ OR v u ∧ BD a v u ∧ MR (v 20) (v 21) (v 22) (v 23) (u 4) (u 5) (u 6) (u 7) ∧ WR v u ∧ NR m v u ∧ XR v
theorem Rel.ci {a m : Nat} {v u : kSt} (h : Rel a m v u) : cInv u := h.1
theorem Rel.ri {a m : Nat} {v u : kSt} (h : Rel a m v u) : rInv v := h.2.1
theorem Rel.tr {a m : Nat} {v u : kSt} (h : Rel a m v u) {i : Nat} (hi : i < 8) : TR v u i := h.2.2.1 i hi
theorem Rel.pr {a m : Nat} {v u : kSt} (h : Rel a m v u) : PR v := h.2.2.2.1
theorem Rel.or {a m : Nat} {v u : kSt} (h : Rel a m v u) : OR v u := h.2.2.2.2.1
theorem Rel.bd {a m : Nat} {v u : kSt} (h : Rel a m v u) : BD a v u := h.2.2.2.2.2.1
theorem Rel.mr {a m : Nat} {v u : kSt} (h : Rel a m v u) : MR (v 20) (v 21) (v 22) (v 23) (u 4) (u 5) (u 6) (u 7) := h.2.2.2.2.2.2.1
theorem Rel.wr {a m : Nat} {v u : kSt} (h : Rel a m v u) : WR v u := h.2.2.2.2.2.2.2.1
theorem Rel.nr {a m : Nat} {v u : kSt} (h : Rel a m v u) : NR m v u := h.2.2.2.2.2.2.2.2.1
theorem Rel.xr {a m : Nat} {v u : kSt} (h : Rel a m v u) : XR v := h.2.2.2.2.2.2.2.2.2
theorem BD.mono {a b : Nat} {v u : kSt} (h : BD a v u) (hab : a ≤ b) : BD b v u := by
  obtain ⟨⟨A, h1, h2⟩, ⟨B, h3, h4⟩, h5⟩ := h
  exact ⟨⟨A, by omega, h2⟩, ⟨B, by omega, h4⟩, h5⟩
theorem NR.mono {a b : Nat} {v u : kSt} (h : NR a v u) (hab : a ≤ b) : NR b v u := by
  obtain ⟨k, h1, h2⟩ := h
  exact ⟨k, by omega, h2⟩
theorem Rel.mono {a b m k : Nat} {v u : kSt} (h : Rel a m v u) (hab : a ≤ b) (hmk : m ≤ k) : Rel b k v u :=
  ⟨h.ci, h.ri, h.2.2.1, h.pr, h.or, h.bd.mono hab, h.mr, h.wr, h.nr.mono hmk, h.xr⟩
/-- one thread becomes another: what is to be shown; its neighbours, the mappings and words are as they were -/
theorem Rel.at {a m b : Nat} {v u v' u' : kSt} (h : Rel a m v u) (i : Nat) (hi : i < 8) (hci : cInv u') (hri : rInv v')
    (hv : ∀ c j, j ≠ i → c ≠ 0 → c ≠ 4 → c < 20 → v' c j = v c j) (hv4 : ∀ j k, j < 8 → j ≠ i → k < 4 → v' 4 (4 * j + k) = v 4 (4 * j + k)) (hvn : v' 0 0 = v 0 0) (hal : v' 1 i = v 1 i) (hpg : v' 3 i = v 3 i)
    (hu : ∀ j, j < 8 → j ≠ i → u' (8 + j) = u (8 + j)) (hu4 : ∀ j, j < 8 → j ≠ i → u' (16 + j) = u (16 + j)) (hun : u' 0 3 = u 0 3)
    (hT : TR v' u' i) (hO : OR v' u') (hB : BD b v' u')
    (h20 : v' 20 = v 20) (h21 : v' 21 = v 21) (h22 : v' 22 = v 22) (h23 : v' 23 = v 23) (g4 : u' 4 = u 4) (g5 : u' 5 = u 5) (g6 : u' 6 = u 6) (g7 : u' 7 = u 7) (hW : WR v' u') (hX : v' 14 i = -1 ∨ 0 ≤ v' 14 i) : Rel b m v' u' := by
  refine ⟨hci, hri, fun j hj => ?_, fun j hj => ?_, hO, hB, ?_, hW, ?_, fun j hj => ?_⟩
  · by_cases hji : j = i
    · subst hji; exact hT
    · have := h.tr hj
      unfold TR at this ⊢
      rw [hu j hj hji, hu4 j hj hji, hvn, hv 1 j hji (by decide) (by decide) (by decide), hv 2 j hji (by decide) (by decide) (by decide), hv 3 j hji (by decide) (by decide) (by decide), hv 5 j hji (by decide) (by decide) (by decide), hv 6 j hji (by decide) (by decide) (by decide), hv 7 j hji (by decide) (by decide) (by decide), hv 8 j hji (by decide) (by decide) (by decide), hv 9 j hji (by decide) (by decide) (by decide), hv 10 j hji (by decide) (by decide) (by decide), hv 11 j hji (by decide) (by decide) (by decide), hv 12 j hji (by decide) (by decide) (by decide), hv 13 j hji (by decide) (by decide) (by decide), hv 14 j hji (by decide) (by decide) (by decide), hv 15 j hji (by decide) (by decide) (by decide), hv 17 j hji (by decide) (by decide) (by decide), hv 18 j hji (by decide) (by decide) (by decide), hv 19 j hji (by decide) (by decide) (by decide)]
      exact ⟨this.1, fun k hk => by rw [hv4 j k hj hji hk]; exact this.2.1 k hk, this.2.2⟩
  · have hp1 : ∀ j, v' 1 j = v 1 j := by
      intro j
      by_cases hji : j = i
      · subst hji; exact hal
      · exact hv 1 j hji (by decide) (by decide) (by decide)
    have hp3 : v' 3 j = v 3 j := by
      by_cases hji : j = i
      · subst hji; exact hpg
      · exact hv 3 j hji (by decide) (by decide) (by decide)
    rw [hp3, hp1, hp1]
    exact h.pr j hj
  · rw [h20, h21, h22, h23, g4, g5, g6, g7]
    exact h.mr
  · obtain ⟨k, h1, h2, h3⟩ := h.nr
    exact ⟨k, h1, by rw [hvn]; exact h2, by rw [hun]; exact h3⟩
  · by_cases hji : j = i
    · subst hji; exact hX
    · rw [hv 14 j hji (by decide) (by decide) (by decide)]
      exact h.xr j hj
end KRE
end
section
section KPM
theorem lt_succ {A : Nat} (h : A < 2 ^ 30) {x : Int32} (hx : x < nI A) : x < nI A + 1 := by
  rw [nI_1, Int32.lt_iff_toInt_lt, nI_toInt (by omega)]
  rw [Int32.lt_iff_toInt_lt, nI_toInt (by omega)] at hx
  omega
theorem lt_self_succ {A : Nat} (h : A < 2 ^ 30) : nI A < nI A + 1 := by
  rw [nI_1]
  exact nI_lt (by omega) (by omega)
theorem lt_le {x y : Int32} (h : x < y) : x ≤ y := by
  rw [Int32.lt_iff_toInt_lt] at h
  rw [Int32.le_iff_toInt_le]
  omega
theorem lt_nle {x y : Int32} (h : x < y) : ¬ y ≤ x := by
  rw [Int32.lt_iff_toInt_lt] at h
  rw [Int32.le_iff_toInt_le]
  omega
theorem le_rf (x : Int32) : x ≤ x := by
  rw [Int32.le_iff_toInt_le]
  omega
/-- the order and the counters where thread i doesn't begin to wait -/
theorem OB_keep {a : Nat} {v u v' u' : kSt} (hO : OR v u) (hB : BD a v u) (ha : a < 2 ^ 20) (i : Nat)
    (hv : ∀ c j, j ≠ i → (c = 1 ∨ c = 13 ∨ c = 16) → v' c j = v c j) (hu : ∀ j, j ≠ i → u' (8 + j) 15 = u (8 + j) 15)
    (hw : ws v' i → ws v i ∧ v' 16 i = v 16 i ∧ u' (8 + i) 15 = u (8 + i) 15) (hc : v' 0 1 = v 0 1 ∨ v' 0 1 = v 0 1 + 1) (hc2 : u' 0 4 = u 0 4) : OR v' u' ∧ BD (a + 1) v' u' := by
  have key : ∀ j, ws v' j → ws v j ∧ v' 16 j = v 16 j ∧ u' (8 + j) 15 = u (8 + j) 15 := by
    intro j hj
    by_cases hji : j = i
    · subst hji; exact hw hj
    · unfold ws at hj ⊢
      rw [hv 1 j hji (by simp), hv 13 j hji (by simp)] at hj
      exact ⟨hj, hv 16 j hji (by simp), hu j hji⟩
  obtain ⟨⟨A, hA, eA⟩, ⟨B, hBb, eB⟩, hb⟩ := hB
  refine ⟨fun j k hj hk wj wk => ?_, ⟨A, by omega, by rw [hc2]; exact eA⟩, ?_, fun j hj wj => ?_⟩
  · obtain ⟨w1, e1, e2⟩ := key j wj
    obtain ⟨w2, e3, e4⟩ := key k wk
    rw [e1, e2, e3, e4]
    exact hO j k hj hk w1 w2
  · rcases hc with e | e
    · exact ⟨B, by omega, by rw [e]; exact eB⟩
    · exact ⟨B + 1, by omega, by rw [e, eB, nI_1]⟩
  · obtain ⟨w1, e1, e2⟩ := key j wj
    rw [e1, e2, hc2]
    refine ⟨(hb j hj w1).1, ?_⟩
    rcases hc with e | e
    · rw [e]; exact (hb j hj w1).2
    · rw [e, eB]
      have := (hb j hj w1).2
      rw [eB] at this
      exact lt_succ (by omega) this
/-- the order and the counters where thread i begins to wait -/
theorem OB_join {a : Nat} {v u v' u' : kSt} (hO : OR v u) (hB : BD a v u) (ha : a < 2 ^ 20) (i : Nat)
    (hv : ∀ c j, j ≠ i → (c = 1 ∨ c = 13 ∨ c = 16) → v' c j = v c j) (hu : ∀ j, j ≠ i → u' (8 + j) 15 = u (8 + j) 15)
    (h16 : v' 16 i = v 0 1) (h15 : u' (8 + i) 15 = u 0 4) (hc : v' 0 1 = v 0 1 + 1) (hc2 : u' 0 4 = u 0 4 + 1) : OR v' u' ∧ BD (a + 1) v' u' := by
  have key : ∀ j, j ≠ i → ws v' j → ws v j ∧ v' 16 j = v 16 j ∧ u' (8 + j) 15 = u (8 + j) 15 := by
    intro j hji hj
    unfold ws at hj ⊢
    rw [hv 1 j hji (by simp), hv 13 j hji (by simp)] at hj
    exact ⟨hj, hv 16 j hji (by simp), hu j hji⟩
  obtain ⟨⟨A, hA, eA⟩, ⟨B, hBb, eB⟩, hb⟩ := hB
  refine ⟨fun j k hj hk wj wk => ?_, ⟨A + 1, by omega, by rw [hc2, eA, nI_1]⟩, ⟨B + 1, by omega, by rw [hc, eB, nI_1]⟩, fun j hj wj => ?_⟩
  · by_cases hji : j = i
    · subst hji
      by_cases hki : k = j
      · subst hki
        exact ⟨fun _ => le_rf _, fun _ => le_rf _⟩
      · obtain ⟨w2, e3, e4⟩ := key k hki wk
        have h9 := hb k hk w2
        rw [h16, h15, e3, e4]
        exact ⟨fun h => absurd h (lt_nle h9.2), fun h => absurd h (lt_nle h9.1)⟩
    · obtain ⟨w1, e1, e2⟩ := key j hji wj
      by_cases hki : k = i
      · subst hki
        have h9 := hb j hj w1
        rw [h16, h15, e1, e2]
        exact ⟨fun _ => lt_le h9.1, fun _ => lt_le h9.2⟩
      · obtain ⟨w2, e3, e4⟩ := key k hki wk
        rw [e1, e2, e3, e4]
        exact hO j k hj hk w1 w2
  · by_cases hji : j = i
    · subst hji
      rw [h15, h16, hc, hc2, eA, eB]
      exact ⟨lt_self_succ (by omega), lt_self_succ (by omega)⟩
    · obtain ⟨w1, e1, e2⟩ := key j hji wj
      have h9 := hb j hj w1
      rw [e1, e2, hc, hc2, eA, eB]
      rw [eA, eB] at h9
      exact ⟨lt_succ (by omega) h9.1, lt_succ (by omega) h9.2⟩
theorem cOk_win {i : Nat} {p : Int32} (hp : p = -1 ∨ vp_in p 16) : cOk (8 + i) 8 p :=
  ⟨fun _ _ => ⟨fun e => by omega, fun e => by omega, fun e => by omega, fun e => by omega, fun _ => hp, fun e => by omega⟩, fun e => by omega, fun e => by omega, fun e => by omega⟩
theorem cOk_offr {i : Nat} {p : Int32} (hp : p = -1 ∨ vp_in p 16) : cOk (8 + i) 5 p :=
  ⟨fun _ _ => ⟨fun e => by omega, fun e => by omega, fun e => by omega, fun _ => hp, fun e => by omega, fun e => by omega⟩, fun e => by omega, fun e => by omega, fun e => by omega⟩
variable {a m : Nat} {v u : kSt}
theorem Rel.run (h : Rel a m v u) (ha : a < 2 ^ 20) {i : Nat} (hi : i < 8) (hal : ¬ v 1 i = 0) {o : Int32} : Rel (a + 1) m (rRun v i o) (cRun u i o) := by
  obtain ⟨⟨e2, e5, e6, e7, e8, e9, e10, e11, e12, e14, e17, e19⟩, hr, hd, hc⟩ := h.tr hi
  obtain ⟨c1, c2, c3, c4, c5⟩ := hc hal
  have hOB := OB_keep (v' := rRun v i o) (u' := cRun u i o) h.or h.bd ha i (fun c j hj hc => by rcases hc with rfl | rfl | rfl <;> simp [rRun, kup, hj]) (fun j hj => by simp [cRun, kup, hj]) (fun hw => by simp [ws, rRun, kup] at hw) (Or.inl (by simp [rRun, kup])) (by simp [cRun, kup])
  refine h.at i hi h.ci.run h.ri.run (fun c j hj h0 h4 h20 => by simp [rRun, kup, hj, h0, h4]) (fun j k hj8 hj hk => by simp [rRun, kup]) (by simp [rRun, kup]) (by simp [rRun, kup]) (by simp [rRun, kup]) (fun j hj8 hj => by (try simp only [cRun]); repeat rw [kup_ne _ _ _ (by omega)]) (fun j hj8 hj => by (try simp only [cRun]); repeat rw [kup_ne _ _ _ (by omega)]) (by first | (simp [cRun, kup]; done) | ((try simp only [cRun]); repeat rw [kup_o (by omega)])) ?_ hOB.1 hOB.2 (by simp [rRun, kup_ne]) (by simp [rRun, kup_ne]) (by simp [rRun, kup_ne]) (by simp [rRun, kup_ne]) ?_ ?_ ?_ ?_ ?_ (by simpa [rRun, kup] using h.xr i hi)
  · refine ⟨by simp [rRun, cRun, kup, e2, e5, e6, e7, e8, e9, e10, e11, e12, e14, e17, e19], fun k hk => by simpa [rRun, cRun, kup] using hr k hk, by simp [rRun, cRun, kup, hal], fun _ => ⟨by simp [rRun, cRun, kup, c1], by simp [rRun, cRun, kup, c2], by simpa [rRun, cRun, kup] using c3, by simp [rRun, cRun, kup], by simp [rRun, cRun, kup]⟩⟩
  · (try simp only [cRun]); repeat rw [kup_ne _ _ _ (by omega)]
  · (try simp only [cRun]); repeat rw [kup_ne _ _ _ (by omega)]
  · (try simp only [cRun]); repeat rw [kup_ne _ _ _ (by omega)]
  · (try simp only [cRun]); repeat rw [kup_ne _ _ _ (by omega)]
  · intro f hf; rw [show (rRun v i o) 24 = v 24 by simp [rRun, kup_ne], show (cRun u i o) 3 = u 3 by (try simp only [cRun]); repeat rw [kup_ne _ _ _ (by omega)]]; exact h.wr f hf
theorem Rel.sendW (h : Rel a m v u) (ha : a < 2 ^ 20) {i : Nat} (hi : i < 8) (hal : ¬ v 1 i = 0) {st on lim dl : Int32} (hst : st = 1 ∨ st = 3) (hdl : dl = (if 0 ≤ lim then v 0 0 + lim else -1)) (hd2 : dl = -1 ∨ v 0 0 < dl) (hon : on = -1 ∨ 0 ≤ on) : Rel (a + 1) m (rLinger v i st on lim) (cJoin u i st on dl) := by
  obtain ⟨⟨e2, e5, e6, e7, e8, e9, e10, e11, e12, e14, e17, e19⟩, hr, hd, hc⟩ := h.tr hi
  obtain ⟨c1, c2, c3, c4, c5⟩ := hc hal
  have hOB := OB_join (v' := rLinger v i st on lim) (u' := cJoin u i st on dl) h.or h.bd ha i (fun c j hj hc => by rcases hc with rfl | rfl | rfl <;> simp [rLinger, kup, hj]) (fun j hj => by simp [cJoin, cWait, kup, hj]) (by simp [rLinger, kup]) (by simp [cJoin, cWait, kup]) (by simp [rLinger, kup]) (by simp [cJoin, cWait, kup])
  refine h.at i hi h.ci.join h.ri.linger (fun c j hj h0 h4 h20 => by simp [rLinger, kup, hj, h0, h4]) (fun j k hj8 hj hk => by simp [rLinger, kup]) (by simp [rLinger, kup]) (by simp [rLinger, kup]) (by simp [rLinger, kup]) (fun j hj8 hj => by (try simp only [cJoin, cWait]); repeat rw [kup_ne _ _ _ (by omega)]) (fun j hj8 hj => by (try simp only [cJoin, cWait]); repeat rw [kup_ne _ _ _ (by omega)]) (by first | (simp [cJoin, cWait, kup]; done) | ((try simp only [cJoin, cWait]); repeat rw [kup_o (by omega)])) ?_ hOB.1 hOB.2 (by simp [rLinger, kup_ne]) (by simp [rLinger, kup_ne]) (by simp [rLinger, kup_ne]) (by simp [rLinger, kup_ne]) ?_ ?_ ?_ ?_ ?_ (by simpa [rLinger, kup] using hon)
  · refine ⟨by simp [rLinger, cJoin, cWait, kup, e2, e5, e6, e7, e8, e9, e10, e11, e12, e14, e17, e19], fun k hk => by simpa [rLinger, cJoin, cWait, kup] using hr k hk, by rcases hst with rfl | rfl <;> simp [rLinger, cJoin, cWait, kup, hal], fun _ => ⟨by simp [rLinger, cJoin, cWait, kup, c1], by simp [rLinger, cJoin, cWait, kup, c2], by simpa [rLinger, cJoin, cWait, kup] using c3, by rcases hst with rfl | rfl <;> simp [rLinger, cJoin, cWait, kup], by intro _; simp only [rLinger, cJoin, cWait]; simp [kup, ← hdl]; exact hd2⟩⟩
  · (try simp only [cJoin, cWait]); repeat rw [kup_ne _ _ _ (by omega)]
  · (try simp only [cJoin, cWait]); repeat rw [kup_ne _ _ _ (by omega)]
  · (try simp only [cJoin, cWait]); repeat rw [kup_ne _ _ _ (by omega)]
  · (try simp only [cJoin, cWait]); repeat rw [kup_ne _ _ _ (by omega)]
  · intro f hf; rw [show (rLinger v i st on lim) 24 = v 24 by simp [rLinger, kup_ne], show (cJoin u i st on dl) 3 = u 3 by (try simp only [cJoin, cWait]); repeat rw [kup_ne _ _ _ (by omega)]]; exact h.wr f hf
theorem Rel.faultW (h : Rel a m v u) (ha : a < 2 ^ 20) {i : Nat} (hi : i < 8) (hal : ¬ v 1 i = 0) {p : Nat} (hp : v 3 i = nI p) (hp2 : p < 8) (hwl : u (8 + i) 17 = (if v 18 i = 0 then 1 else 2)) : Rel (a + 1) m (rLinger v i 4 (nI p) (-1)) (cJoin u i 4 (nI p) (-1)) := by
  obtain ⟨⟨e2, e5, e6, e7, e8, e9, e10, e11, e12, e14, e17, e19⟩, hr, hd, hc⟩ := h.tr hi
  obtain ⟨c1, c2, c3, c4, c5⟩ := hc hal
  have hOB := OB_join (v' := rLinger v i 4 (nI p) (-1)) (u' := cJoin u i 4 (nI p) (-1)) h.or h.bd ha i (fun c j hj hc => by rcases hc with rfl | rfl | rfl <;> simp [rLinger, kup, hj]) (fun j hj => by simp [cJoin, cWait, kup, hj]) (by simp [rLinger, kup]) (by simp [cJoin, cWait, kup]) (by simp [rLinger, kup]) (by simp [cJoin, cWait, kup])
  refine h.at i hi h.ci.join h.ri.linger (fun c j hj h0 h4 h20 => by simp [rLinger, kup, hj, h0, h4]) (fun j k hj8 hj hk => by simp [rLinger, kup]) (by simp [rLinger, kup]) (by simp [rLinger, kup]) (by simp [rLinger, kup]) (fun j hj8 hj => by (try simp only [cJoin, cWait]); repeat rw [kup_ne _ _ _ (by omega)]) (fun j hj8 hj => by (try simp only [cJoin, cWait]); repeat rw [kup_ne _ _ _ (by omega)]) (by first | (simp [cJoin, cWait, kup]; done) | ((try simp only [cJoin, cWait]); repeat rw [kup_o (by omega)])) ?_ hOB.1 hOB.2 (by simp [rLinger, kup_ne]) (by simp [rLinger, kup_ne]) (by simp [rLinger, kup_ne]) (by simp [rLinger, kup_ne]) ?_ ?_ ?_ ?_ ?_ (Or.inr (by simp [rLinger, kup]; exact nI_pos' (by omega)))
  · refine ⟨by simp [rLinger, cJoin, cWait, kup, e2, e5, e6, e7, e8, e9, e10, e11, e12, e14, e17, e19], fun k hk => by simpa [rLinger, cJoin, cWait, kup] using hr k hk, by simp [rLinger, cJoin, cWait, kup, hal], fun _ => ⟨by simp [rLinger, cJoin, cWait, kup, c1], by simp [rLinger, cJoin, cWait, kup, c2], by simpa [rLinger, cJoin, cWait, kup] using c3, by intro _; simp [rLinger, cJoin, cWait, kup, hp, hwl]; exact fun e => nI_pos (n := p) (by omega) (by rw [e]; decide), by simp [rLinger, cJoin, cWait, kup]⟩⟩
  · (try simp only [cJoin, cWait]); repeat rw [kup_ne _ _ _ (by omega)]
  · (try simp only [cJoin, cWait]); repeat rw [kup_ne _ _ _ (by omega)]
  · (try simp only [cJoin, cWait]); repeat rw [kup_ne _ _ _ (by omega)]
  · (try simp only [cJoin, cWait]); repeat rw [kup_ne _ _ _ (by omega)]
  · intro f hf; rw [show (rLinger v i 4 (nI p) (-1)) 24 = v 24 by simp [rLinger, kup_ne], show (cJoin u i 4 (nI p) (-1)) 3 = u 3 by (try simp only [cJoin, cWait]); repeat rw [kup_ne _ _ _ (by omega)]]; exact h.wr f hf
theorem Rel.recvW (h : Rel a m v u) (ha : a < 2 ^ 20) {i : Nat} (hi : i < 8) (hal : ¬ v 1 i = 0) {on lim dl : Int32} (hdl : dl = (if 0 ≤ lim then v 0 0 + lim else -1)) (hd2 : dl = -1 ∨ v 0 0 < dl) (hon : on = -1 ∨ 0 ≤ on) : Rel (a + 1) m (rLinger v i 2 on lim) (cWait u i 2 on dl) := by
  obtain ⟨⟨e2, e5, e6, e7, e8, e9, e10, e11, e12, e14, e17, e19⟩, hr, hd, hc⟩ := h.tr hi
  obtain ⟨c1, c2, c3, c4, c5⟩ := hc hal
  have hOB := OB_keep (v' := rLinger v i 2 on lim) (u' := cWait u i 2 on dl) h.or h.bd ha i (fun c j hj hc => by rcases hc with rfl | rfl | rfl <;> simp [rLinger, kup, hj]) (fun j hj => by simp [cWait, kup, hj]) (fun hw => by simp [ws, rLinger, kup] at hw) (Or.inr (by simp [rLinger, kup])) (by simp [cWait, kup])
  refine h.at i hi h.ci.wait h.ri.linger (fun c j hj h0 h4 h20 => by simp [rLinger, kup, hj, h0, h4]) (fun j k hj8 hj hk => by simp [rLinger, kup]) (by simp [rLinger, kup]) (by simp [rLinger, kup]) (by simp [rLinger, kup]) (fun j hj8 hj => by (try simp only [cWait]); repeat rw [kup_ne _ _ _ (by omega)]) (fun j hj8 hj => by (try simp only [cWait]); repeat rw [kup_ne _ _ _ (by omega)]) (by first | (simp [cWait, kup]; done) | ((try simp only [cWait]); repeat rw [kup_o (by omega)])) ?_ hOB.1 hOB.2 (by simp [rLinger, kup_ne]) (by simp [rLinger, kup_ne]) (by simp [rLinger, kup_ne]) (by simp [rLinger, kup_ne]) ?_ ?_ ?_ ?_ ?_ (by simpa [rLinger, kup] using hon)
  · refine ⟨by simp [rLinger, cWait, kup, e2, e5, e6, e7, e8, e9, e10, e11, e12, e14, e17, e19], fun k hk => by simpa [rLinger, cWait, kup] using hr k hk, by simp [rLinger, cWait, kup, hal], fun _ => ⟨by simp [rLinger, cWait, kup, c1], by simp [rLinger, cWait, kup, c2], by simpa [rLinger, cWait, kup] using c3, by simp [rLinger, cWait, kup], by intro _; simp only [rLinger, cWait]; simp [kup, ← hdl]; exact hd2⟩⟩
  · (try simp only [cWait]); repeat rw [kup_ne _ _ _ (by omega)]
  · (try simp only [cWait]); repeat rw [kup_ne _ _ _ (by omega)]
  · (try simp only [cWait]); repeat rw [kup_ne _ _ _ (by omega)]
  · (try simp only [cWait]); repeat rw [kup_ne _ _ _ (by omega)]
  · intro f hf; rw [show (rLinger v i 2 on lim) 24 = v 24 by simp [rLinger, kup_ne], show (cWait u i 2 on dl) 3 = u 3 by (try simp only [cWait]); repeat rw [kup_ne _ _ _ (by omega)]]; exact h.wr f hf
theorem Rel.take (h : Rel a m v u) (ha : a < 2 ^ 20) {i : Nat} (hi : i < 8) (hal : ¬ v 1 i = 0) {s a1 a2 a3 a4 : Int32} : Rel (a + 1) m (rTake v i s a1 a2 a3 a4) (cTake u i s a1 a2 a3 a4) := by
  obtain ⟨⟨e2, e5, e6, e7, e8, e9, e10, e11, e12, e14, e17, e19⟩, hr, hd, hc⟩ := h.tr hi
  obtain ⟨c1, c2, c3, c4, c5⟩ := hc hal
  have hOB := OB_keep (v' := rTake v i s a1 a2 a3 a4) (u' := cTake u i s a1 a2 a3 a4) h.or h.bd ha i (fun c j hj hc => by rcases hc with rfl | rfl | rfl <;> simp [rTake, kup, hj]) (fun j hj => by simp [cTake, kup, hj]) (fun hw => by simp only [ws, rTake, cTake] at hw ⊢; simp [kup] at hw ⊢; exact hw) (Or.inl (by simp [rTake, kup])) (by simp [cTake, kup])
  refine h.at i hi h.ci.take h.ri.take (fun c j hj h0 h4 h20 => by simp [rTake, kup, hj, h0, h4]) (fun j k hj8 hj hk => by simp only [rTake]; rw [kup_o (by decide), kup_o (by decide), kup_j (by omega), kup_j (by omega), kup_j (by omega), kup_j (by omega)]) (by simp [rTake, kup]) (by simp [rTake, kup]) (by simp [rTake, kup]) (fun j hj8 hj => by (try simp only [cTake]); repeat rw [kup_ne _ _ _ (by omega)]) (fun j hj8 hj => by (try simp only [cTake]); repeat rw [kup_ne _ _ _ (by omega)]) (by first | (simp [cTake, kup]; done) | ((try simp only [cTake]); repeat rw [kup_o (by omega)])) ?_ hOB.1 hOB.2 (by simp [rTake, kup_ne]) (by simp [rTake, kup_ne]) (by simp [rTake, kup_ne]) (by simp [rTake, kup_ne]) ?_ ?_ ?_ ?_ ?_ (by simpa [rTake, kup] using h.xr i hi)
  · refine ⟨by simp [rTake, cTake, kup, e2, e5, e6, e7, e8, e9, e10, e11, e12, e14, e17, e19], fun k hk => by have := hr k hk; rcases (show k = 0 ∨ k = 1 ∨ k = 2 ∨ k = 3 by omega) with rfl | rfl | rfl | rfl <;> simp [rTake, cTake, kup], by simpa [rTake, cTake, kup] using hd, fun _ => ⟨by simp [rTake, cTake, kup, c1], by simp [rTake, cTake, kup, c2], by simpa [rTake, cTake, kup] using c3, by simpa [rTake, cTake, kup] using c4, by simpa [rTake, cTake, kup] using c5⟩⟩
  · (try simp only [cTake]); repeat rw [kup_ne _ _ _ (by omega)]
  · (try simp only [cTake]); repeat rw [kup_ne _ _ _ (by omega)]
  · (try simp only [cTake]); repeat rw [kup_ne _ _ _ (by omega)]
  · (try simp only [cTake]); repeat rw [kup_ne _ _ _ (by omega)]
  · intro f hf; rw [show (rTake v i s a1 a2 a3 a4) 24 = v 24 by simp [rTake, kup_ne], show (cTake u i s a1 a2 a3 a4) 3 = u 3 by (try simp only [cTake]); repeat rw [kup_ne _ _ _ (by omega)]]; exact h.wr f hf
theorem Rel.noOffer (h : Rel a m v u) (ha : a < 2 ^ 20) {i : Nat} (hi : i < 8) (hal : ¬ v 1 i = 0)  : Rel (a + 1) m (kup v 5 i (-1)) (kup u (8 + i) 5 (-1)) := by
  obtain ⟨⟨e2, e5, e6, e7, e8, e9, e10, e11, e12, e14, e17, e19⟩, hr, hd, hc⟩ := h.tr hi
  obtain ⟨c1, c2, c3, c4, c5⟩ := hc hal
  have hOB := OB_keep (v' := kup v 5 i (-1)) (u' := kup u (8 + i) 5 (-1)) h.or h.bd ha i (fun c j hj hc => by rcases hc with rfl | rfl | rfl <;> simp [id, kup, hj]) (fun j hj => by simp [id, kup, hj]) (fun hw => by simp only [ws] at hw ⊢; simp [kup] at hw ⊢; exact hw) (Or.inl (by simp [kup])) (by simp [id, kup])
  refine h.at i hi (h.ci.up cOk_off) (h.ri.up (rOk_5 (Or.inl rfl))) (fun c j hj h0 h4 h20 => by simp [id, kup, hj, h0, h4]) (fun j k hj8 hj hk => by simp [id, kup]) (by simp [id, kup]) (by simp [id, kup]) (by simp [id, kup]) (fun j hj8 hj => by (try simp only [id]); repeat rw [kup_ne _ _ _ (by omega)]) (fun j hj8 hj => by (try simp only [id]); repeat rw [kup_ne _ _ _ (by omega)]) (by first | (simp [id, kup]; done) | ((try simp only [id]); repeat rw [kup_o (by omega)])) ?_ hOB.1 hOB.2 (by simp [id, kup_ne]) (by simp [id, kup_ne]) (by simp [id, kup_ne]) (by simp [id, kup_ne]) ?_ ?_ ?_ ?_ ?_ (by simpa [id, kup] using h.xr i hi)
  · refine ⟨by simp [id, id, kup, e2, e5, e6, e7, e8, e9, e10, e11, e12, e14, e17, e19], fun k hk => by simpa [id, id, kup] using hr k hk, by simpa [kup] using hd, fun _ => ⟨by simp [id, id, kup, c1], by simp [id, id, kup, c2], by simp [kup], by simpa [kup] using c4, by simpa [kup] using c5⟩⟩
  · (try simp only [id]); repeat rw [kup_ne _ _ _ (by omega)]
  · (try simp only [id]); repeat rw [kup_ne _ _ _ (by omega)]
  · (try simp only [id]); repeat rw [kup_ne _ _ _ (by omega)]
  · (try simp only [id]); repeat rw [kup_ne _ _ _ (by omega)]
  · intro f hf; rw [show (kup v 5 i (-1)) 24 = v 24 by simp [id, kup_ne], show (kup u (8 + i) 5 (-1)) 3 = u 3 by (try simp only [id]); repeat rw [kup_ne _ _ _ (by omega)]]; exact h.wr f hf
theorem Rel.stuck (h : Rel a m v u) (ha : a < 2 ^ 20) {i : Nat} (hi : i < 8) (hal : ¬ v 1 i = 0)  : Rel (a + 1) m (kup v 13 i 6) (kup u (8 + i) 2 6) := by
  obtain ⟨⟨e2, e5, e6, e7, e8, e9, e10, e11, e12, e14, e17, e19⟩, hr, hd, hc⟩ := h.tr hi
  obtain ⟨c1, c2, c3, c4, c5⟩ := hc hal
  have hOB := OB_keep (v' := kup v 13 i 6) (u' := kup u (8 + i) 2 6) h.or h.bd ha i (fun c j hj hc => by rcases hc with rfl | rfl | rfl <;> simp [id, kup, hj]) (fun j hj => by simp [id, kup, hj]) (fun hw => by simp [ws, kup] at hw) (Or.inl (by simp [kup])) (by simp [id, kup])
  refine h.at i hi (h.ci.up (cOk_t (by decide))) (h.ri.up (rOk_any (by decide))) (fun c j hj h0 h4 h20 => by simp [id, kup, hj, h0, h4]) (fun j k hj8 hj hk => by simp [id, kup]) (by simp [id, kup]) (by simp [id, kup]) (by simp [id, kup]) (fun j hj8 hj => by (try simp only [id]); repeat rw [kup_ne _ _ _ (by omega)]) (fun j hj8 hj => by (try simp only [id]); repeat rw [kup_ne _ _ _ (by omega)]) (by first | (simp [id, kup]; done) | ((try simp only [id]); repeat rw [kup_o (by omega)])) ?_ hOB.1 hOB.2 (by simp [id, kup_ne]) (by simp [id, kup_ne]) (by simp [id, kup_ne]) (by simp [id, kup_ne]) ?_ ?_ ?_ ?_ ?_ (by simpa [id, kup] using h.xr i hi)
  · refine ⟨by simp [id, id, kup, e2, e5, e6, e7, e8, e9, e10, e11, e12, e14, e17, e19], fun k hk => by simpa [id, id, kup] using hr k hk, by simp [id, id, kup, hal], fun _ => ⟨by simp [id, id, kup, c1], by simp [id, id, kup, c2], by simpa [id, id, kup] using c3, by simp [id, id, kup], by simp [id, id, kup]⟩⟩
  · (try simp only [id]); repeat rw [kup_ne _ _ _ (by omega)]
  · (try simp only [id]); repeat rw [kup_ne _ _ _ (by omega)]
  · (try simp only [id]); repeat rw [kup_ne _ _ _ (by omega)]
  · (try simp only [id]); repeat rw [kup_ne _ _ _ (by omega)]
  · intro f hf; rw [show (kup v 13 i 6) 24 = v 24 by simp [id, kup_ne], show (kup u (8 + i) 2 6) 3 = u 3 by (try simp only [id]); repeat rw [kup_ne _ _ _ (by omega)]]; exact h.wr f hf
theorem Rel.rest (h : Rel a m v u) (ha : a < 2 ^ 20) {i : Nat} (hi : i < 8) (hal : ¬ v 1 i = 0) {p : Nat} (hp : v 3 i = nI p) (hp2 : p < 8) (hwl : u (8 + i) 17 = (if v 18 i = 0 then 1 else 2)) : Rel (a + 1) m (kup (kup v 13 i 5) 14 i (nI p)) (cWait u i 5 (nI p) (-1)) := by
  obtain ⟨⟨e2, e5, e6, e7, e8, e9, e10, e11, e12, e14, e17, e19⟩, hr, hd, hc⟩ := h.tr hi
  obtain ⟨c1, c2, c3, c4, c5⟩ := hc hal
  have hOB := OB_keep (v' := kup (kup v 13 i 5) 14 i (nI p)) (u' := cWait u i 5 (nI p) (-1)) h.or h.bd ha i (fun c j hj hc => by rcases hc with rfl | rfl | rfl <;> simp [id, kup, hj]) (fun j hj => by simp [cWait, kup, hj]) (fun hw => by simp [ws, kup] at hw) (Or.inl (by simp [kup])) (by simp [cWait, kup])
  refine h.at i hi h.ci.wait ((h.ri.up (rOk_any (by decide))).up (rOk_any (by decide))) (fun c j hj h0 h4 h20 => by simp [id, kup, hj, h0, h4]) (fun j k hj8 hj hk => by simp [id, kup]) (by simp [id, kup]) (by simp [id, kup]) (by simp [id, kup]) (fun j hj8 hj => by (try simp only [cWait]); repeat rw [kup_ne _ _ _ (by omega)]) (fun j hj8 hj => by (try simp only [cWait]); repeat rw [kup_ne _ _ _ (by omega)]) (by first | (simp [cWait, kup]; done) | ((try simp only [cWait]); repeat rw [kup_o (by omega)])) ?_ hOB.1 hOB.2 (by simp [id, kup_ne]) (by simp [id, kup_ne]) (by simp [id, kup_ne]) (by simp [id, kup_ne]) ?_ ?_ ?_ ?_ ?_ (Or.inr (by simp [rLinger, kup]; exact nI_pos' (by omega)))
  · refine ⟨by simp [id, cWait, kup, e2, e5, e6, e7, e8, e9, e10, e11, e12, e14, e17, e19], fun k hk => by simpa [id, cWait, kup] using hr k hk, by simp [id, cWait, kup, hal], fun _ => ⟨by simp [id, cWait, kup, c1], by simp [id, cWait, kup, c2], by simpa [id, cWait, kup] using c3, by intro _; simp [id, cWait, kup, hp, hwl]; exact fun e => nI_pos (n := p) (by omega) (by rw [e]; decide), by simp [id, cWait, kup]⟩⟩
  · (try simp only [cWait]); repeat rw [kup_ne _ _ _ (by omega)]
  · (try simp only [cWait]); repeat rw [kup_ne _ _ _ (by omega)]
  · (try simp only [cWait]); repeat rw [kup_ne _ _ _ (by omega)]
  · (try simp only [cWait]); repeat rw [kup_ne _ _ _ (by omega)]
  · intro f hf; rw [show (kup (kup v 13 i 5) 14 i (nI p)) 24 = v 24 by simp [id, kup_ne], show (cWait u i 5 (nI p) (-1)) 3 = u 3 by (try simp only [cWait]); repeat rw [kup_ne _ _ _ (by omega)]]; exact h.wr f hf
theorem Rel.want (h : Rel a m v u) (ha : a < 2 ^ 20) {i : Nat} (hi : i < 8) (hal : ¬ v 1 i = 0) {p s x : Int32} (hp : vp_in p 16) (h0 : v 13 i = 0) : Rel (a + 1) m (rWant v i p s x) (cWant u i p s x) := by
  obtain ⟨⟨e2, e5, e6, e7, e8, e9, e10, e11, e12, e14, e17, e19⟩, hr, hd, hc⟩ := h.tr hi
  obtain ⟨c1, c2, c3, c4, c5⟩ := hc hal
  have hOB := OB_keep (v' := rWant v i p s x) (u' := cWant u i p s x) h.or h.bd ha i (fun c j hj hc => by rcases hc with rfl | rfl | rfl <;> simp [rWant, kup, hj]) (fun j hj => by simp [cWant, kup, hj]) (fun hw => by simp only [ws, rWant, cWant] at hw ⊢; simp [kup] at hw ⊢; exact hw) (Or.inl (by simp [rWant, kup])) (by simp [cWant, kup])
  refine h.at i hi (h.ci.want hp) (h.ri.want hp) (fun c j hj h0 h4 h20 => by simp [rWant, kup, hj, h0, h4]) (fun j k hj8 hj hk => by simp [rWant, kup]) (by simp [rWant, kup]) (by simp [rWant, kup]) (by simp [rWant, kup]) (fun j hj8 hj => by (try simp only [cWant]); repeat rw [kup_ne _ _ _ (by omega)]) (fun j hj8 hj => by (try simp only [cWant]); repeat rw [kup_ne _ _ _ (by omega)]) (by first | (simp [cWant, kup]; done) | ((try simp only [cWant]); repeat rw [kup_o (by omega)])) ?_ hOB.1 hOB.2 (by simp [rWant, kup_ne]) (by simp [rWant, kup_ne]) (by simp [rWant, kup_ne]) (by simp [rWant, kup_ne]) ?_ ?_ ?_ ?_ ?_ (by simpa [rWant, kup] using h.xr i hi)
  · refine ⟨by simp [rWant, cWant, kup, e2, e5, e6, e7, e8, e9, e10, e11, e12, e14, e17, e19], fun k hk => by simpa [rWant, cWant, kup] using hr k hk, by simpa [rWant, cWant, kup] using hd, fun _ => ⟨by simp [rWant, cWant, kup, c1], by simp [rWant, cWant, kup, c2], by simpa [rWant, cWant, kup] using c3, by simp [rWant, cWant, kup, h0], by simp [rWant, cWant, kup, h0]⟩⟩
  · (try simp only [cWant]); repeat rw [kup_ne _ _ _ (by omega)]
  · (try simp only [cWant]); repeat rw [kup_ne _ _ _ (by omega)]
  · (try simp only [cWant]); repeat rw [kup_ne _ _ _ (by omega)]
  · (try simp only [cWant]); repeat rw [kup_ne _ _ _ (by omega)]
  · intro f hf; rw [show (rWant v i p s x) 24 = v 24 by simp [rWant, kup_ne], show (cWant u i p s x) 3 = u 3 by (try simp only [cWant]); repeat rw [kup_ne _ _ _ (by omega)]]; exact h.wr f hf
theorem Rel.value (h : Rel a m v u) (ha : a < 2 ^ 20) {i : Nat} (hi : i < 8) (hal : ¬ v 1 i = 0) {x : Int32} : Rel (a + 1) m (kup v 11 i x) (kup u (8 + i) 11 x) := by
  obtain ⟨⟨e2, e5, e6, e7, e8, e9, e10, e11, e12, e14, e17, e19⟩, hr, hd, hc⟩ := h.tr hi
  obtain ⟨c1, c2, c3, c4, c5⟩ := hc hal
  have hOB := OB_keep (v' := kup v 11 i x) (u' := kup u (8 + i) 11 x) h.or h.bd ha i (fun c j hj hc => by rcases hc with rfl | rfl | rfl <;> simp [id, kup, hj]) (fun j hj => by simp [id, kup, hj]) (fun hw => by simp only [ws] at hw ⊢; simp [kup] at hw ⊢; exact hw) (Or.inl (by simp [kup])) (by simp [id, kup])
  refine h.at i hi (h.ci.up (cOk_t (by decide))) (h.ri.up (rOk_any (by decide))) (fun c j hj h0 h4 h20 => by simp [id, kup, hj, h0, h4]) (fun j k hj8 hj hk => by simp [id, kup]) (by simp [id, kup]) (by simp [id, kup]) (by simp [id, kup]) (fun j hj8 hj => by (try simp only [id]); repeat rw [kup_ne _ _ _ (by omega)]) (fun j hj8 hj => by (try simp only [id]); repeat rw [kup_ne _ _ _ (by omega)]) (by first | (simp [id, kup]; done) | ((try simp only [id]); repeat rw [kup_o (by omega)])) ?_ hOB.1 hOB.2 (by simp [id, kup_ne]) (by simp [id, kup_ne]) (by simp [id, kup_ne]) (by simp [id, kup_ne]) ?_ ?_ ?_ ?_ ?_ (by simpa [id, kup] using h.xr i hi)
  · refine ⟨by simp [id, id, kup, e2, e5, e6, e7, e8, e9, e10, e11, e12, e14, e17, e19], fun k hk => by simpa [id, id, kup] using hr k hk, by simpa [kup] using hd, fun _ => ⟨by simp [id, id, kup, c1], by simp [id, id, kup, c2], by simpa [kup] using c3, by simpa [kup] using c4, by simpa [kup] using c5⟩⟩
  · (try simp only [id]); repeat rw [kup_ne _ _ _ (by omega)]
  · (try simp only [id]); repeat rw [kup_ne _ _ _ (by omega)]
  · (try simp only [id]); repeat rw [kup_ne _ _ _ (by omega)]
  · (try simp only [id]); repeat rw [kup_ne _ _ _ (by omega)]
  · intro f hf; rw [show (kup v 11 i x) 24 = v 24 by simp [id, kup_ne], show (kup u (8 + i) 11 x) 3 = u 3 by (try simp only [id]); repeat rw [kup_ne _ _ _ (by omega)]]; exact h.wr f hf
theorem Rel.gaveUp (h : Rel a m v u) (ha : a < 2 ^ 20) {i : Nat} (hi : i < 8) (hal : ¬ v 1 i = 0) (h0 : v 13 i = 0) : Rel (a + 1) m (kup v 9 i 1) (cRun u i 1) := by
  obtain ⟨⟨e2, e5, e6, e7, e8, e9, e10, e11, e12, e14, e17, e19⟩, hr, hd, hc⟩ := h.tr hi
  obtain ⟨c1, c2, c3, c4, c5⟩ := hc hal
  have hOB := OB_keep (v' := kup v 9 i 1) (u' := cRun u i 1) h.or h.bd ha i (fun c j hj hc => by rcases hc with rfl | rfl | rfl <;> simp [id, kup, hj]) (fun j hj => by simp [cRun, kup, hj]) (fun hw => by simp [ws, kup, h0] at hw) (Or.inl (by simp [kup])) (by simp [cRun, kup])
  refine h.at i hi h.ci.run (h.ri.up (rOk_any (by decide))) (fun c j hj h0 h4 h20 => by simp [id, kup, hj, h0, h4]) (fun j k hj8 hj hk => by simp [id, kup]) (by simp [id, kup]) (by simp [id, kup]) (by simp [id, kup]) (fun j hj8 hj => by (try simp only [cRun]); repeat rw [kup_ne _ _ _ (by omega)]) (fun j hj8 hj => by (try simp only [cRun]); repeat rw [kup_ne _ _ _ (by omega)]) (by first | (simp [cRun, kup]; done) | ((try simp only [cRun]); repeat rw [kup_o (by omega)])) ?_ hOB.1 hOB.2 (by simp [id, kup_ne]) (by simp [id, kup_ne]) (by simp [id, kup_ne]) (by simp [id, kup_ne]) ?_ ?_ ?_ ?_ ?_ (by simpa [id, kup] using h.xr i hi)
  · refine ⟨by simp [id, cRun, kup, e2, e5, e6, e7, e8, e9, e10, e11, e12, e14, e17, e19], fun k hk => by simpa [id, cRun, kup] using hr k hk, by simp [id, cRun, kup, hal], fun _ => ⟨by simp [cRun, kup, h0], by simp [id, cRun, kup, c2], by simpa [id, cRun, kup] using c3, by simp [kup, h0], by simp [kup, h0]⟩⟩
  · (try simp only [cRun]); repeat rw [kup_ne _ _ _ (by omega)]
  · (try simp only [cRun]); repeat rw [kup_ne _ _ _ (by omega)]
  · (try simp only [cRun]); repeat rw [kup_ne _ _ _ (by omega)]
  · (try simp only [cRun]); repeat rw [kup_ne _ _ _ (by omega)]
  · intro f hf; rw [show (kup v 9 i 1) 24 = v 24 by simp [id, kup_ne], show (cRun u i 1) 3 = u 3 by (try simp only [cRun]); repeat rw [kup_ne _ _ _ (by omega)]]; exact h.wr f hf
theorem Rel.window (h : Rel a m v u) (ha : a < 2 ^ 20) {i : Nat} (hi : i < 8) (hal : ¬ v 1 i = 0) {p : Int32} (hp : p = -1 ∨ vp_in p 16) : Rel (a + 1) m (kup v 8 i p) (kup u (8 + i) 8 p) := by
  obtain ⟨⟨e2, e5, e6, e7, e8, e9, e10, e11, e12, e14, e17, e19⟩, hr, hd, hc⟩ := h.tr hi
  obtain ⟨c1, c2, c3, c4, c5⟩ := hc hal
  have hOB := OB_keep (v' := kup v 8 i p) (u' := kup u (8 + i) 8 p) h.or h.bd ha i (fun c j hj hc => by rcases hc with rfl | rfl | rfl <;> simp [id, kup, hj]) (fun j hj => by simp [id, kup, hj]) (fun hw => by simp only [ws] at hw ⊢; simp [kup] at hw ⊢; exact hw) (Or.inl (by simp [kup])) (by simp [id, kup])
  refine h.at i hi (h.ci.up (cOk_win hp)) (h.ri.up (rOk_8 hp)) (fun c j hj h0 h4 h20 => by simp [id, kup, hj, h0, h4]) (fun j k hj8 hj hk => by simp [id, kup]) (by simp [id, kup]) (by simp [id, kup]) (by simp [id, kup]) (fun j hj8 hj => by (try simp only [id]); repeat rw [kup_ne _ _ _ (by omega)]) (fun j hj8 hj => by (try simp only [id]); repeat rw [kup_ne _ _ _ (by omega)]) (by first | (simp [id, kup]; done) | ((try simp only [id]); repeat rw [kup_o (by omega)])) ?_ hOB.1 hOB.2 (by simp [id, kup_ne]) (by simp [id, kup_ne]) (by simp [id, kup_ne]) (by simp [id, kup_ne]) ?_ ?_ ?_ ?_ ?_ (by simpa [id, kup] using h.xr i hi)
  · refine ⟨by simp [id, id, kup, e2, e5, e6, e7, e8, e9, e10, e11, e12, e14, e17, e19], fun k hk => by simpa [id, id, kup] using hr k hk, by simpa [kup] using hd, fun _ => ⟨by simp [id, id, kup, c1], by simp [id, id, kup, c2], by simpa [kup] using c3, by simpa [kup] using c4, by simpa [kup] using c5⟩⟩
  · (try simp only [id]); repeat rw [kup_ne _ _ _ (by omega)]
  · (try simp only [id]); repeat rw [kup_ne _ _ _ (by omega)]
  · (try simp only [id]); repeat rw [kup_ne _ _ _ (by omega)]
  · (try simp only [id]); repeat rw [kup_ne _ _ _ (by omega)]
  · intro f hf; rw [show (kup v 8 i p) 24 = v 24 by simp [id, kup_ne], show (kup u (8 + i) 8 p) 3 = u 3 by (try simp only [id]); repeat rw [kup_ne _ _ _ (by omega)]]; exact h.wr f hf
theorem Rel.offerS (h : Rel a m v u) (ha : a < 2 ^ 20) {i : Nat} (hi : i < 8) (hal : ¬ v 1 i = 0) {p l g : Int32} (hp : p = -1 ∨ vp_in p 16) (hl : p = -1 ∨ l = 1 ∨ l = 2) : Rel (a + 1) m (kup (kup (kup v 5 i p) 6 i l) 7 i g) (kup (kup (kup u (8 + i) 5 p) (8 + i) 6 l) (8 + i) 7 g) := by
  obtain ⟨⟨e2, e5, e6, e7, e8, e9, e10, e11, e12, e14, e17, e19⟩, hr, hd, hc⟩ := h.tr hi
  obtain ⟨c1, c2, c3, c4, c5⟩ := hc hal
  have hOB := OB_keep (v' := kup (kup (kup v 5 i p) 6 i l) 7 i g) (u' := kup (kup (kup u (8 + i) 5 p) (8 + i) 6 l) (8 + i) 7 g) h.or h.bd ha i (fun c j hj hc => by rcases hc with rfl | rfl | rfl <;> simp [id, kup, hj]) (fun j hj => by simp [id, kup, hj]) (fun hw => by simp only [ws] at hw ⊢; simp [kup] at hw ⊢; exact hw) (Or.inl (by simp [kup])) (by simp [id, kup])
  refine h.at i hi (((h.ci.up (cOk_offr hp)).up (cOk_t (by decide))).up (cOk_t (by decide))) (((h.ri.up (rOk_5 hp)).up (rOk_any (by decide))).up (rOk_any (by decide))) (fun c j hj h0 h4 h20 => by simp [id, kup, hj, h0, h4]) (fun j k hj8 hj hk => by simp [id, kup]) (by simp [id, kup]) (by simp [id, kup]) (by simp [id, kup]) (fun j hj8 hj => by (try simp only [id]); repeat rw [kup_ne _ _ _ (by omega)]) (fun j hj8 hj => by (try simp only [id]); repeat rw [kup_ne _ _ _ (by omega)]) (by first | (simp [id, kup]; done) | ((try simp only [id]); repeat rw [kup_o (by omega)])) ?_ hOB.1 hOB.2 (by simp [id, kup_ne]) (by simp [id, kup_ne]) (by simp [id, kup_ne]) (by simp [id, kup_ne]) ?_ ?_ ?_ ?_ ?_ (by simpa [id, kup] using h.xr i hi)
  · refine ⟨by simp [id, id, kup, e2, e5, e6, e7, e8, e9, e10, e11, e12, e14, e17, e19], fun k hk => by simpa [id, id, kup] using hr k hk, by simpa [kup] using hd, fun _ => ⟨by simp [id, id, kup, c1], by simp [id, id, kup, c2], by simpa [kup] using hl, by simpa [kup] using c4, by simpa [kup] using c5⟩⟩
  · (try simp only [id]); repeat rw [kup_ne _ _ _ (by omega)]
  · (try simp only [id]); repeat rw [kup_ne _ _ _ (by omega)]
  · (try simp only [id]); repeat rw [kup_ne _ _ _ (by omega)]
  · (try simp only [id]); repeat rw [kup_ne _ _ _ (by omega)]
  · intro f hf; rw [show (kup (kup (kup v 5 i p) 6 i l) 7 i g) 24 = v 24 by simp [id, kup_ne], show (kup (kup (kup u (8 + i) 5 p) (8 + i) 6 l) (8 + i) 7 g) 3 = u 3 by (try simp only [id]); repeat rw [kup_ne _ _ _ (by omega)]]; exact h.wr f hf
end KPM
end
section
section KMP
abbrev MRs (v u : kSt) : Prop := MR (v 20) (v 21) (v 22) (v 23) (u 4) (u 5) (u 6) (u 7)
theorem nI_m1 {k : Nat} (h : k < 2 ^ 31) : ¬ nI k = -1 := fun e => nI_pos h (by rw [e]; decide)
theorem holds_t {u : kSt} {k : Nat} : cHolds u k = true ↔ ¬ u 4 k = 0 := by unfold cHolds; split <;> simp_all
theorem holds_f {u : kSt} {k : Nat} : cHolds u k = false ↔ u 4 k = 0 := by unfold cHolds; split <;> simp_all
theorem nlt_le {x : Int32} : ¬ x < 0 ↔ 0 ≤ x := by
  rw [Int32.lt_iff_toInt_lt, Int32.le_iff_toInt_le]
  omega
theorem ix_pos0 {e : Nat} (he : e < 2 ^ 31) : nI e = 0 ↔ e = 0 := by
  rw [show (0 : Int32) = nI 0 from rfl, nI_eq he (by decide)]
/-- a held mapping's depth, and its parent -/
theorem MR.dep {v u : kSt} (hI : cInv u) {k : Nat} (hk : k < 96) : ∃ e, e ≤ 12 ∧ u 6 k = nI e ∧ ix (u 6 k) = e := by
  obtain ⟨e, he, e2⟩ := hI.dep k hk
  exact ⟨e, he, e2, by rw [e2, ix_nI (by omega)]⟩
theorem MR.up {v u : kSt} (h : MRs v u) (hI : cInv u) {k e : Nat} (hk : k < 96) (hl : ¬ u 4 k = 0) (he : e + 1 ≤ 12) (hd : u 6 k = nI (e + 1)) : ∃ q, q < 96 ∧ u 7 k = nI q ∧ v 23 k = nI q ∧ ¬ u 4 q = 0 ∧ u 6 q = nI e := by
  obtain ⟨-, h2⟩ := h k hk
  obtain ⟨-, -, -, -, -, h3⟩ := h2 hl
  obtain ⟨h4, q, hq, h5, h6, h7⟩ := h3 (by rw [hd]; exact fun e9 => by have := (ix_pos0 (by omega)).mp e9; omega)
  refine ⟨q, hq, h5, h4.trans h5, h6, ?_⟩
  obtain ⟨z, hz, ez⟩ := hI.dep q hq
  rw [ez] at h7 ⊢
  rw [hd, nI_1, nI_eq (by omega) (by omega)] at h7
  rw [show z = e by omega]
theorem up_eq {v u : kSt} (h : MRs v u) (hI : cInv u) {z : Int32} : ∀ (e k : Nat), e ≤ 12 → k < 96 → ¬ u 4 k = 0 → u 6 k = nI e → rUp v z e (nI k) = cUp u z e (nI k)
  | 0, k, _, _, _, _ => rfl
  | e + 1, k, he, hk, hl, hd => by
    obtain ⟨q, hq, h5, h6, h7, h8⟩ := MR.up h hI hk hl he hd
    have hx := ix_nI (n := k) (by omega)
    have h1 := nI_m1 (k := k) (by omega)
    unfold rUp cUp
    rw [hx, h5, h6, if_neg h1, up_eq h hI e q (by omega) hq h7 h8]
theorem held_f {v u : kSt} (h : MRs v u) {k : Nat} (hk : k < 96) : 0 ≤ v 20 k ↔ ¬ u 4 k = 0 := by
  rw [← nlt_le, (h k hk).1]
theorem desc_eq {v u : kSt} (h : MRs v u) (hI : cInv u) {z : Int32} {k : Nat} (hk : k < 96) (hl : ¬ u 4 k = 0) : rDesc v k z = cDesc u k z := by
  obtain ⟨e, he, e2, e3⟩ := MR.dep (v := v) hI hk
  have h1 : v 22 k = u 6 k := ((h k hk).2 hl).2.2.1
  unfold rDesc cDesc
  rw [if_pos ((held_f h hk).mpr hl), h1, e3]
  exact up_eq h hI e k he hk hl e2
theorem desc_n {v u : kSt} (h : MRs v u) {z : Int32} {k : Nat} (hk : k < 96) (hl : u 4 k = 0) : rDesc v k z = false := by
  unfold rDesc
  rw [if_neg (fun e => (held_f h hk).mp e hl), ix0]
  rfl
theorem count_eq {v u : kSt} (h : MRs v u) (hI : cInv u) {z : Int32} : ∀ n, n ≤ 96 → rCount v z n = cCount u z n
  | 0, _ => rfl
  | n + 1, hn => by
    unfold rCount cCount
    rw [count_eq h hI n (by omega)]
    by_cases hl : u 4 n = 0
    · rw [desc_n h (by omega) hl]
      simp [holds_f.mpr hl]
    · rw [desc_eq h hI (by omega) hl]
      by_cases hd : cDesc u n z = true
      · rw [if_pos hd, if_pos ⟨holds_t.mpr hl, hd⟩]
      · rw [if_neg hd, if_neg (fun e => hd e.2)]
        simp
/-- how many of the first n places are so -/
def cnt (P : Nat → Bool) : Nat → Int32
  | 0 => 0
  | n + 1 => if P n = true then cnt P n + 1 else cnt P n
theorem cnt_congr {P Q : Nat → Bool} : ∀ n, (∀ k, k < n → P k = Q k) → cnt P n = cnt Q n
  | 0, _ => rfl
  | n + 1, h => by
    unfold cnt
    rw [h n (by omega), cnt_congr n (fun k hk => h k (by omega))]
theorem cnt_split {P Q R : Nat → Bool} : ∀ n, (∀ k, k < n → P k = (Q k || R k) ∧ (Q k && R k) = false) → cnt P n = cnt Q n + cnt R n
  | 0, _ => rfl
  | n + 1, h => by
    have ih := cnt_split (P := P) (Q := Q) (R := R) n (fun k hk => h k (by omega))
    obtain ⟨h1, h2⟩ := h n (by omega)
    unfold cnt
    rw [h1, ih]
    cases hq : Q n <;> cases hr : R n <;> rw [hq, hr] at h2 <;> simp_all <;> ac_rfl
theorem cnt_one {a : Nat} {b : Bool} : ∀ n, cnt (fun k => decide (k = a) && b) n = if a < n ∧ b = true then 1 else 0
  | 0 => by simp [cnt]
  | n + 1 => by
    unfold cnt
    rw [cnt_one n]
    by_cases hna : n = a
    · subst hna
      cases b <;> simp
    · by_cases h1 : a < n
      · cases b <;> simp [hna, h1, show a < n + 1 by omega]
      · have : ¬ a < n + 1 := by omega
        simp [hna, h1, this]
-- the class's removal
theorem cUp_congr {u u' : kSt} (h : u' 7 = u 7) {z : Int32} : ∀ n a, cUp u' z n a = cUp u z n a
  | 0, _ => rfl
  | n + 1, a => by
    unfold cUp
    rw [h, cUp_congr h n]
theorem cDesc_congr {u u' : kSt} (h6 : u' 6 = u 6) (h7 : u' 7 = u 7) {z : Int32} {k : Nat} : cDesc u' k z = cDesc u k z := by
  unfold cDesc
  rw [h6, cUp_congr h7]
def lowP (u : kSt) (z m : Int32) (k : Nat) : Bool := cHolds u k && cDesc u k z && decide (m < u 4 k)
theorem cLow_4 {u : kSt} {z m : Int32} : ∀ n k, cLow u z m n 4 k = if k < n ∧ lowP u z m k = true then m else u 4 k
  | 0, k => by simp [cLow]
  | n + 1, k => by
    have ih := cLow_4 (u := u) (z := z) (m := m) n
    have e4 : cLow u z m n 4 n = u 4 n := by rw [ih n]; simp
    have eh : cHolds (cLow u z m n) n = cHolds u n := by unfold cHolds; rw [e4]
    have ed : cDesc (cLow u z m n) n z = cDesc u n z := cDesc_congr (cLow_ne (by decide) n) (cLow_ne (by decide) n)
    unfold cLow
    rw [eh, ed]
    by_cases hc : cHolds u n = true ∧ cDesc u n z = true
    · rw [if_pos hc]
      unfold cLower
      rw [e4]
      by_cases hm : m < u 4 n
      · rw [if_pos hm]
        by_cases hkn : k = n
        · subst hkn
          rw [kup_eq, if_pos ⟨by omega, by simp [lowP, hc, hm]⟩]
        · rw [kup_j hkn, ih k]
          by_cases hk : k < n
          · simp [hk, show k < n + 1 by omega]
          · simp [hk, show ¬ k < n + 1 by omega]
      · rw [if_neg hm, ih k]
        by_cases hkn : k = n
        · subst hkn
          simp [lowP, hm]
        · by_cases hk : k < n
          · simp [hk, show k < n + 1 by omega]
          · simp [hk, show ¬ k < n + 1 by omega]
    · rw [if_neg hc, ih k]
      by_cases hkn : k = n
      · subst hkn
        have : lowP u z m k = false := by
          unfold lowP
          cases h1 : cHolds u k <;> cases h2 : cDesc u k z <;> simp_all
        simp [this]
      · by_cases hk : k < n
        · simp [hk, show k < n + 1 by omega]
        · simp [hk, show ¬ k < n + 1 by omega]
theorem cLowN_eq {u : kSt} {z m : Int32} : ∀ n, cLowN u z m n = cnt (lowP u z m) n
  | 0 => rfl
  | n + 1 => by
    have e4 : cLow u z m n 4 n = u 4 n := by rw [cLow_4 n n]; simp
    have eh : cHolds (cLow u z m n) n = cHolds u n := by unfold cHolds; rw [e4]
    have ed : cDesc (cLow u z m n) n z = cDesc u n z := cDesc_congr (cLow_ne (by decide) n) (cLow_ne (by decide) n)
    unfold cLowN cnt
    rw [eh, ed, cLowN_eq n]
    unfold cLowerN
    rw [e4]
    unfold lowP
    cases h1 : cHolds u n <;> cases h2 : cDesc u n z <;> by_cases hm : m < u 4 n <;> simp [hm]
-- the reference's removal
theorem rUp_congr {v v' : kSt} (h : v' 23 = v 23) {z : Int32} : ∀ n a, rUp v' z n a = rUp v z n a
  | 0, _ => rfl
  | n + 1, a => by
    unfold rUp
    rw [h, rUp_congr h n]
theorem rDesc_congr {v v' : kSt} {k : Nat} (h0 : v' 20 k = v 20 k) (h2 : v' 22 = v 22) (h3 : v' 23 = v 23) {z : Int32} : rDesc v' k z = rDesc v k z := by
  unfold rDesc
  rw [h0, h2, rUp_congr h3]
theorem rHit_congr {v v' : kSt} {k : Nat} (h0 : v' 20 k = v 20 k) (h2 : v' 22 = v 22) (h3 : v' 23 = v 23) {z e : Int32} : rHit v' z e k = rHit v z e k := by
  unfold rHit
  rw [h0, h2, rDesc_congr h0 h2 h3]
theorem rRem1_ne {v : kSt} {z e : Int32} {a : Nat} (ha : a ≠ 20) : ∀ n, rRem1 v z e n a = v a
  | 0 => rfl
  | n + 1 => by
    unfold rRem1
    split
    · rw [kup_ne _ _ _ ha, rRem1_ne ha n]
    · exact rRem1_ne ha n
theorem rRem1_20 {v : kSt} {z e : Int32} : ∀ n k, rRem1 v z e n 20 k = if k < n ∧ rHit v z e k = true then -1 else v 20 k
  | 0, k => by simp [rRem1]
  | n + 1, k => by
    have ih := rRem1_20 (v := v) (z := z) (e := e) n
    have e4 : rRem1 v z e n 20 n = v 20 n := by rw [ih n]; simp
    have eh : rHit (rRem1 v z e n) z e n = rHit v z e n := rHit_congr e4 (rRem1_ne (by decide) n) (rRem1_ne (by decide) n)
    unfold rRem1
    rw [eh]
    by_cases hc : rHit v z e n = true
    · rw [if_pos hc]
      by_cases hkn : k = n
      · subst hkn
        rw [kup_eq, if_pos ⟨by omega, hc⟩]
      · rw [kup_j hkn, ih k]
        by_cases hk : k < n
        · simp [hk, show k < n + 1 by omega]
        · simp [hk, show ¬ k < n + 1 by omega]
    · rw [if_neg hc, ih k]
      by_cases hkn : k = n
      · subst hkn
        simp [hc]
      · by_cases hk : k < n
        · simp [hk, show k < n + 1 by omega]
        · simp [hk, show ¬ k < n + 1 by omega]
theorem rRem1N_eq {v : kSt} {z e a : Int32} : ∀ n, rRem1N v z e a n = a + cnt (rHit v z e) n
  | 0 => by simp [rRem1N, cnt]
  | n + 1 => by
    have e4 : rRem1 v z e n 20 n = v 20 n := by rw [rRem1_20 n n]; simp
    have eh : rHit (rRem1 v z e n) z e n = rHit v z e n := rHit_congr e4 (rRem1_ne (by decide) n) (rRem1_ne (by decide) n)
    unfold rRem1N cnt
    rw [eh, rRem1N_eq n]
    split
    · ac_rfl
    · rfl
/-- taken by the removal from depth e on -/
def hitU (v : kSt) (z : Int32) (e : Nat) (k : Nat) : Bool := decide (0 ≤ v 20 k) && rDesc v k z && decide (1 ≤ ix (v 22 k)) && decide (ix (v 22 k) ≤ e)
theorem hitU_0 {v : kSt} {z : Int32} {k : Nat} : hitU v z 0 k = false := by
  unfold hitU
  generalize ix (v 22 k) = x
  cases x <;> simp
theorem rHit_iff {v : kSt} (hI : rInv v) {z : Int32} {e k : Nat} (hk : k < 96) (he : e < 12) : rHit v z (nI (e + 1)) k = (decide (0 ≤ v 20 k) && rDesc v k z && decide (ix (v 22 k) = e + 1)) := by
  obtain ⟨d, hd, hd2⟩ := vp_in_of (hI.depth hk) (by decide)
  have hx := ix_nI (n := d) (by omega)
  have hq := nI_eq (a := d) (b := e + 1) (by omega) (by omega)
  unfold rHit
  rw [hd2, hx]
  simp only [hq]
  by_cases h1 : v 20 k < 0
  · have : ¬ 0 ≤ v 20 k := fun e => nlt_le.mpr e h1
    simp [h1, this]
  · have := nlt_le.mp h1
    by_cases h2 : d = e + 1 <;> cases h3 : rDesc v k z <;> simp [h1, this, h2]
theorem rRem_ne {z : Int32} {N a : Nat} (ha : a ≠ 20) (e : Nat) (v : kSt) : rRem v z N e a = v a := by
  induction e generalizing v with
  | zero => rfl
  | succ e ih =>
    rw [rRem, ih, rRem1_ne ha]
theorem rRem_20 {z : Int32} (e : Nat) (he : e ≤ 12) (v : kSt) (hI : rInv v) (k : Nat) (hk : k < 96) : rRem v z 96 e 20 k = if hitU v z e k = true then -1 else v 20 k := by
  induction e generalizing v with
  | zero =>
    have : hitU v z 0 k = false := hitU_0
    rw [if_neg (by rw [this]; decide)]
    rfl
  | succ e ih =>
    have h22 : rRem1 v z (nI (e + 1)) 96 22 = v 22 := rRem1_ne (by decide) 96
    have h23 : rRem1 v z (nI (e + 1)) 96 23 = v 23 := rRem1_ne (by decide) 96
    have h20 := rRem1_20 (v := v) (z := z) (e := nI (e + 1)) 96 k
    rw [rRem, ih (by omega) _ (hI.rem1 96)]
    have hh := rHit_iff hI (z := z) hk (show e < 12 by omega)
    by_cases h : rHit v z (nI (e + 1)) k = true
    · rw [if_pos ⟨hk, h⟩] at h20
      have h1 : hitU (rRem1 v z (nI (e + 1)) 96) z e k = false := by
        unfold hitU
        rw [h20]
        simp [show ¬ (0 : Int32) ≤ -1 by decide]
      rw [if_neg (by rw [h1]; decide), h20, if_pos]
      rw [hh] at h
      unfold hitU
      simp at h ⊢
      exact ⟨⟨h.1, by omega⟩, by omega⟩
    · rw [if_neg (fun h9 => h h9.2)] at h20
      have h1 : hitU (rRem1 v z (nI (e + 1)) 96) z e k = hitU v z (e + 1) k := by
        rw [hh] at h
        unfold hitU
        rw [h20, h22, rDesc_congr h20 h22 h23]
        cases hf : decide (0 ≤ v 20 k) <;> cases hd : rDesc v k z <;> simp_all
        by_cases h9 : 1 ≤ ix (v 22 k)
        · by_cases h8 : ix (v 22 k) ≤ e
          · simp [h9, h8, show ix (v 22 k) ≤ e + 1 by omega]
          · simp [h9, h8, show ¬ ix (v 22 k) ≤ e + 1 by omega]
        · simp [h9]
      rw [h1, h20]
theorem rRemN_eq {z : Int32} (e : Nat) (he : e ≤ 12) (v : kSt) (hI : rInv v) (a : Int32) : rRemN v z a 96 e = a + cnt (hitU v z e) 96 := by
  induction e generalizing v a with
  | zero =>
    have : cnt (hitU v z 0) 96 = cnt (fun _ => false) 96 := cnt_congr 96 (fun k _ => hitU_0)
    rw [this, rRemN]
    have z0 : ∀ n, cnt (fun _ => false) n = 0 := by
      intro n
      induction n with
      | zero => rfl
      | succ n ih => simp [cnt, ih]
    rw [z0]
    simp
  | succ e ih =>
    rw [rRemN, ih (by omega) _ (hI.rem1 96), rRem1N_eq]
    have : cnt (hitU v z (e + 1)) 96 = cnt (rHit v z (nI (e + 1))) 96 + cnt (hitU (rRem1 v z (nI (e + 1)) 96) z e) 96 := by
      apply cnt_split
      intro k hk
      have h22 : rRem1 v z (nI (e + 1)) 96 22 = v 22 := rRem1_ne (by decide) 96
      have h23 : rRem1 v z (nI (e + 1)) 96 23 = v 23 := rRem1_ne (by decide) 96
      have h20 := rRem1_20 (v := v) (z := z) (e := nI (e + 1)) 96 k
      have hh := rHit_iff hI (z := z) hk (show e < 12 by omega)
      by_cases h : rHit v z (nI (e + 1)) k = true
      · rw [if_pos ⟨hk, h⟩] at h20
        have h1 : hitU (rRem1 v z (nI (e + 1)) 96) z e k = false := by
          unfold hitU
          rw [h20]
          simp [show ¬ (0 : Int32) ≤ -1 by decide]
        rw [h1, h]
        rw [hh] at h
        refine ⟨?_, rfl⟩
        unfold hitU
        simp at h ⊢
        exact ⟨⟨h.1, by omega⟩, by omega⟩
      · rw [if_neg (fun h9 => h h9.2)] at h20
        have hf9 : rHit v z (nI (e + 1)) k = false := by cases h8 : rHit v z (nI (e + 1)) k <;> simp_all
        rw [hf9]
        refine ⟨?_, rfl⟩
        rw [hh] at h
        unfold hitU
        rw [h20, h22, rDesc_congr h20 h22 h23]
        cases hf : decide (0 ≤ v 20 k) <;> cases hd : rDesc v k z <;> simp_all
        by_cases h9 : 1 ≤ ix (v 22 k)
        · by_cases h8 : ix (v 22 k) ≤ e
          · simp [h9, h8, show ix (v 22 k) ≤ e + 1 by omega]
          · simp [h9, h8, show ¬ ix (v 22 k) ≤ e + 1 by omega]
        · simp [h9]
    rw [this, Int32.add_assoc]
end KMP
end
section
section KMQ
theorem desc_0 {u : kSt} {z : Int32} {k : Nat} (h : u 6 k = 0) : cDesc u k z = false := by
  unfold cDesc
  rw [h, ix0]
  rfl
theorem cUp_s {u : kSt} {z a : Int32} {n : Nat} : cUp u z (n + 1) a = if a = -1 then false else if u 7 (ix a) = z then true else cUp u z n (u 7 (ix a)) := rfl
theorem desc_up {v u : kSt} (h : MRs v u) (hI : cInv u) {z : Int32} {k q : Nat} (hk : k < 96) (hq : q < 96) (hl : ¬ u 4 k = 0) (hd : ¬ u 6 k = 0) (hp : u 7 k = nI q) : cDesc u k z = (decide (nI q = z) || cDesc u q z) := by
  obtain ⟨e, he, e2, e3⟩ := MR.dep (v := v) hI hk
  cases e with
  | zero => exact absurd e2 hd
  | succ e =>
    obtain ⟨q', hq', h5, h6, h7, h8⟩ := MR.up h hI hk hl he e2
    have hqq : q' = q := by
      rw [h5, nI_eq (by omega) (by omega)] at hp
      exact hp
    subst hqq
    have hx := ix_nI (n := k) (by omega)
    have h1 := nI_m1 (k := k) (by omega)
    have e4 : cDesc u q' z = cUp u z e (nI q') := by unfold cDesc; rw [h8, ix_nI (by omega)]
    rw [e4]
    unfold cDesc
    rw [e3, cUp_s, hx, hp, if_neg h1]
    by_cases hz : nI q' = z <;> simp [hz]
theorem desc_lt {v u : kSt} (h : MRs v u) (hI : cInv u) {b : Nat} (hb : b < 96) : ∀ (e k : Nat), k < 96 → e ≤ 12 → ¬ u 4 k = 0 → u 6 k = nI e → cDesc u k (nI b) = true → ix (u 6 b) < e ∧ ¬ u 4 b = 0
  | 0, k, hk, he, hl, hd, h9 => by
    rw [desc_0 (by rw [hd]; rfl)] at h9
    cases h9
  | e + 1, k, hk, he, hl, hd, h9 => by
    obtain ⟨q, hq, h5, h6, h7, h8⟩ := MR.up h hI hk hl he hd
    rw [desc_up h hI hk hq hl (by rw [hd]; exact fun e9 => by have := (ix_pos0 (by omega)).mp e9; omega) h5] at h9
    by_cases hqb : q = b
    · subst hqb
      rw [h8, ix_nI (by omega)]
      exact ⟨by omega, h7⟩
    · have hne : ¬ nI q = nI b := fun e9 => hqb ((nI_eq (by omega) (by omega)).mp e9)
      simp [hne] at h9
      have := desc_lt h hI hb e q hq (by omega) h7 h8 h9
      exact ⟨by omega, this.2⟩
theorem desc_self {v u : kSt} (h : MRs v u) (hI : cInv u) {k : Nat} (hk : k < 96) (hl : ¬ u 4 k = 0) : cDesc u k (nI k) = false := by
  obtain ⟨e, he, e2, e3⟩ := MR.dep (v := v) hI hk
  cases h9 : cDesc u k (nI k) with
  | false => rfl
  | true =>
    have := (desc_lt h hI hk e k hk he hl e2 h9).1
    omega
theorem hit12 {v u : kSt} (h : MRs v u) (hI : cInv u) (hR : rInv v) {z : Int32} {k : Nat} (hk : k < 96) : hitU v z 12 k = (cHolds u k && cDesc u k z) := by
  unfold hitU
  by_cases hl : u 4 k = 0
  · rw [desc_n h hk hl, holds_f.mpr hl]
    simp
  · rw [desc_eq h hI hk hl, holds_t.mpr hl]
    have h0 := (held_f h hk).mpr hl
    have h1 : v 22 k = u 6 k := ((h k hk).2 hl).2.2.1
    obtain ⟨e, he, e2, e3⟩ := MR.dep (v := v) hI hk
    rw [h1, e3]
    cases hd : cDesc u k z with
    | false => simp
    | true =>
      have : e ≠ 0 := fun e9 => by
        subst e9
        rw [desc_0 (by rw [e2]; rfl)] at hd
        cases hd
      simp [h0, show 1 ≤ e by omega, he]
/-- some mappings go, and with each of them all below it -/
theorem MR.remove {f l d p lv fr dp pa f' lv' : Nat → Int32} (h : MR f l d p lv fr dp pa) (rem : Nat → Bool) (hf : ∀ k, k < 96 → f' k = if rem k = true then -1 else f k) (hl : ∀ k, k < 96 → lv' k = if rem k = true then 0 else lv k)
    (hd : ∀ k q, k < 96 → q < 96 → ¬ lv k = 0 → ¬ dp k = 0 → pa k = nI q → rem q = true → rem k = true) : MR f' l d p lv' fr dp pa := by
  intro k hk
  obtain ⟨h1, h2⟩ := h k hk
  rw [hf k hk, hl k hk]
  by_cases hr : rem k = true
  · rw [if_pos hr, if_pos hr]
    exact ⟨⟨fun _ => rfl, fun _ => by decide⟩, fun h9 => absurd rfl h9⟩
  · rw [if_neg hr, if_neg hr]
    refine ⟨h1, fun hh => ?_⟩
    obtain ⟨a1, a2, a3, a4, a5, a6⟩ := h2 hh
    refine ⟨a1, a2, a3, a4, a5, fun hdp => ?_⟩
    obtain ⟨b1, q, hq, b2, b3, b4⟩ := a6 hdp
    refine ⟨b1, q, hq, b2, ?_, b4⟩
    rw [hl q hq]
    by_cases hrq : rem q = true
    · exact absurd (hd k q hk hq hh hdp b2 hrq) hr
    · rw [if_neg hrq]
      exact b3
/-- some mappings get the level 1 -/
theorem MR.soft {f l d p lv fr dp pa l' lv' : Nat → Int32} (h : MR f l d p lv fr dp pa) (sf : Nat → Bool) (hl' : ∀ k, k < 96 → l' k = if sf k = true then 1 else l k) (hl : ∀ k, k < 96 → lv' k = if sf k = true then 1 else lv k) (hs : ∀ k, k < 96 → sf k = true → ¬ lv k = 0) : MR f l' d p lv' fr dp pa := by
  have hz : ∀ k, k < 96 → (lv' k = 0 ↔ lv k = 0) := by
    intro k hk
    rw [hl k hk]
    by_cases hr : sf k = true
    · rw [if_pos hr]
      exact ⟨fun e => absurd e (by decide), fun e => absurd e (hs k hk hr)⟩
    · rw [if_neg hr]
  intro k hk
  obtain ⟨h1, h2⟩ := h k hk
  refine ⟨h1.trans (hz k hk).symm, fun hh => ?_⟩
  obtain ⟨a1, a2, a3, a4, a5, a6⟩ := h2 (fun e => hh ((hz k hk).mpr e))
  refine ⟨a1, ?_, a3, ?_, a5, fun hdp => ?_⟩
  · rw [hl' k hk, hl k hk, a2]
  · rw [hl k hk]
    by_cases hr : sf k = true
    · rw [if_pos hr]; exact Or.inl rfl
    · rw [if_neg hr]; exact a4
  · obtain ⟨b1, q, hq, b2, b3, b4⟩ := a6 hdp
    exact ⟨b1, q, hq, b2, fun e => b3 ((hz q hq).mp e), b4⟩
variable {a m : Nat} {v u : kSt}
/-- the mappings alone change -/
theorem Rel.map {v' u' : kSt} (h : Rel a m v u) (hci : cInv u') (hri : rInv v') (hv : ∀ c, c < 20 ∨ c = 24 → v' c = v c) (hu : ∀ c, c < 4 ∨ 8 ≤ c → u' c = u c) (hM : MRs v' u') : Rel a m v' u' := by
  have e8 : ∀ i, u' (8 + i) = u (8 + i) := fun i => hu _ (Or.inr (by omega))
  have e16 : ∀ i, u' (16 + i) = u (16 + i) := fun i => hu _ (Or.inr (by omega))
  refine ⟨hci, hri, fun i hi => ?_, ?_, ?_, ?_, hM, ?_, ?_, ?_⟩
  · have := h.tr hi
    unfold TR at this ⊢
    rw [e8, e16, hv 0 (by omega), hv 1 (by omega), hv 2 (by omega), hv 3 (by omega), hv 4 (by omega), hv 5 (by omega), hv 6 (by omega), hv 7 (by omega), hv 8 (by omega), hv 9 (by omega), hv 10 (by omega), hv 11 (by omega), hv 12 (by omega), hv 13 (by omega), hv 14 (by omega), hv 15 (by omega), hv 17 (by omega), hv 18 (by omega), hv 19 (by omega)]
    exact this
  · have := h.pr
    unfold PR at this ⊢
    rw [hv 1 (by omega), hv 3 (by omega)]
    exact this
  · have := h.or
    unfold OR ws at this ⊢
    simp only [e8]
    rw [hv 1 (by omega), hv 13 (by omega), hv 16 (by omega)]
    exact this
  · have := h.bd
    unfold BD ws at this ⊢
    simp only [e8]
    rw [hv 0 (by omega), hv 1 (by omega), hv 13 (by omega), hv 16 (by omega), hu 0 (by omega)]
    exact this
  · have := h.wr
    unfold WR at this ⊢
    rw [hv 24 (by omega), hu 3 (by omega)]
    exact this
  · have := h.nr
    unfold NR at this ⊢
    rw [hv 0 (by omega), hu 0 (by omega)]
    exact this
  · have := h.xr
    unfold XR at this ⊢
    rw [hv 14 (by omega)]
    exact this
theorem cLower_0 {k : Nat} (hl : u 4 k = 1 ∨ u 4 k = 2) : cLower u k 0 = kup u 4 k 0 ∧ cLowerN u k 0 = 1 := by
  have : (0 : Int32) < u 4 k := by rcases hl with e | e <;> rw [e] <;> decide
  unfold cLower cLowerN
  rw [if_pos this, if_pos this]
  exact ⟨rfl, rfl⟩
theorem lvl_pos (h : MRs v u) {k : Nat} (hk : k < 96) (hl : ¬ u 4 k = 0) : (0 : Int32) < u 4 k := by
  rcases ((h k hk).2 hl).2.2.2.1 with e | e <;> rw [e] <;> decide
theorem lowP_0 (h : MRs v u) {z : Int32} {k : Nat} (hk : k < 96) : lowP u z 0 k = (cHolds u k && cDesc u k z) := by
  unfold lowP
  cases hh : cHolds u k with
  | false => simp
  | true =>
    have := lvl_pos h hk (holds_t.mp hh)
    simp [this]
/-- the descendants of z are removed, on both sides; as many -/
theorem Rel.below (h : Rel a m v u) {z : Int32} (hz : ∃ b, b < 96 ∧ z = nI b) : Rel a m (rRem v z 96 12) (cLow u z 0 96) ∧ rRemN v z 0 96 12 = cLowN u z 0 96 := by
  have hM := h.mr
  constructor
  · refine h.map (h.ci.low 96) (rInv.rem 96 12 v h.ri) (fun c hc => rRem_ne (by omega) 12 v) (fun c hc => cLow_ne (by omega) 96) ?_
    have e21 : rRem v z 96 12 21 = v 21 := rRem_ne (by decide) 12 v
    have e22 : rRem v z 96 12 22 = v 22 := rRem_ne (by decide) 12 v
    have e23 : rRem v z 96 12 23 = v 23 := rRem_ne (by decide) 12 v
    have g5 : cLow u z 0 96 5 = u 5 := cLow_ne (by decide) 96
    have g6 : cLow u z 0 96 6 = u 6 := cLow_ne (by decide) 96
    have g7 : cLow u z 0 96 7 = u 7 := cLow_ne (by decide) 96
    show MR _ _ _ _ _ _ _ _
    rw [e21, e22, e23, g5, g6, g7]
    refine MR.remove hM (fun k => cHolds u k && cDesc u k z) (fun k hk => ?_) (fun k hk => ?_) (fun k q hk hq hl hd hp hr => ?_)
    · rw [rRem_20 12 (by decide) v h.ri k hk, hit12 hM h.ci h.ri hk]
    · rw [cLow_4 96 k, lowP_0 hM hk]
      simp [hk]
    · simp only [Bool.and_eq_true] at hr ⊢
      refine ⟨holds_t.mpr hl, ?_⟩
      rw [desc_up hM h.ci hk hq hl hd hp, hr.2]
      simp
  · rw [rRemN_eq 12 (by decide) v h.ri, cLowN_eq, cnt_congr 96 (fun k hk => (hit12 hM h.ci h.ri hk).trans (lowP_0 hM hk).symm)]
    simp
/-- a mapping with all below it is removed -/
theorem Rel.clean (h : Rel a m v u) {t : Nat} (ht : t < 96) : Rel a m (rClean v t) (cClean u t) ∧ cClean u t 4 t = 0 := by
  have hM := h.mr
  by_cases hl : u 4 t = 0
  · have e1 : rClean v t = v := by unfold rClean; rw [if_pos ((hM t ht).1.mpr hl)]
    have e2 : cClean u t = u := by unfold cClean; rw [if_neg (fun e => holds_t.mp e hl)]
    rw [e1, e2]
    exact ⟨h, hl⟩
  · have e1 : rClean v t = kup (rRem v (nI t) 96 12) 20 t (-1) := by unfold rClean; rw [if_neg (fun e => hl ((hM t ht).1.mp e))]
    have hs := desc_self hM h.ci ht hl
    have e4 : cLow u (nI t) 0 96 4 t = u 4 t := by
      rw [cLow_4 96 t, lowP_0 hM ht, hs]
      simp
    have e2 : cClean u t = kup (cLow u (nI t) 0 96) 4 t 0 := by
      unfold cClean
      rw [if_pos (holds_t.mpr hl), (cLower_0 (u := cLow u (nI t) 0 96) (k := t) (by rw [e4]; exact ((hM t ht).2 hl).2.2.2.1)).1]
    obtain ⟨hB, -⟩ := h.below (z := nI t) ⟨t, ht, rfl⟩
    refine ⟨?_, by rw [e2, kup_eq]⟩
    refine h.map h.ci.clean h.ri.clean (fun c hc => ?_) (fun c hc => ?_) ?_
    · rw [e1, kup_ne _ _ _ (by omega), rRem_ne (by omega)]
    · rw [e2, kup_ne _ _ _ (by omega), cLow_ne (by omega)]
    · have q21 : rClean v t 21 = v 21 := by rw [e1, kup_ne _ _ _ (by decide), rRem_ne (by decide)]
      have q22 : rClean v t 22 = v 22 := by rw [e1, kup_ne _ _ _ (by decide), rRem_ne (by decide)]
      have q23 : rClean v t 23 = v 23 := by rw [e1, kup_ne _ _ _ (by decide), rRem_ne (by decide)]
      have g5 : cClean u t 5 = u 5 := by rw [e2, kup_ne _ _ _ (by decide), cLow_ne (by decide)]
      have g6 : cClean u t 6 = u 6 := by rw [e2, kup_ne _ _ _ (by decide), cLow_ne (by decide)]
      have g7 : cClean u t 7 = u 7 := by rw [e2, kup_ne _ _ _ (by decide), cLow_ne (by decide)]
      show MR _ _ _ _ _ _ _ _
      rw [q21, q22, q23, g5, g6, g7]
      refine MR.remove hM (fun k => decide (k = t) || (cHolds u k && cDesc u k (nI t))) (fun k hk => ?_) (fun k hk => ?_) (fun k q hk hq hh hd hp hr => ?_)
      · rw [e1]
        by_cases hkt : k = t
        · subst hkt
          rw [kup_eq]
          simp
        · rw [kup_j hkt, rRem_20 12 (by decide) v h.ri k hk, hit12 hM h.ci h.ri hk]
          simp [hkt]
      · rw [e2]
        by_cases hkt : k = t
        · subst hkt
          rw [kup_eq]
          simp
        · rw [kup_j hkt, cLow_4 96 k, lowP_0 hM hk]
          simp [hkt, hk]
      · have hx : cDesc u k (nI t) = true := by
          rw [desc_up hM h.ci hk hq hh hd hp]
          simp only [Bool.or_eq_true, decide_eq_true_eq, Bool.and_eq_true] at hr
          rcases hr with rfl | hr
          · simp
          · rw [hr.2]; simp
        rw [hx, holds_t.mpr hh]
        simp
end KMQ
end
section
section KMS
theorem cAdopt_ne {u : kSt} {z t : Int32} {b : Nat} (hb : b ≠ 7) : ∀ n, cAdopt u z t n b = u b
  | 0 => rfl
  | n + 1 => by
    unfold cAdopt
    split
    · rw [kup_ne _ _ _ hb, cAdopt_ne hb n]
    · exact cAdopt_ne hb n
theorem cAdopt_7 {u : kSt} {z t : Int32} : ∀ n k, cAdopt u z t n 7 k = if k < n ∧ ¬ u 4 k = 0 ∧ u 7 k = z then t else u 7 k
  | 0, k => by simp [cAdopt]
  | n + 1, k => by
    have ih := cAdopt_7 (u := u) (z := z) (t := t) n
    have e7 : cAdopt u z t n 7 n = u 7 n := by rw [ih n]; simp
    have eh : cHolds (cAdopt u z t n) n = cHolds u n := by unfold cHolds; rw [cAdopt_ne (by decide)]
    unfold cAdopt
    rw [eh, e7]
    simp only [holds_t]
    by_cases hkn : k = n
    · subst hkn
      by_cases hc : ¬ u 4 k = 0 ∧ u 7 k = z
      · rw [if_pos hc, kup_eq, if_pos ⟨by omega, hc⟩]
      · rw [if_neg hc, ih k, if_neg (fun e => by omega), if_neg (fun e => hc e.2)]
    · have hlt : (k < n + 1 ∧ ¬ u 4 k = 0 ∧ u 7 k = z) ↔ (k < n ∧ ¬ u 4 k = 0 ∧ u 7 k = z) := ⟨fun e => ⟨by omega, e.2⟩, fun e => ⟨by omega, e.2⟩⟩
      simp only [hlt]
      split
      · rw [kup_j hkn, ih k]
      · exact ih k
theorem rAdopt_ne {v : kSt} {s t : Int32} {b : Nat} (hb : b ≠ 23) : ∀ n, rAdopt v s t n b = v b
  | 0 => rfl
  | n + 1 => by
    unfold rAdopt
    split
    · rw [kup_ne _ _ _ hb, rAdopt_ne hb n]
    · exact rAdopt_ne hb n
theorem rBelow_iff {v : kSt} {s : Int32} {k : Nat} : rBelow v s k = true ↔ (¬ v 20 k < 0 ∧ ¬ v 22 k ≤ 0 ∧ v 23 k = s) := by
  unfold rBelow
  split
  · simp_all
  · split
    · simp_all
    · split <;> simp_all
theorem rAdopt_23 {v : kSt} {s t : Int32} : ∀ n k, rAdopt v s t n 23 k = if k < n ∧ rBelow v s k = true then t else v 23 k
  | 0, k => by simp [rAdopt]
  | n + 1, k => by
    have ih := rAdopt_23 (v := v) (s := s) (t := t) n
    have e7 : rAdopt v s t n 23 n = v 23 n := by rw [ih n]; simp
    have eh : rBelow (rAdopt v s t n) s n = rBelow v s n := by unfold rBelow; rw [rAdopt_ne (by decide), rAdopt_ne (by decide), e7]
    unfold rAdopt
    rw [eh]
    by_cases hkn : k = n
    · subst hkn
      by_cases hc : rBelow v s k = true
      · rw [if_pos hc, kup_eq, if_pos ⟨by omega, hc⟩]
      · rw [if_neg hc, ih k, if_neg (fun e => by omega), if_neg (fun e => hc e.2)]
    · have hlt : (k < n + 1 ∧ rBelow v s k = true) ↔ (k < n ∧ rBelow v s k = true) := ⟨fun e => ⟨by omega, e.2⟩, fun e => ⟨by omega, e.2⟩⟩
      simp only [hlt]
      split
      · rw [kup_j hkn, ih k]
      · exact ih k
/-- a mapping goes from s to the empty place t, with what is below it -/
theorem MR.move {f l d p lv fr dp pa f' l' d' p' lv' fr' dp' pa' : Nat → Int32} (h : MR f l d p lv fr dp pa) {s t : Nat} (hs : s < 96) (ht : t < 96) (hst : ¬ s = t) (hls : ¬ lv s = 0) (hlt : lv t = 0) (hdp : ∀ k, k < 96 → ∃ e, e ≤ 12 ∧ dp k = nI e)
    (qf : ∀ k, k < 96 → f' k = if k = s then -1 else if k = t then f s else f k) (ql : ∀ k, k < 96 → l' k = if k = t then l s else l k) (qd : ∀ k, k < 96 → d' k = if k = t then d s else d k)
    (qlv : ∀ k, k < 96 → lv' k = if k = s then 0 else if k = t then lv s else lv k) (qfr : ∀ k, k < 96 → fr' k = if k = t then fr s else fr k) (qdp : ∀ k, k < 96 → dp' k = if k = t then dp s else dp k)
    (qp : ∀ k, k < 96 → k ≠ s → k ≠ t → ¬ lv k = 0 → ¬ dp k = 0 → p' k = if p k = nI s then nI t else p k) (qpt : ¬ p s = nI s → p' t = p s)
    (qpa : ∀ k, k < 96 → k ≠ s → k ≠ t → ¬ lv k = 0 → pa' k = if pa k = nI s then nI t else pa k) (qpat : ¬ pa s = nI s → pa' t = pa s) : MR f' l' d' p' lv' fr' dp' pa' := by
  obtain ⟨hs1, hs2⟩ := h s hs
  obtain ⟨s1, s2, s3, s4, s5, s6⟩ := hs2 hls
  have hns : ¬ pa s = nI s := by
    intro e
    by_cases h0 : dp s = 0
    · rw [s5 h0] at e
      exact nI_m1 (k := s) (by omega) e.symm
    · obtain ⟨-, q, hq, b2, -, b4⟩ := s6 h0
      rw [b2, nI_eq (by omega) (by omega)] at e
      subst e
      obtain ⟨e9, he, e2⟩ := hdp q hq
      rw [e2, nI_1, nI_eq (by omega) (by omega)] at b4
      omega
  intro k hk
  by_cases hks : k = s
  · subst hks
    rw [qf k hk, qlv k hk, if_pos rfl, if_pos rfl]
    exact ⟨⟨fun _ => rfl, fun _ => by decide⟩, fun h9 => absurd rfl h9⟩
  · by_cases hkt : k = t
    · subst hkt
      rw [qf k hk, qlv k hk, ql k hk, qd k hk, qfr k hk, qdp k hk, if_neg hks, if_pos rfl, if_neg hks, if_pos rfl, if_pos rfl, if_pos rfl, if_pos rfl, if_pos rfl, qpat hns]
      refine ⟨hs1, fun _ => ⟨s1, s2, s3, s4, s5, fun h0 => ?_⟩⟩
      obtain ⟨b1, q, hq, b2, b3, b4⟩ := s6 h0
      have hqs : ¬ q = s := fun e => hns (by rw [b2, e])
      have hqk : ¬ q = k := fun e => b3 (by rw [e]; exact hlt)
      refine ⟨by rw [qpt (by rw [b1]; exact hns)]; exact b1, q, hq, b2, ?_, ?_⟩
      · rw [qlv q hq, if_neg hqs, if_neg hqk]; exact b3
      · rw [qdp q hq, if_neg hqk]; exact b4
    · obtain ⟨h1, h2⟩ := h k hk
      rw [qf k hk, qlv k hk, ql k hk, qd k hk, qfr k hk, qdp k hk, if_neg hks, if_neg hkt, if_neg hks, if_neg hkt, if_neg hkt, if_neg hkt, if_neg hkt, if_neg hkt]
      refine ⟨h1, fun hh => ?_⟩
      obtain ⟨a1, a2, a3, a4, a5, a6⟩ := h2 hh
      rw [qpa k hk hks hkt hh]
      refine ⟨a1, a2, a3, a4, fun h0 => ?_, fun h0 => ?_⟩
      · rw [a5 h0, if_neg (fun e => nI_m1 (k := s) (by omega) e.symm)]
      · obtain ⟨b1, q, hq, b2, b3, b4⟩ := a6 h0
        rw [qp k hk hks hkt hh h0, b1, b2]
        have hqt : ¬ q = t := fun e => b3 (by rw [e]; exact hlt)
        by_cases hqs : q = s
        · subst hqs
          rw [if_pos rfl]
          refine ⟨rfl, t, ht, rfl, ?_, ?_⟩
          · rw [qlv t ht, if_neg (fun e => hst e.symm), if_pos rfl]; exact b3
          · rw [qdp t ht, if_pos rfl]; exact b4
        · have hne : ¬ nI q = nI s := fun e => hqs ((nI_eq (by omega) (by omega)).mp e)
          rw [if_neg hne]
          refine ⟨rfl, q, hq, rfl, ?_, ?_⟩
          · rw [qlv q hq, if_neg hqs, if_neg hqt]; exact b3
          · rw [qdp q hq, if_neg hqt]; exact b4
/-- a mapping of its own at the empty place t, below s -/
theorem MR.derive {f l d p lv fr dp pa f' l' d' p' lv' fr' dp' pa' : Nat → Int32} {x : Int32} (h : MR f l d p lv fr dp pa) {s t : Nat} (hs : s < 96) (ht : t < 96) (hst : ¬ s = t) (hls : ¬ lv s = 0) (hlt : lv t = 0) (hx : x = 1 ∨ x = 2) (hdp : ∀ k, k < 96 → ∃ e, e ≤ 12 ∧ dp k = nI e)
    (qf : ∀ k, k < 96 → f' k = if k = t then f s else f k) (ql : ∀ k, k < 96 → l' k = if k = t then x else l k) (qd : ∀ k, k < 96 → d' k = if k = t then d s + 1 else d k) (qp : ∀ k, k < 96 → p' k = if k = t then nI s else p k)
    (qlv : ∀ k, k < 96 → lv' k = if k = t then x else lv k) (qfr : ∀ k, k < 96 → fr' k = if k = t then fr s else fr k) (qdp : ∀ k, k < 96 → dp' k = if k = t then dp s + 1 else dp k) (qpa : ∀ k, k < 96 → pa' k = if k = t then nI s else pa k) : MR f' l' d' p' lv' fr' dp' pa' := by
  obtain ⟨hs1, hs2⟩ := h s hs
  obtain ⟨s1, s2, s3, s4, s5, s6⟩ := hs2 hls
  have hx0 : ¬ x = 0 := by rcases hx with e | e <;> rw [e] <;> decide
  have hd1 : ¬ dp s + 1 = 0 := by
    obtain ⟨e, he, e2⟩ := hdp s hs
    rw [e2, nI_1, ix_pos0 (by omega)]
    omega
  intro k hk
  rw [qf k hk, qlv k hk, ql k hk, qd k hk, qp k hk, qfr k hk, qdp k hk, qpa k hk]
  by_cases hkt : k = t
  · subst hkt
    rw [if_pos rfl, if_pos rfl, if_pos rfl, if_pos rfl, if_pos rfl, if_pos rfl, if_pos rfl, if_pos rfl]
    refine ⟨⟨fun e => absurd (hs1.mp e) hls, fun e => absurd e hx0⟩, fun _ => ⟨s1, rfl, by rw [s3], hx, fun e => absurd e hd1, fun _ => ⟨rfl, s, hs, rfl, ?_, ?_⟩⟩⟩
    · rw [qlv s hs, if_neg hst]; exact hls
    · rw [qdp s hs, if_neg hst]
  · rw [if_neg hkt, if_neg hkt, if_neg hkt, if_neg hkt, if_neg hkt, if_neg hkt, if_neg hkt, if_neg hkt]
    obtain ⟨h1, h2⟩ := h k hk
    refine ⟨h1, fun hh => ?_⟩
    obtain ⟨a1, a2, a3, a4, a5, a6⟩ := h2 hh
    refine ⟨a1, a2, a3, a4, a5, fun h0 => ?_⟩
    obtain ⟨b1, q, hq, b2, b3, b4⟩ := a6 h0
    have hqt : ¬ q = t := fun e => b3 (by rw [e]; exact hlt)
    refine ⟨b1, q, hq, b2, ?_, ?_⟩
    · rw [qlv q hq, if_neg hqt]; exact b3
    · rw [qdp q hq, if_neg hqt]; exact b4
variable {a m : Nat} {v u : kSt}
theorem Rel.move (h : Rel a m v u) {s t : Nat} (hs : s < 96) (ht : t < 96) (hst : ¬ s = t) (hls : ¬ u 4 s = 0) (hlt : u 4 t = 0) : Rel a m (rMove v s t) (cMove u s t) := by
  have hM := h.mr
  have hts : ¬ t = s := fun e => hst e.symm
  refine h.map (h.ci.move hs ht) (h.ri.move hs ht) (fun c hc => ?_) (fun c hc => ?_) ?_
  · unfold rMove
    rw [rAdopt_ne (by omega), kup_ne _ _ _ (by omega), kup_ne _ _ _ (by omega), kup_ne _ _ _ (by omega), kup_ne _ _ _ (by omega), kup_ne _ _ _ (by omega)]
  · unfold cMove
    rw [kup_ne _ _ _ (by omega), cAdopt_ne (by omega), kup_ne _ _ _ (by omega), kup_ne _ _ _ (by omega), kup_ne _ _ _ (by omega), kup_ne _ _ _ (by omega)]
  · have p0 : ∀ {x y : Int32}, x = y → (x = y) := fun e => e
    have hpos : ∀ k, k < 96 → ¬ u 4 k = 0 → ¬ u 6 k = 0 → ¬ v 20 k < 0 ∧ ¬ v 22 k ≤ 0 := by
      intro k hk hl h0
      refine ⟨fun e => hl ((hM k hk).1.mp e), fun e => ?_⟩
      rw [((hM k hk).2 hl).2.2.1] at e
      obtain ⟨z, hz, ez, -⟩ := MR.dep (v := v) h.ci hk
      rw [ez] at e h0
      exact nI_nle (n := z) (Nat.pos_of_ne_zero (fun e0 => h0 (by rw [e0]; rfl))) (by omega) e
    refine MR.move hM hs ht hst hls hlt h.ci.dep (fun k hk => ?_) (fun k hk => ?_) (fun k hk => ?_) (fun k hk => ?_) (fun k hk => ?_) (fun k hk => ?_) (fun k hk hks hkt hl h0 => ?_) (fun hp => ?_) (fun k hk hks hkt hl => ?_) (fun hp => ?_)
    · unfold rMove; rw [rAdopt_ne (by decide)]; simp [kup]
    · unfold rMove; rw [rAdopt_ne (by decide)]; simp [kup]
    · unfold rMove; rw [rAdopt_ne (by decide)]; simp [kup]
    · unfold cMove
      by_cases hks : k = s
      · subst hks; rw [kup_eq]; simp
      · rw [kup_j hks, cAdopt_ne (by decide)]; simp [kup, hks]
    · unfold cMove; rw [kup_o (by decide), cAdopt_ne (by decide)]; simp [kup]
    · unfold cMove; rw [kup_o (by decide), cAdopt_ne (by decide)]; simp [kup]
    · have hb := hpos k hk hl h0
      unfold rMove
      rw [rAdopt_23 96 k]
      have e9 : (k < 96 ∧ rBelow (kup (kup (kup (kup (kup v 20 t (v 20 s)) 21 t (v 21 s)) 22 t (v 22 s)) 23 t (v 23 s)) 20 s (-1)) (nI s) k = true) ↔ v 23 k = nI s := by
        rw [rBelow_iff]
        simp [kup, hks, hkt, hk]
        exact ⟨fun e => e.2.2, fun e => ⟨nlt_le.mp hb.1, Int32.not_le.mp hb.2, e⟩⟩
      simp only [e9]
      simp [kup, hkt]
    · unfold rMove
      rw [rAdopt_23 96 t, if_neg]
      · simp [kup]
      · rw [rBelow_iff]
        simp [kup, hts]
        intro _ _ _
        exact hp
    · unfold cMove
      rw [kup_o (by decide), cAdopt_7 96 k]
      simp [kup, hkt, hk, hl]
    · unfold cMove
      rw [kup_o (by decide), cAdopt_7 96 t, if_neg]
      · simp [kup]
      · simp [kup]
        intro _ _
        exact hp
theorem Rel.derive (h : Rel a m v u) {i s t : Nat} (hs : s < 96) (ht : t < 96) (hst : ¬ s = t) (hls : ¬ u 4 s = 0) (hlt : u 4 t = 0) (hd : ¬ 12 ≤ u 6 s) {x : Int32} (h6 : v 6 i = x) (hx : x = 1 ∨ x = 2) : Rel a m (rDerive v i s t) (cDerive u s t (if u 4 s < x then u 4 s else x)) := by
  have hM := h.mr
  obtain ⟨s1, s2, s3, s4, -, -⟩ := (hM s hs).2 hls
  have e1 : (if v 21 s ≤ v 6 i then v 21 s else v 6 i) = (if u 4 s < x then u 4 s else x) := by
    rw [h6, s2]
    rcases s4 with e | e <;> rcases hx with e2 | e2 <;> rw [e, e2] <;> decide
  have hy : (if u 4 s < x then u 4 s else x) = 1 ∨ (if u 4 s < x then u 4 s else x) = 2 := by
    split
    · exact s4
    · exact hx
  refine h.map (h.ci.derive hs hd) (h.ri.derive hs (by rw [s3]; exact hd)) (fun c hc => ?_) (fun c hc => ?_) ?_
  · unfold rDerive
    rw [kup_ne _ _ _ (by omega), kup_ne _ _ _ (by omega), kup_ne _ _ _ (by omega), kup_ne _ _ _ (by omega)]
  · unfold cDerive
    rw [kup_ne _ _ _ (by omega), kup_ne _ _ _ (by omega), kup_ne _ _ _ (by omega), kup_ne _ _ _ (by omega)]
  · refine MR.derive hM hs ht hst hls hlt hy h.ci.dep (fun k hk => ?_) (fun k hk => ?_) (fun k hk => ?_) (fun k hk => ?_) (fun k hk => ?_) (fun k hk => ?_) (fun k hk => ?_) (fun k hk => ?_)
    · unfold rDerive; simp [kup]
    · unfold rDerive; rw [e1]; simp [kup]
    · unfold rDerive; simp [kup]
    · unfold rDerive; simp [kup]
    · unfold cDerive; simp [kup]
    · unfold cDerive; simp [kup]
    · unfold cDerive; simp [kup]
    · unfold cDerive; simp [kup]
/-- an offer is handed on -/
theorem Rel.handOn (h : Rel a m v u) {i s t : Nat} (hs : s < 96) (ht : t < 96) (h6 : v 6 i = u (8 + i) 6) (h7 : v 7 i = u (8 + i) 7) (hx : v 6 i = 1 ∨ v 6 i = 2) : Rel a m (rHandOn v i s t) (cHandOn u s t (u (8 + i) 6) (u (8 + i) 7)) := by
  have hM := h.mr
  unfold rHandOn cHandOn
  by_cases hst : s = t
  · rw [if_pos hst, if_pos hst]; exact h
  · rw [if_neg hst, if_neg hst]
    by_cases hls : u 4 s = 0
    · rw [if_neg (fun e => (held_f hM hs).mp e hls), if_neg (fun e => holds_t.mp e hls)]; exact h
    · rw [if_pos ((held_f hM hs).mpr hls), if_pos (holds_t.mpr hls)]
      obtain ⟨h1, hlt⟩ := h.clean ht
      have hM1 := h1.mr
      have g7 : rClean v t 7 = v 7 := by
        unfold rClean
        split
        · rfl
        · rw [kup_ne _ _ _ (by decide), rRem_ne (by decide)]
      have g6 : rClean v t 6 = v 6 := by
        unfold rClean
        split
        · rfl
        · rw [kup_ne _ _ _ (by decide), rRem_ne (by decide)]
      unfold rHand2 cHand2
      by_cases hl2 : cClean u t 4 s = 0
      · rw [if_neg (fun e => (held_f hM1 hs).mp e hl2), if_neg (fun e => holds_t.mp e hl2)]; exact h1
      · rw [if_pos ((held_f hM1 hs).mpr hl2), if_pos (holds_t.mpr hl2), g7, h7]
        by_cases hg : u (8 + i) 7 = 0
        · rw [if_pos hg, if_neg (show ¬ u (8 + i) 7 ≠ 0 from fun e => e hg), ((hM1 s hs).2 hl2).2.2.1]
          by_cases hd : 12 ≤ cClean u t 6 s
          · rw [if_pos hd, if_pos hd]; exact h1
          · rw [if_neg hd, if_neg hd]
            exact h1.derive hs ht hst hl2 hlt hd (by rw [g6, h6]) (by rw [← h6]; exact hx)
        · rw [if_neg hg, if_pos hg]
          exact h1.move hs ht hst hl2 hlt
end KMS
end
section
section KO1
variable {a m : Nat} {v u : kSt}
theorem rsl_sl {x y : Int32} : rsl x y = sl x y := by
  unfold rsl sl
  rw [Int32.mul_comm]
theorem Rel.tt (h : Rel a m v u) {i : Nat} (hi : i < 8) (hal : ¬ v 1 i = 0) : v 13 i = u (8 + i) 2 ∧ v 3 i = u (8 + i) 4 ∧ (v 5 i = -1 ∨ v 6 i = 1 ∨ v 6 i = 2) ∧
    (v 13 i = 4 ∨ v 13 i = 5 → v 14 i = v 3 i ∧ ¬ v 3 i = -1 ∧ u (8 + i) 17 = (if v 18 i = 0 then 1 else 2)) ∧
    (v 13 i = 1 ∨ v 13 i = 2 ∨ v 13 i = 3 → v 15 i = u (8 + i) 14 ∧ (v 15 i = -1 ∨ v 0 0 < v 15 i)) := (h.tr hi).2.2.2 hal
theorem Rel.e2 (h : Rel a m v u) {i : Nat} (hi : i < 8) : v 2 i = u (8 + i) 3 := (h.tr hi).1.1
theorem Rel.e5 (h : Rel a m v u) {i : Nat} (hi : i < 8) : v 5 i = u (8 + i) 5 := (h.tr hi).1.2.1
theorem Rel.e6 (h : Rel a m v u) {i : Nat} (hi : i < 8) : v 6 i = u (8 + i) 6 := (h.tr hi).1.2.2.1
theorem Rel.e7 (h : Rel a m v u) {i : Nat} (hi : i < 8) : v 7 i = u (8 + i) 7 := (h.tr hi).1.2.2.2.1
theorem Rel.e8 (h : Rel a m v u) {i : Nat} (hi : i < 8) : v 8 i = u (8 + i) 8 := (h.tr hi).1.2.2.2.2.1
theorem Rel.e9 (h : Rel a m v u) {i : Nat} (hi : i < 8) : v 9 i = u (8 + i) 9 := (h.tr hi).1.2.2.2.2.2.1
theorem Rel.e10 (h : Rel a m v u) {i : Nat} (hi : i < 8) : v 10 i = u (8 + i) 10 := (h.tr hi).1.2.2.2.2.2.2.1
theorem Rel.e11 (h : Rel a m v u) {i : Nat} (hi : i < 8) : v 11 i = u (8 + i) 11 := (h.tr hi).1.2.2.2.2.2.2.2.1
theorem Rel.e12 (h : Rel a m v u) {i : Nat} (hi : i < 8) : v 12 i = u (8 + i) 12 := (h.tr hi).1.2.2.2.2.2.2.2.2.1
theorem Rel.e14 (h : Rel a m v u) {i : Nat} (hi : i < 8) : v 14 i = u (8 + i) 13 := (h.tr hi).1.2.2.2.2.2.2.2.2.2.1
theorem Rel.e17 (h : Rel a m v u) {i : Nat} (hi : i < 8) : v 17 i = u (8 + i) 16 := (h.tr hi).1.2.2.2.2.2.2.2.2.2.2.1
theorem Rel.e19 (h : Rel a m v u) {i : Nat} (hi : i < 8) : v 19 i = u (8 + i) 18 := (h.tr hi).1.2.2.2.2.2.2.2.2.2.2.2
theorem Rel.rg (h : Rel a m v u) {i k : Nat} (hi : i < 8) (hk : k < 4) : v 4 (4 * i + k) = u (16 + i) k := (h.tr hi).2.1 k hk
/-- a word becomes another -/
theorem Rel.word (h : Rel a m v u) {f : Nat} {x : Int32} : Rel a m (kup v 24 f x) (kup u 3 f x) := by
  have e8 : ∀ i, kup u 3 f x (8 + i) = u (8 + i) := fun i => kup_ne _ _ _ (by omega)
  have e16 : ∀ i, kup u 3 f x (16 + i) = u (16 + i) := fun i => kup_ne _ _ _ (by omega)
  have hv : ∀ c, c ≠ 24 → kup v 24 f x c = v c := fun c hc => kup_ne _ _ _ hc
  have hu : ∀ c, c ≠ 3 → kup u 3 f x c = u c := fun c hc => kup_ne _ _ _ hc
  refine ⟨h.ci.up cOk_3, h.ri.up (rOk_any (by decide)), fun i hi => ?_, ?_, ?_, ?_, ?_, ?_, ?_, ?_⟩
  · have := h.tr hi
    unfold TR at this ⊢
    rw [e8, e16, hv 0 (by omega), hv 1 (by omega), hv 2 (by omega), hv 3 (by omega), hv 4 (by omega), hv 5 (by omega), hv 6 (by omega), hv 7 (by omega), hv 8 (by omega), hv 9 (by omega), hv 10 (by omega), hv 11 (by omega), hv 12 (by omega), hv 13 (by omega), hv 14 (by omega), hv 15 (by omega), hv 17 (by omega), hv 18 (by omega), hv 19 (by omega)]
    exact this
  · have := h.pr
    unfold PR at this ⊢
    rw [hv 1 (by omega), hv 3 (by omega)]
    exact this
  · have := h.or
    unfold OR ws at this ⊢
    simp only [e8]
    rw [hv 1 (by omega), hv 13 (by omega), hv 16 (by omega)]
    exact this
  · have := h.bd
    unfold BD ws at this ⊢
    simp only [e8]
    rw [hv 0 (by omega), hv 1 (by omega), hv 13 (by omega), hv 16 (by omega), hu 0 (by omega)]
    exact this
  · rw [hv 20 (by omega), hv 21 (by omega), hv 22 (by omega), hv 23 (by omega), hu 4 (by omega), hu 5 (by omega), hu 6 (by omega), hu 7 (by omega)]
    exact h.mr
  · intro k hk
    have := h.wr k hk
    simp [kup, this]
  · have := h.nr
    unfold NR at this ⊢
    rw [hv 0 (by omega), hu 0 (by omega)]
    exact this
  · have := h.xr
    unfold XR at this ⊢
    rw [hv 14 (by omega)]
    exact this
/-- a fault becomes a message to the pager -/
theorem Rel.passFault (h : Rel a m v u) (ha : a < 2 ^ 19) {f g : Nat} (hf : f < 8) (hg : g < 8) (haf : ¬ v 1 f = 0) (hag : ¬ v 1 g = 0) (hp : v 3 f = nI g) (hwl : u (8 + f) 17 = (if v 18 f = 0 then 1 else 2)) : Rel (a + 3) m (rReport v f) (cPassFault u f g) := by
  have hx := ix_nI (n := g) (by omega)
  unfold rReport cPassFault
  rw [hp, hx, h.e17 hf, ← hwl]
  have h1 := h.take (by omega) hg hag (s := nI f) (a1 := u (8 + f) 16) (a2 := u (8 + f) 17) (a3 := 0) (a4 := 0)
  have h2 := h1.rest (by omega) hf (by simpa [rTake, kup] using haf) (p := g) (by simpa [rTake, kup] using hp) hg (by simpa [rTake, cTake, kup] using hwl)
  exact h2.run (by omega) hg (by simpa [rTake, kup] using hag)
theorem m1_neg {x : Int32} (h : x = -1 ∨ 0 ≤ x) : ¬ 0 ≤ x ↔ x = -1 := by
  constructor
  · intro h1
    exact h.resolve_right h1
  · intro h1
    rw [h1]
    decide
theorem vin_ge {x : Int32} {n : Nat} (h : vp_in x n) : 0 ≤ x := by
  rw [Int32.le_iff_toInt_le, Int32.toInt_zero]
  exact (vp_in_iff.mp h).1
theorem m1_in {x : Int32} {n : Nat} (h : x = -1 ∨ vp_in x n) : x = -1 ∨ 0 ≤ x := h.imp id vin_ge
/-- an access is tried -/
theorem Rel.attempt (h : Rel a m v u) (ha : a < 2 ^ 18) {t : Nat} (ht : t < 8) (hal : ¬ v 1 t = 0) (hwl : u (8 + t) 17 = (if v 18 t = 0 then 1 else 2)) : Rel (a + 4) m (rAttempt v t) (cTry u t) := by
  have hM := h.mr
  obtain ⟨c1, c2, c3, c4, c5⟩ := h.tt ht hal
  have hk := (sl_eq (h.ci.space ht) (h.ci.wanted ht)).2
  unfold rAttempt cTry
  rw [rsl_sl, h.e2 ht, h.e17 ht]
  generalize sl (u (8 + t) 3) (u (8 + t) 16) = k at hk ⊢
  have hok : rOk v t k = true ↔ ¬ u 4 k < u (8 + t) 17 := by
    unfold rOk
    rw [← hwl]
    by_cases hl : u 4 k = 0
    · rw [if_pos ((hM k hk).1.mpr hl), hl]
      have : (0 : Int32) < u (8 + t) 17 := by rw [hwl]; split <;> decide
      simp [this]
    · rw [if_neg (fun e => hl ((hM k hk).1.mp e)), ((hM k hk).2 hl).2.1]
      by_cases h9 : u 4 k < u (8 + t) 17 <;> simp [h9]
  by_cases hc : u 4 k < u (8 + t) 17
  · rw [if_neg (fun e => hok.mp e hc), if_pos hc]
    unfold rAttempt2
    by_cases hp : u (8 + t) 4 = -1
    · rw [if_pos hp, if_neg (by rw [c2, hp]; decide)]
      exact (h.stuck (by omega) ht hal).mono (by omega) (Nat.le_refl _)
    · rw [if_neg hp, c2]
      have hin := or_in (h.ci.pager ht) hp
      rw [if_pos (vin_ge hin)]
      obtain ⟨p, hp8, hp2⟩ := vp_in_of hin (by decide)
      have hx := ix_nI (n := p) (by omega)
      have hap : ¬ v 1 p = 0 := by
        rcases h.pr t ht hal with e | e
        · rw [c2] at e; exact absurd e hp
        · rw [c2, hp2, hx] at e; exact e.2
      rw [hp2, hx]
      have h1 := h.faultW (by omega) ht hal (p := p) (by rw [c2, hp2]) hp8 hwl
      have hap1 : ¬ rLinger v t 4 (nI p) (-1) 1 p = 0 := by simpa [rLinger, kup] using hap
      have hal1 : ¬ rLinger v t 4 (nI p) (-1) 1 t = 0 := by simpa [rLinger, kup] using hal
      have d1 := (h1.tt hp8 hap1).1
      have d2 := h1.e14 hp8
      have d3 := h1.xr p hp8
      have h4t : rLinger v t 4 (nI p) (-1) 13 t = 4 := by simp [rLinger, kup]
      have h3t : rLinger v t 4 (nI p) (-1) 3 t = nI p := by simp [rLinger, kup, c2, hp2]
      have hw1 := ((h1.tt ht hal1).2.2.2.1 (Or.inl h4t)).2.2
      unfold rAttempt3 cFault
      have hrc : cRecv (cJoin u t 4 (nI p) (-1)) p (nI t) = true ↔ (rLinger v t 4 (nI p) (-1) 13 p = 2 ∧ (rLinger v t 4 (nI p) (-1) 14 p = nI t ∨ ¬ 0 ≤ rLinger v t 4 (nI p) (-1) 14 p)) := by
        unfold cRecv
        rw [← d1, ← d2, m1_neg d3]
        by_cases g1 : rLinger v t 4 (nI p) (-1) 13 p = 2 <;> by_cases g2 : rLinger v t 4 (nI p) (-1) 14 p = -1 <;> by_cases g3 : rLinger v t 4 (nI p) (-1) 14 p = nI t <;> simp [g1, g2, g3]
      by_cases hr : cRecv (cJoin u t 4 (nI p) (-1)) p (nI t) = true
      · rw [if_pos hr]
        have hr2 := hrc.mp hr
        have hres : (if rLinger v t 4 (nI p) (-1) 13 p = 2 then (if rLinger v t 4 (nI p) (-1) 14 p = nI t then rReport (rLinger v t 4 (nI p) (-1)) t else if 0 ≤ rLinger v t 4 (nI p) (-1) 14 p then rLinger v t 4 (nI p) (-1) else rReport (rLinger v t 4 (nI p) (-1)) t) else rLinger v t 4 (nI p) (-1)) = rReport (rLinger v t 4 (nI p) (-1)) t := by
          rw [if_pos hr2.1]
          by_cases g3 : rLinger v t 4 (nI p) (-1) 14 p = nI t
          · rw [if_pos g3]
          · rw [if_neg g3, if_neg (hr2.2.resolve_left g3)]
        rw [hres]
        exact (h1.passFault (by omega) ht hp8 hal1 hap1 h3t hw1).mono (by omega) (Nat.le_refl _)
      · rw [if_neg hr]
        have hres : (if rLinger v t 4 (nI p) (-1) 13 p = 2 then (if rLinger v t 4 (nI p) (-1) 14 p = nI t then rReport (rLinger v t 4 (nI p) (-1)) t else if 0 ≤ rLinger v t 4 (nI p) (-1) 14 p then rLinger v t 4 (nI p) (-1) else rReport (rLinger v t 4 (nI p) (-1)) t) else rLinger v t 4 (nI p) (-1)) = rLinger v t 4 (nI p) (-1) := by
          by_cases g1 : rLinger v t 4 (nI p) (-1) 13 p = 2
          · rw [if_pos g1, if_neg (fun g3 => hr (hrc.mpr ⟨g1, Or.inl g3⟩))]
            by_cases g4 : 0 ≤ rLinger v t 4 (nI p) (-1) 14 p
            · rw [if_pos g4]
            · exact absurd (hrc.mpr ⟨g1, Or.inr g4⟩) hr
          · rw [if_neg g1]
        rw [hres]
        exact h1.mono (by omega) (Nat.le_refl _)
  · rw [if_pos (hok.mpr hc), if_neg hc]
    have hl : ¬ u 4 k = 0 := by
      intro hl
      rw [hl] at hc
      apply hc
      rw [hwl]
      split <;> decide
    have hf : v 20 k = u 5 k := ((hM k hk).2 hl).1
    have hfl := vin_lt (h.ci.frame hk)
    unfold rDo cDoAccess
    rw [hf, hwl]
    by_cases hs : v 18 t = 0
    · rw [if_pos hs, if_pos hs, if_neg (by decide), h.wr _ hfl]
      exact ((h.value (by omega) ht hal).run (by omega) ht (by simpa [kup] using hal)).mono (by omega) (Nat.le_refl _)
    · rw [if_neg hs, if_neg hs, if_pos rfl, h.e19 ht]
      exact ((h.word).run (by omega) ht (by simpa [kup] using hal)).mono (by omega) (Nat.le_refl _)
theorem takes_eq (h : Rel a m v u) {r s : Nat} (hr : r < 8) (hs : s < 8) (har : ¬ v 1 r = 0) : rTakes v r s = cTakes u r (nI s) := by
  have d1 := (h.tt hr har).1
  have d2 := h.e14 hr
  have d3 := h.xr r hr
  have d4 : v 14 r < 0 ↔ v 14 r = -1 := by
    rw [← m1_neg d3, ← nlt_le]
    simp
  unfold rTakes cTakes cRecv
  rw [← d1, ← d2]
  simp only [d4]
  by_cases g1 : v 13 r = 2 <;> by_cases g2 : v 14 r = -1 <;> by_cases g3 : v 14 r = nI s <;> by_cases g4 : v 13 r = 5 <;> simp_all
end KO1
end
section
section KO2
variable {a m : Nat} {v u : kSt}
theorem m1_lt {x : Int32} (h : x = -1 ∨ 0 ≤ x) : x < 0 ↔ x = -1 := by
  rw [← m1_neg h, ← nlt_le]
  simp
theorem rHandOn_lo {i s t c : Nat} (hc : c < 20 ∨ c = 24) : rHandOn v i s t c = v c := by
  have hcl : rClean v t c = v c := by
    unfold rClean
    split
    · rfl
    · rw [kup_ne _ _ _ (by omega), rRem_ne (by omega)]
  unfold rHandOn rHand2 rDerive rMove
  split
  · rfl
  · split
    · split
      · split
        · split
          · exact hcl
          · rw [kup_ne _ _ _ (by omega), kup_ne _ _ _ (by omega), kup_ne _ _ _ (by omega), kup_ne _ _ _ (by omega), hcl]
        · rw [rAdopt_ne (by omega), kup_ne _ _ _ (by omega), kup_ne _ _ _ (by omega), kup_ne _ _ _ (by omega), kup_ne _ _ _ (by omega), kup_ne _ _ _ (by omega), hcl]
      · exact hcl
    · rfl
theorem rMsg2_lo {s r c : Nat} {p : Int32} (hc : c < 20 ∨ c = 24) : rMsg2 v s r p c = v c := by
  unfold rMsg2
  split
  · rfl
  · split
    · rfl
    · exact rHandOn_lo hc
theorem Rel.msg1 (h : Rel a m v u) (ha : a < 2 ^ 19) {s r : Nat} (hs : s < 8) (hr : r < 8) (har : ¬ v 1 r = 0) : Rel (a + 1) m (rMsg1 v s r (decide (v 13 r = 5))) (cPass1 u s r) := by
  unfold rMsg1 cPass1
  rw [← (h.tt hr har).1]
  by_cases h5 : v 13 r = 5
  · simp only [h5, decide_true, if_true]
    exact h.mono (by omega) (Nat.le_refl _)
  · simp only [h5, decide_false, if_false]
    have e0 := h.rg hs (k := 0) (by decide)
    have e1 := h.rg hs (k := 1) (by decide)
    have e2 := h.rg hs (k := 2) (by decide)
    have e3 := h.rg hs (k := 3) (by decide)
    rw [Nat.add_zero] at e0
    rw [e0, e1, e2, e3]
    exact h.take (by omega) hr har
theorem Rel.msg2 (h : Rel a m v u) {s r : Nat} (hs : s < 8) (hr : r < 8) (has : ¬ v 1 s = 0) (har : ¬ v 1 r = 0) : Rel a m (rMsg2 v s r (rPage v r (decide (v 13 r = 5)))) (cOffer1 u s r) := by
  have hpg : rPage v r (decide (v 13 r = 5)) = cPage u r := by
    unfold rPage cPage
    rw [← (h.tt hr har).1, h.e17 hr, h.e8 hr]
    by_cases h5 : v 13 r = 5 <;> simp [h5]
  have hcp := h.ci.page hr
  have hco := h.ci.offer hs
  rw [hpg]
  unfold rMsg2 cOffer1
  rw [h.e5 hs]
  simp only [m1_lt (m1_in hco), m1_lt (m1_in hcp)]
  by_cases h1 : u (8 + s) 5 = -1
  · rw [if_pos h1, if_pos h1]; exact h
  · rw [if_neg h1, if_neg h1]
    by_cases h2 : cPage u r = -1
    · rw [if_pos h2, if_pos h2]; exact h
    · rw [if_neg h2, if_neg h2, rsl_sl, rsl_sl, h.e2 hs, h.e2 hr]
      have k1 := (sl_eq (h.ci.space hs) (or_in hco h1)).2
      have k2 := (sl_eq (h.ci.space hr) (or_in hcp h2)).2
      refine h.handOn k1 k2 (h.e6 hs) (h.e7 hs) ?_
      rcases (h.tt hs has).2.2.1 with e | e
      · rw [h.e5 hs] at e; exact absurd e h1
      · exact e
/-- a message goes from s to r -/
theorem Rel.message (h : Rel a m v u) (ha : a < 2 ^ 17) {s r : Nat} (hs : s < 8) (hr : r < 8) (hsr : ¬ s = r) (has : ¬ v 1 s = 0) (har : ¬ v 1 r = 0) {c : Int32} : Rel (a + 10) m (rMessage v s r c) (cPass u s r c) := by
  have h1 := h.msg1 (s := s) (by omega) hs hr har
  have e13 : rMsg1 v s r (decide (v 13 r = 5)) 13 = v 13 := by unfold rMsg1; split <;> simp [rTake, kup_ne]
  have e1 : rMsg1 v s r (decide (v 13 r = 5)) 1 = v 1 := by unfold rMsg1; split <;> simp [rTake, kup_ne]
  have d13 := (h.tt hr har).1
  unfold rMessage rMsgB cPass cOffer
  rw [← d13]
  generalize rMsg1 v s r (decide (v 13 r = 5)) = v1 at h1 e13 e1 ⊢
  generalize cPass1 u s r = u1 at h1 ⊢
  have h2 := h1.msg2 hs hr (by rw [e1]; exact has) (by rw [e1]; exact har)
  rw [e13] at h2
  have f13 : rMsg2 v1 s r (rPage v1 r (decide (v 13 r = 5))) 13 = v 13 := by rw [rMsg2_lo (by omega), e13]
  have f1 : rMsg2 v1 s r (rPage v1 r (decide (v 13 r = 5))) 1 = v 1 := by rw [rMsg2_lo (by omega), e1]
  generalize rMsg2 v1 s r (rPage v1 r (decide (v 13 r = 5))) = v2 at h2 f13 f1 ⊢
  generalize cOffer1 u1 s r = u2 at h2 ⊢
  have h3 := h2.noOffer (by omega) hs (by rw [f1]; exact has)
  have g13 : kup v2 5 s (-1) 13 = v 13 := by rw [kup_ne _ _ _ (by decide), f13]
  have g1 : kup v2 5 s (-1) 1 = v 1 := by rw [kup_ne _ _ _ (by decide), f1]
  generalize kup v2 5 s (-1) = v3 at h3 g13 g1 ⊢
  generalize kup u2 (8 + s) 5 (-1) = u3 at h3 ⊢
  have has3 : ¬ v3 1 s = 0 := by rw [g1]; exact has
  have h4 : Rel (a + 3) m (rMsg3 v3 s r c) (cPass2 u3 s r c) := by
    unfold rMsg3 cPass2
    by_cases hc : c = 0
    · rw [if_pos hc, if_pos hc]
      exact h3.run (by omega) hs has3
    · rw [if_neg hc, if_neg hc]
      exact h3.recvW (by omega) hs has3 (on := nI r) (lim := -1) (dl := -1) (by rw [if_neg (by decide)]) (Or.inl rfl) (Or.inr (nI_pos' (by omega)))
  have i13 : rMsg3 v3 s r c 13 r = v 13 r := by
    have hrs : ¬ r = s := fun e => hsr e.symm
    unfold rMsg3
    split
    · simp [rRun, kup, hrs, g13]
    · simp [rLinger, kup, hrs, g13]
  have i1 : rMsg3 v3 s r c 1 = v 1 := by
    unfold rMsg3
    split
    · simp [rRun, kup_ne, g1]
    · simp [rLinger, kup_ne, g1]
  generalize rMsg3 v3 s r c = v4 at h4 i13 i1 ⊢
  generalize cPass2 u3 s r c = u4 at h4 ⊢
  have har4 : ¬ v4 1 r = 0 := by rw [i1]; exact har
  unfold rMsg4 cPass3
  by_cases h5 : v 13 r = 5
  · simp only [h5, decide_true, if_true]
    exact (h4.attempt (by omega) hr har4 ((h4.tt hr har4).2.2.2.1 (Or.inr (by rw [i13]; exact h5))).2.2).mono (by omega) (Nat.le_refl _)
  · simp only [h5, decide_false, if_false]
    exact (h4.run (by omega) hr har4).mono (by omega) (Nat.le_refl _)
-- who is there
theorem alive_eq (h : Rel a m v u) {i : Nat} (hi : i < 8) : v 1 i = 0 ↔ u (8 + i) 2 = -1 := (h.tr hi).2.2.1
theorem thread_eq (h : Rel a m v u) {t : Int32} : rThread v t = cIsThread u t := by
  unfold rThread cIsThread
  by_cases h1 : t < 0
  · rw [if_pos h1, if_pos h1]
  · rw [if_neg h1, if_neg h1]
    by_cases h2 : 8 ≤ t
    · rw [if_pos h2, if_pos h2]
    · rw [if_neg h2, if_neg h2]
      simp only [alive_eq h (vin_lt (vin (m := 8) (n := 8) h1 h2))]
theorem cIsThread_al (h : Rel a m v u) {t : Int32} (ht : cIsThread u t = true) : ¬ v 1 (ix t) = 0 := by
  intro e
  have h2 := (alive_eq h (vin_lt (cIsThread_in ht))).mp e
  unfold cIsThread at ht
  rw [h2] at ht
  split at ht
  · cases ht
  · split at ht
    · cases ht
    · simp at ht
theorem running_eq (h : Rel a m v u) {t : Int32} : rRunning v t = cIsRun u t := by
  unfold rRunning cIsRun
  rw [thread_eq h]
  by_cases h1 : cIsThread u t = true
  · rw [if_pos h1, if_pos h1, (h.tt (vin_lt (cIsThread_in h1)) (cIsThread_al h h1)).1]
  · rw [if_neg h1, if_neg h1]
theorem run_0 (h : Rel a m v u) {t : Int32} (hr : cIsRun u t = true) : ix t < 8 ∧ ¬ v 1 (ix t) = 0 ∧ v 13 (ix t) = 0 := by
  have h1 := cIsRun_th hr
  have h2 := cIsThread_al h h1
  have h3 := vin_lt (cIsThread_in h1)
  refine ⟨h3, h2, ?_⟩
  rw [(h.tt h3 h2).1]
  unfold cIsRun at hr
  rw [if_pos h1] at hr
  split at hr
  · assumption
  · cases hr
/-- a limit's end -/
theorem limit_ok (h : Rel a m v u) (hm : m < 2 ^ 20) {n : Int32} (h1 : ¬ n < -1) (h2 : n ≤ 100) (h0 : ¬ n = 0) : cDeadline u n = (if 0 ≤ n then v 0 0 + n else -1) ∧ (cDeadline u n = -1 ∨ v 0 0 < cDeadline u n) := by
  obtain ⟨k, hk, e1, e2⟩ := h.nr
  have hi1 : (-1 : Int32).toInt = -1 := by decide
  have hi2 : (100 : Int32).toInt = 100 := by decide
  have hi0 : (0 : Int32).toInt = 0 := by decide
  unfold cDeadline
  by_cases hn : n = -1
  · subst hn
    rw [if_pos rfl, if_neg (by decide)]
    exact ⟨rfl, Or.inl rfl⟩
  · rw [if_neg hn]
    have hpos : 1 ≤ n.toInt ∧ n.toInt ≤ 100 := by
      rw [Int32.lt_iff_toInt_lt, hi1] at h1
      rw [Int32.le_iff_toInt_le, hi2] at h2
      have g0 : n.toInt ≠ 0 := fun e => h0 (Int32.toInt_inj.mp (by rw [e, hi0]))
      have g1 : n.toInt ≠ -1 := fun e => hn (Int32.toInt_inj.mp (by rw [e, hi1]))
      omega
    have hge : 0 ≤ n := by
      rw [Int32.le_iff_toInt_le, hi0]
      omega
    obtain ⟨j, hj, rfl⟩ := nI_of (x := n) (fun e => by rw [Int32.lt_iff_toInt_lt, hi0] at e; omega)
    rw [nI_toInt hj] at hpos
    rw [if_pos hge, e1, e2, nI_add]
    exact ⟨rfl, Or.inr (nI_lt (by omega) (by omega))⟩
theorem isLimit_eq {n : Int32} : cIsLimit n = true ↔ (¬ n < -1 ∧ n ≤ 100) := by
  unfold cIsLimit
  have : (100 : Int32) < n ↔ ¬ n ≤ 100 := by
    rw [Int32.lt_iff_toInt_lt, Int32.le_iff_toInt_le]
    omega
  by_cases h1 : n < -1
  · simp [h1]
  · by_cases h2 : n ≤ 100
    · simp [h1, h2, this]
    · simp [h1, h2, this]
theorem th_ge {n : Nat} {t : Int32} (h : vp_in t n) : t = -1 ∨ 0 ≤ t := Or.inr (vin_ge h)
/-- send and call -/
theorem speak_ok (h : Rel a m v u) (ha : a < 2 ^ 16) (hm : m < 2 ^ 20) {t o n c st : Int32} (hc : (c = 0 ∧ st = 1) ∨ (c = 1 ∧ st = 3)) :
    rSpeak v t o n c = ((if cMaySend u t o n = true then (if cTakes u (ix o) t = true then (c, rMessage v (ix t) (ix o) c) else (cWaitSendN n, if n = 0 then kup v 9 (ix t) 1 else rLinger v (ix t) st o n)) else (-1, v)))
    ∧ (cMaySend u t o n = true → Rel (a + 10) m (if cTakes u (ix o) t = true then rMessage v (ix t) (ix o) c else if n = 0 then kup v 9 (ix t) 1 else rLinger v (ix t) st o n) (if cTakes u (ix o) t = true then cPass u (ix t) (ix o) c else cWaitSend u (ix t) st o n)) := by
  constructor
  · unfold rSpeak cMaySend
    rw [running_eq h, thread_eq h]
    by_cases h1 : cIsRun u t = true
    · rw [if_pos h1, if_pos h1]
      by_cases h2 : o = t
      · rw [if_pos h2, if_pos h2]; simp
      · rw [if_neg h2, if_neg h2]
        by_cases h3 : cIsThread u o = true
        · rw [if_pos h3, if_pos h3]
          by_cases h4 : cIsLimit n = true
          · obtain ⟨h5, h6⟩ := isLimit_eq.mp h4
            have hto := cIsThread_in h3
            have htt := cIsRun_in h1
            rw [if_neg h5, if_pos h6, if_pos h4, if_pos rfl]
            unfold rSpk
            rw [takes_eq h (vin_lt hto) (vin_lt htt) (cIsThread_al h h3), ← vin_eq htt, ← vin_eq hto]
            by_cases h7 : cTakes u (ix o) t = true
            · rw [if_pos h7, if_pos h7]
              rcases hc with ⟨rfl, rfl⟩ | ⟨rfl, rfl⟩ <;> rfl
            · rw [if_neg h7, if_neg h7]
              unfold cWaitSendN
              by_cases h8 : n = 0
              · rw [if_pos h8, if_pos h8, if_pos h8]
              · rw [if_neg h8, if_neg h8, if_neg h8]
                rcases hc with ⟨rfl, rfl⟩ | ⟨rfl, rfl⟩ <;> rfl
          · have h5 : ¬ (¬ n < -1 ∧ n ≤ 100) := fun e => h4 (isLimit_eq.mpr e)
            rw [if_neg h4]
            by_cases h6 : n < -1
            · rw [if_pos h6]; simp
            · rw [if_neg h6, if_neg (fun e => h5 ⟨h6, e⟩)]; simp
        · rw [if_neg h3, if_neg h3]; simp
    · rw [if_neg h1, if_neg h1]; simp
  · intro hms
    obtain ⟨h1, h2, h3, h4⟩ := cMaySend_in hms
    obtain ⟨h5, h6⟩ := isLimit_eq.mp h4
    obtain ⟨r1, r2, r3⟩ := run_0 h h1
    have hto := cIsThread_in h3
    have hao := cIsThread_al h h3
    by_cases h7 : cTakes u (ix o) t = true
    · rw [if_pos h7, if_pos h7]
      refine h.message (by omega) r1 (vin_lt hto) (fun e => h2 ?_) r2 hao
      rw [vin_eq hto, vin_eq (cIsRun_in h1), e]
    · rw [if_neg h7, if_neg h7]
      unfold cWaitSend
      by_cases h8 : n = 0
      · rw [if_pos h8, if_pos h8]
        exact (h.gaveUp (by omega) r1 r2 r3).mono (by omega) (Nat.le_refl _)
      · rw [if_neg h8, if_neg h8]
        obtain ⟨l1, l2⟩ := limit_ok h hm h5 h6 h8
        refine (h.sendW (by omega) r1 r2 (st := st) (on := o) (lim := n) (dl := cDeadline u n) ?_ l1 l2 (th_ge hto)).mono (by omega) (Nat.le_refl _)
        rcases hc with ⟨-, rfl⟩ | ⟨-, rfl⟩
        · exact Or.inl rfl
        · exact Or.inr rfl
theorem send_ok (h : Rel a m v u) (ha : a < 2 ^ 16) (hm : m < 2 ^ 20) {t o n : Int32} : (rSpeak v t o n 0).1 = (cSend u t o n).1 ∧ Rel (a + 10) m (rSpeak v t o n 0).2 (cSend u t o n).2 := by
  obtain ⟨e1, e2⟩ := speak_ok h ha hm (t := t) (o := o) (n := n) (c := 0) (st := 1) (Or.inl ⟨rfl, rfl⟩)
  rw [e1]
  unfold cSend
  by_cases hms : cMaySend u t o n = true
  · have e3 := e2 hms
    rw [if_pos hms, if_pos hms]
    by_cases h7 : cTakes u (ix o) t = true
    · rw [if_pos h7, if_pos h7] at e3 ⊢
      exact ⟨rfl, e3⟩
    · rw [if_neg h7, if_neg h7] at e3 ⊢
      exact ⟨rfl, e3⟩
  · rw [if_neg hms, if_neg hms]
    exact ⟨rfl, h.mono (by omega) (Nat.le_refl _)⟩
theorem call_ok (h : Rel a m v u) (ha : a < 2 ^ 16) (hm : m < 2 ^ 20) {t o n : Int32} : (rSpeak v t o n 1).1 = (cCall u t o n).1 ∧ Rel (a + 10) m (rSpeak v t o n 1).2 (cCall u t o n).2 := by
  obtain ⟨e1, e2⟩ := speak_ok h ha hm (t := t) (o := o) (n := n) (c := 1) (st := 3) (Or.inr ⟨rfl, rfl⟩)
  rw [e1]
  unfold cCall
  by_cases hms : cMaySend u t o n = true
  · have e3 := e2 hms
    rw [if_pos hms, if_pos hms]
    by_cases h7 : cTakes u (ix o) t = true
    · rw [if_pos h7, if_pos h7] at e3 ⊢
      exact ⟨rfl, e3⟩
    · rw [if_neg h7, if_neg h7] at e3 ⊢
      exact ⟨rfl, e3⟩
  · rw [if_neg hms, if_neg hms]
    exact ⟨rfl, h.mono (by omega) (Nat.le_refl _)⟩
end KO2
end
